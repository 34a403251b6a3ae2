/-! best's first call: the blocks of findBest and best, for any A and room -/
def ZA1 (ad : Nat → Nat) (sz : Nat) : Nat → Prop := fun q => ZA ad q ∨ sz ≤ q
section FIRST
variable {p : Program} {l : Launch} {e : Env} {R : Room} {s : State} {m : MethodId} {args : Array Value} {below : List Frame} {meth : Method} {c : Code}
variable {D : va_G} {cA : Nat → ClassId} {ad : Nat → Nat} {A : Nat → Prop} {cells slots : Nat} {Qc : Array Value → State → Outcome → State → Prop}
theorem YvretA {RR : Unit × ZI} {cc : ByteArray} {nL pc : Nat} {own : String} {z : ZI} {H : Heap} {locs : List Loc} {ls : Array Slot} (hq : ∀ t : State, Zok RR.2 → ZO D cA ad (Zc RR.2) t → va_F A s t → Qc args s (.returned none) t) (S : CallFix p m c cc nL s args Ztbl own) (hw : ZW D cA ad A (Zc z) s H locs) (hz : Zok z) (hr : meth.sig.returnType = none) (hlk : meth.locks = false) (hF : some ((), z) = some RR) (hdg : decode cc pc = .ok (.return_, 1)) : W p l e R s m args below meth c H locs cells slots (MQ below Qc args s cells slots A) (F0 m pc ls []) := by
  obtain rfl := Option.some.inj hF
  exact W.vret S.1 S.2.1 hr (fun t ht hW => hq t hz (by show va_P _ _ _ _; rw [ht]; exact hw.2.1) (hw.2.2.2.F ht)) hw.2.2.2.2.2 hdg hlk
theorem YiretiA {RR : Int × ZI} {cc : ByteArray} {nL pc : Nat} {own : String} {z : ZI} {r : Int} {H : Heap} {locs : List Loc} {ls : Array Slot} (hq : ∀ t : State, InR RR.1 → Zok RR.2 → ZO D cA ad (Zc RR.2) t → va_F A s t → Qc args s (.returned (some (.int (i32 RR.1)))) t) (S : CallFix p m c cc nL s args Ztbl own) (hw : ZW D cA ad A (Zc z) s H locs) (hz : Zok z) (hi : InR r) (hr : meth.sig.returnType = some .int) (hlk : meth.locks = false) (hF : some (r, z) = some RR) (hdg : decode cc pc = .ok (.ireturn, 1)) : W p l e R s m args below meth c H locs cells slots (MQ below Qc args s cells slots A) (F0 m pc ls [.int (i32 r)]) := by
  obtain rfl := Option.some.inj hF
  exact W.iret S.1 S.2.1 hr (fun t ht hW => hq t hi hz (by show va_P _ _ _ _; rw [ht]; exact hw.2.1) (hw.2.2.2.F ht)) hw.2.2.2.2.2 hdg hlk
set_option maxRecDepth 100000 in
set_option maxHeartbeats 4000000 in
theorem wn_X9_findBest_b113 {RR : Unit × ZI} (S : CallFix p m c cX9_findBest 4 s args Ztbl RX9) (hr : meth.sig.returnType = none) (hlk : meth.locks = false) (hR : 5 ≤ R.frames ∧ 60 * (5) ≤ R.locals) (hdj : Zdj ad) (hcs : cells ≤ R.cells ∧ slots ≤ R.slots) (hq : ∀ t : State, Zok RR.2 → ZO D cA ad (Zc RR.2) t → va_F A s t → Qc args s (.returned none) t) {k83 : ZI → Int → Option (Unit × ZI)} (hk83 : ∀ (z : ZI) (x3 : Int) (H : Heap) (locs : List Loc) (ls : Array Slot), k83 z x3 = some RR → ZW D cA ad A (Zc z) s H locs → Zok z → InR x3 → lv_has ls 4 [(0, .ref (ad 41)), (3, .int (i32 (x3)))] → W p l e R s m args below meth c H locs cells slots (MQ below Qc args s cells slots A) (F0 m 83 ls [])) : ∀ (z : ZI) (x3 : Int) (H : Heap) (locs : List Loc) (ls : Array Slot), X9_findBest_b113 k83 z x3 = some RR → ZW D cA ad A (Zc z) s H locs → Zok z → InR x3 → lv_has ls 4 [(0, .ref (ad 41)), (3, .int (i32 (x3)))] → W p l e R s m args below meth c H locs cells slots (MQ below Qc args s cells slots A) (F0 m 113 ls []) := by
  intro z x3 H locs ls hF hw hzz hx3 hl
  unfold X9_findBest_b113 at hF
  obtain ⟨g1_, hF⟩ := Zgs hF
  refine lv_iinc (v := i32 (x3 + 1)) (lv' := [(3, .int (i32 (x3 + 1))), (0, .ref (ad 41))]) S.1 S.2.1 dX9_findBest_113 hl (k := 1) rfl Yiinc (by decide) rfl (fun ls hl => ?_)
  refine lv_goto (tgt := 83) S.1 S.2.1 dX9_findBest_116 (by decide) ?_
  exact hk83 _ _ _ _ _ hF hw hzz g1_ (lv_sub hl [1, 0] rfl)
set_option maxRecDepth 100000 in
set_option maxHeartbeats 4000000 in
theorem wn_X9_findBest_L83 {RR : Unit × ZI} (S : CallFix p m c cX9_findBest 4 s args Ztbl RX9) (hr : meth.sig.returnType = none) (hlk : meth.locks = false) (hR : 5 ≤ R.frames ∧ 60 * (5) ≤ R.locals) (hdj : Zdj ad) (hcs : cells ≤ R.cells ∧ slots ≤ R.slots) (hq : ∀ t : State, Zok RR.2 → ZO D cA ad (Zc RR.2) t → va_F A s t → Qc args s (.returned none) t) : ∀ (n : Nat) (z : ZI) (x3 : Int) (H : Heap) (locs : List Loc) (ls : Array Slot), X9_findBest_L83 n z x3 = some RR → ZW D cA ad A (Zc z) s H locs → Zok z → InR x3 → lv_has ls 4 [(0, .ref (ad 41)), (3, .int (i32 (x3)))] → W p l e R s m args below meth c H locs cells slots (MQ below Qc args s cells slots A) (F0 m 83 ls []) := by
  intro n
  induction n with
  | zero => intro z x3 H locs ls hF; exact nomatch hF
  | succ n hk83 =>
    intro z x3 H locs ls hF hw hzz hx3 hl
    replace hF : X9_findBest_L83b (X9_findBest_L83 n) z x3 = some RR := hF
    unfold X9_findBest_L83b at hF
    refine lv_iload_n S.1 S.2.1 dX9_findBest_83 rfl (lv_at hl 1 rfl) ?_
    refine lv_sipush (v := i32 4096) S.1 S.2.1 dX9_findBest_84 sp_4096 ?_
    refine Yicmp_ge (tgt := 119) S hx3 r_4096 dX9_findBest_87 (by decide) (fun c1_ => ?_) (fun c1_ => ?_)
    · replace hF := ZtP c1_ hF
      refine lv_aload_n S.1 S.2.1 dX9_findBest_119 rfl (lv_at hl 0 rfl) ?_
      refine lv_iconst (v := i32 1) S.1 S.2.1 dX9_findBest_120 ic_1 ?_
      refine pp_X9_58 S hw hzz r_1 (Or.inr rfl) dX9_findBest_121 (fun z2_ H locs ez hzz2_ hw => ?_)
      replace hF := Zle ez hF; clear ez
      exact YvretA hq S hw hzz2_ hr hlk hF dX9_findBest_124
    · replace hF := ZtN c1_ hF
      refine lv_aload_n S.1 S.2.1 dX9_findBest_90 rfl (lv_at hl 0 rfl) ?_
      refine gf_X9_48 S hw dX9_findBest_91 ?_
      refine lv_iload_n S.1 S.2.1 dX9_findBest_94 rfl (lv_at hl 1 rfl) ?_
      obtain ⟨b3_, hF⟩ := Zgs hF
      refine Yiald4 S hw hzz zd_52 (by decide) hx3 b3_ dX9_findBest_95 ?_
      refine lv_aload_n S.1 S.2.1 dX9_findBest_96 rfl (lv_at hl 0 rfl) ?_
      refine gf_X9_48 S hw dX9_findBest_97 ?_
      refine lv_aload_n S.1 S.2.1 dX9_findBest_100 rfl (lv_at hl 0 rfl) ?_
      refine gg_X9_118 S hw dX9_findBest_101 ?_
      obtain ⟨b4_, hF⟩ := Zgs hF
      refine Yiald4 S hw hzz zd_52 (by decide) (hzz.1 41 15 (by decide)) b4_ dX9_findBest_104 ?_
      refine Yicmp_ge (tgt := 113) S (hzz.1 _ _ (by decide)) (hzz.1 _ _ (by decide)) dX9_findBest_105 (by decide) (fun c5_ => ?_) (fun c5_ => ?_)
      · replace hF := ZtP c5_ hF
        exact wn_X9_findBest_b113 S hr hlk hR hdj hcs hq hk83 _ _ _ _ _ hF hw hzz hx3 (lv_sub hl [0, 1] rfl)
      · replace hF := ZtN c5_ hF
        refine lv_aload_n S.1 S.2.1 dX9_findBest_108 rfl (lv_at hl 0 rfl) ?_
        refine lv_iload_n S.1 S.2.1 dX9_findBest_109 rfl (lv_at hl 1 rfl) ?_
        refine pp_X9_118 S hw hzz hx3 dX9_findBest_110 (fun z6_ H locs ez hzz6_ hw => ?_)
        replace hF := Zle ez hF; clear ez
        exact wn_X9_findBest_b113 S hr hlk hR hdj hcs hq hk83 _ _ _ _ _ hF hw hzz6_ hx3 (lv_sub hl [0, 1] rfl)
set_option maxRecDepth 100000 in
set_option maxHeartbeats 4000000 in
theorem wn_X9_findBest_b76 {RR : Unit × ZI} (S : CallFix p m c cX9_findBest 4 s args Ztbl RX9) (hr : meth.sig.returnType = none) (hlk : meth.locks = false) (hR : 5 ≤ R.frames ∧ 60 * (5) ≤ R.locals) (hdj : Zdj ad) (hcs : cells ≤ R.cells ∧ slots ≤ R.slots) (hq : ∀ t : State, Zok RR.2 → ZO D cA ad (Zc RR.2) t → va_F A s t → Qc args s (.returned none) t) : ∀ (z : ZI) (H : Heap) (locs : List Loc) (ls : Array Slot), X9_findBest_b76 z  = some RR → ZW D cA ad A (Zc z) s H locs → Zok z → lv_has ls 4 [(0, .ref (ad 41))] → W p l e R s m args below meth c H locs cells slots (MQ below Qc args s cells slots A) (F0 m 76 ls []) := by
  intro z  H locs ls hF hw hzz  hl
  unfold X9_findBest_b76 at hF
  refine lv_aload_n S.1 S.2.1 dX9_findBest_76 rfl (lv_at hl 0 rfl) ?_
  refine lv_iconst (v := i32 0) S.1 S.2.1 dX9_findBest_77 ic_0 ?_
  refine pp_X9_118 S hw hzz r_0 dX9_findBest_78 (fun z1_ H locs ez hzz1_ hw => ?_)
  replace hF := Zle ez hF; clear ez
  refine lv_iconst (v := i32 1) S.1 S.2.1 dX9_findBest_81 ic_1 ?_
  refine lv_istore_n (lv' := [(3, .int (i32 (1))), (0, .ref (ad 41))]) S.1 S.2.1 dX9_findBest_82 rfl hl (by decide) rfl (fun ls hl => ?_)
  exact wn_X9_findBest_L83 S hr hlk hR hdj hcs hq Zfuel _ _ _ _ _ hF hw hzz1_ r_1 (lv_sub hl [1, 0] rfl)
set_option maxRecDepth 100000 in
set_option maxHeartbeats 4000000 in
theorem wn_X9_findBest_L50 {RR : Unit × ZI} (S : CallFix p m c cX9_findBest 4 s args Ztbl RX9) (hr : meth.sig.returnType = none) (hlk : meth.locks = false) (hR : 5 ≤ R.frames ∧ 60 * (5) ≤ R.locals) (hdj : Zdj ad) (hcs : cells ≤ R.cells ∧ slots ≤ R.slots) (hq : ∀ t : State, Zok RR.2 → ZO D cA ad (Zc RR.2) t → va_F A s t → Qc args s (.returned none) t) : ∀ (n : Nat) (z : ZI) (x2 : Int) (x3 : Int) (H : Heap) (locs : List Loc) (ls : Array Slot), X9_findBest_L50 n z x2 x3 = some RR → ZW D cA ad A (Zc z) s H locs → Zok z → InR x2 → InR x3 → lv_has ls 4 [(0, .ref (ad 41)), (1, .ref (ad 11)), (2, .int (i32 (x2))), (3, .int (i32 (x3)))] → W p l e R s m args below meth c H locs cells slots (MQ below Qc args s cells slots A) (F0 m 50 ls []) := by
  intro n
  induction n with
  | zero => intro z x2 x3 H locs ls hF; exact nomatch hF
  | succ n hk50 =>
    intro z x2 x3 H locs ls hF hw hzz hx2 hx3 hl
    replace hF : X9_findBest_L50b (X9_findBest_L50 n) z x2 x3 = some RR := hF
    unfold X9_findBest_L50b at hF
    refine lv_iload_n S.1 S.2.1 dX9_findBest_50 rfl (lv_at hl 3 rfl) ?_
    refine lv_aload_n S.1 S.2.1 dX9_findBest_51 rfl (lv_at hl 0 rfl) ?_
    refine gg_X9_54 S hw dX9_findBest_52 ?_
    refine Yicmp_ge (tgt := 76) S hx3 (hzz.1 41 0 (by decide)) dX9_findBest_55 (by decide) (fun c1_ => ?_) (fun c1_ => ?_)
    · replace hF := ZtP c1_ hF
      exact wn_X9_findBest_b76 S hr hlk hR hdj hcs hq _ _ _ _ hF hw hzz  (lv_sub hl [0] rfl)
    · replace hF := ZtN c1_ hF
      refine lv_aload_n S.1 S.2.1 dX9_findBest_58 rfl (lv_at hl 0 rfl) ?_
      refine lv_aload_n S.1 S.2.1 dX9_findBest_59 rfl (lv_at hl 1 rfl) ?_
      refine lv_iload_n S.1 S.2.1 dX9_findBest_60 rfl (lv_at hl 3 rfl) ?_
      refine lv_iload_n S.1 S.2.1 dX9_findBest_61 rfl (lv_at hl 2 rfl) ?_
      obtain ⟨r4_, z2_, h3_, hF⟩ := Ybs hF
      refine YcallVv (rest := []) S hw (c_X9_lineUp hdj hzz hx3 hx2 h3_) my_X9_lineUp mi_X9_lineUp ml_X9_102 zd_41 zc_X9 rfl (Zrr hR (by decide)) hcs hl.1 rfl rfl (Nat.le_of_ble_eq_true rfl) dX9_findBest_62 (fun hzz2_ H locs hw => ?_)
      refine lv_aload_n S.1 S.2.1 dX9_findBest_65 rfl (lv_at hl 0 rfl) ?_
      refine lv_iload_n S.1 S.2.1 dX9_findBest_66 rfl (lv_at hl 3 rfl) ?_
      obtain ⟨r7_, z5_, h6_, hF⟩ := Ybs hF
      refine YcallVv (rest := []) S hw (c_X9_addLine hdj hzz2_ hx3 h6_) my_X9_addLine mi_X9_addLine ml_X9_114 zd_41 zc_X9 rfl (Zrr hR (by decide)) hcs hl.1 rfl rfl (Nat.le_of_ble_eq_true rfl) dX9_findBest_67 (fun hzz5_ H locs hw => ?_)
      obtain ⟨g8_, hF⟩ := Zgs hF
      refine lv_iinc (v := i32 (x3 + 1)) (lv' := [(3, .int (i32 (x3 + 1))), (0, .ref (ad 41)), (1, .ref (ad 11)), (2, .int (i32 (x2)))]) S.1 S.2.1 dX9_findBest_70 hl (k := 3) rfl Yiinc (by decide) rfl (fun ls hl => ?_)
      refine lv_goto (tgt := 50) S.1 S.2.1 dX9_findBest_73 (by decide) ?_
      exact hk50 _ _ _ _ _ _ hF hw hzz5_ hx2 g8_ (lv_sub hl [1, 2, 3, 0] rfl)
set_option maxRecDepth 100000 in
set_option maxHeartbeats 4000000 in
theorem wn_X9_findBest_b34 {RR : Unit × ZI} (S : CallFix p m c cX9_findBest 4 s args Ztbl RX9) (hr : meth.sig.returnType = none) (hlk : meth.locks = false) (hR : 5 ≤ R.frames ∧ 60 * (5) ≤ R.locals) (hdj : Zdj ad) (hcs : cells ≤ R.cells ∧ slots ≤ R.slots) (hq : ∀ t : State, Zok RR.2 → ZO D cA ad (Zc RR.2) t → va_F A s t → Qc args s (.returned none) t) : ∀ (z : ZI) (x2 : Int) (H : Heap) (locs : List Loc) (ls : Array Slot), X9_findBest_b34 z x2 = some RR → ZW D cA ad A (Zc z) s H locs → Zok z → InR x2 → lv_has ls 4 [(0, .ref (ad 41)), (1, .ref (ad 11)), (2, .int (i32 (x2)))] → W p l e R s m args below meth c H locs cells slots (MQ below Qc args s cells slots A) (F0 m 34 ls []) := by
  intro z x2 H locs ls hF hw hzz hx2 hl
  unfold X9_findBest_b34 at hF
  refine lv_aload_n S.1 S.2.1 dX9_findBest_34 rfl (lv_at hl 0 rfl) ?_
  refine gf_X9_48 S hw dX9_findBest_35 ?_
  refine lv_iconst (v := i32 0) S.1 S.2.1 dX9_findBest_38 ic_0 ?_
  obtain ⟨r3_, z1_, h2_, hF⟩ := Ybs hF
  refine YcallSv (rest := []) S hw (c_J7_fill_531784 hdj zd_52 (by decide) (by decide) hzz r_0 h2_) my_J7_fill_53178 ms_J7_fill_53178 ml_X9_24 (Zrr hR (by decide)) hcs hl.1 rfl rfl (Nat.le_of_ble_eq_true rfl) dX9_findBest_39 (fun hzz1_ H locs hw => ?_)
  refine lv_aload_n S.1 S.2.1 dX9_findBest_42 rfl (lv_at hl 0 rfl) ?_
  refine lv_aload_n S.1 S.2.1 dX9_findBest_43 rfl (lv_at hl 1 rfl) ?_
  refine lv_iload_n S.1 S.2.1 dX9_findBest_44 rfl (lv_at hl 2 rfl) ?_
  obtain ⟨r6_, z4_, h5_, hF⟩ := Ybs hF
  refine YcallVv (rest := []) S hw (c_X9_addThoseWithoutLine hdj hzz1_ hx2 h5_) my_X9_addThoseWithoutLine mi_X9_addThoseWithoutLine ml_X9_110 zd_41 zc_X9 rfl (Zrr hR (by decide)) hcs hl.1 rfl rfl (Nat.le_of_ble_eq_true rfl) dX9_findBest_45 (fun hzz4_ H locs hw => ?_)
  refine lv_iconst (v := i32 0) S.1 S.2.1 dX9_findBest_48 ic_0 ?_
  refine lv_istore_n (lv' := [(3, .int (i32 (0))), (0, .ref (ad 41)), (1, .ref (ad 11)), (2, .int (i32 (x2)))]) S.1 S.2.1 dX9_findBest_49 rfl hl (by decide) rfl (fun ls hl => ?_)
  exact wn_X9_findBest_L50 S hr hlk hR hdj hcs hq Zfuel _ _ _ _ _ _ hF hw hzz4_ hx2 r_0 (lv_sub hl [1, 2, 3, 0] rfl)
set_option maxRecDepth 100000 in
set_option maxHeartbeats 4000000 in
theorem wn_X10_best_b67 {RR : Int × ZI} (S : CallFix p m c cX10_best 2 s args Ztbl RX10) (hr : meth.sig.returnType = some .int) (hlk : meth.locks = false) (hR : 6 ≤ R.frames ∧ 60 * (6) ≤ R.locals) (hdj : Zdj ad) (hcs : cells ≤ R.cells ∧ slots ≤ R.slots) (hq : ∀ t : State, InR RR.1 → Zok RR.2 → ZO D cA ad (Zc RR.2) t → va_F A s t → Qc args s (.returned (some (.int (i32 RR.1)))) t) : ∀ (z : ZI) (y0 : Int) (H : Heap) (locs : List Loc) (ls : Array Slot), X10_best_b67 z y0 = some RR → ZW D cA ad A (Zc z) s H locs → Zok z → InR y0 → lv_has ls 2 [] → W p l e R s m args below meth c H locs cells slots (MQ below Qc args s cells slots A) (F0 m 67 ls [.int (i32 (y0))]) := by
  intro z y0 H locs ls hF hw hzz hy0 hl
  unfold X10_best_b67 at hF
  exact YiretiA hq S hw hzz hy0 hr hlk hF dX10_best_67
set_option maxRecDepth 100000 in
set_option maxHeartbeats 4000000 in
theorem wn_X10_best_31 {RR : Int × ZI} {x1 : Int} (S : CallFix p m c cX10_best 2 s args Ztbl RX10) (hr : meth.sig.returnType = some .int) (hlk : meth.locks = false) (hR : 6 ≤ R.frames ∧ 60 * (6) ≤ R.locals) (hdj : Zdj ad) (hcs : cells ≤ R.cells ∧ slots ≤ R.slots) (hq : ∀ t : State, InR RR.1 → Zok RR.2 → ZO D cA ad (Zc RR.2) t → va_F A s t → Qc args s (.returned (some (.int (i32 RR.1)))) t) (hx1 : InR x1) {z3_ : ZI} {H : Heap} {locs : List Loc} {ls : Array Slot} (hF : bstX z3_ x1 = some RR) (hw : ZW D cA ad A (Zc z3_) s H locs) (hzz3_ : Zok z3_) (hl : lv_has ls 2 [(0, .ref (ad 0)), (1, .int (i32 x1))]) : W p l e R s m args below meth c H locs cells slots (MQ below Qc args s cells slots A) (F0 m 31 ls []) := by
  unfold bstX at hF
  refine lv_iload_n S.1 S.2.1 dX10_best_31 rfl (lv_at hl 1 rfl) ?_
  refine lv_iconst (v := i32 5) S.1 S.2.1 dX10_best_32 ic_5 ?_
  refine Yicmp_ne (tgt := 44) S hx1 r_5 dX10_best_33 (by decide) (fun c6_ => ?_) (fun c6_ => ?_)
  · replace hF := ZtN c6_ hF
    refine lv_iload_n S.1 S.2.1 dX10_best_44 rfl (lv_at hl 1 rfl) ?_
    refine lv_iconst (v := i32 4) S.1 S.2.1 dX10_best_45 ic_4 ?_
    refine Yicmp_ne (tgt := 59) S hx1 r_4 dX10_best_46 (by decide) (fun c7_ => ?_) (fun c7_ => ?_)
    · replace hF := ZtN c7_ hF
      refine lv_aload_n S.1 S.2.1 dX10_best_59 rfl (lv_at hl 0 rfl) ?_
      refine gf_X10_55 S hw dX10_best_60 ?_
      refine lv_iload_n S.1 S.2.1 dX10_best_63 rfl (lv_at hl 1 rfl) ?_
      obtain ⟨r10_, z8_, h9_, hF⟩ := Ybs hF
      refine YcallVi (rest := []) S hw (c_X9_bestBegin hdj hzz3_ hx1 h9_) my_X9_bestBegin mi_X9_bestBegin ml_X10_236 zd_41 zc_X9 rfl (Zrr hR (by decide)) hcs hl.1 rfl rfl (Nat.le_of_ble_eq_true rfl) dX10_best_64 (fun hrr10_ hzz8_ H locs hw => ?_)
      exact wn_X10_best_b67 S hr hlk hR hdj hcs hq _ _ _ _ _ hF hw hzz8_ hrr10_ (lv_sub hl [] rfl)
    · replace hF := ZtP c7_ hF
      refine lv_aload_n S.1 S.2.1 dX10_best_49 rfl (lv_at hl 0 rfl) ?_
      refine gf_X10_55 S hw dX10_best_50 ?_
      obtain ⟨r13_, z11_, h12_, hF⟩ := Ybs hF
      refine YcallVi (rest := []) S hw (c_X9_bestUnserved hdj hzz3_  h12_) my_X9_bestUnserved mi_X9_bestUnserved ml_X10_233 zd_41 zc_X9 rfl (Zrr hR (by decide)) hcs hl.1 rfl rfl (Nat.le_of_ble_eq_true rfl) dX10_best_53 (fun hrr13_ hzz11_ H locs hw => ?_)
      refine lv_goto (tgt := 67) S.1 S.2.1 dX10_best_56 (by decide) ?_
      exact wn_X10_best_b67 S hr hlk hR hdj hcs hq _ _ _ _ _ hF hw hzz11_ hrr13_ (lv_sub hl [] rfl)
  · replace hF := ZtP c6_ hF
    refine lv_aload_n S.1 S.2.1 dX10_best_36 rfl (lv_at hl 0 rfl) ?_
    refine gf_X10_55 S hw dX10_best_37 ?_
    obtain ⟨r16_, z14_, h15_, hF⟩ := Ybs hF
    refine YcallVi (rest := []) S hw (c_X9_bestSum hdj hzz3_  h15_) my_X9_bestSum mi_X9_bestSum ml_X10_230 zd_41 zc_X9 rfl (Zrr hR (by decide)) hcs hl.1 rfl rfl (Nat.le_of_ble_eq_true rfl) dX10_best_40 (fun hrr16_ hzz14_ H locs hw => ?_)
    exact YiretiA hq S hw hzz14_ hrr16_ hr hlk hF dX10_best_43
end FIRST
