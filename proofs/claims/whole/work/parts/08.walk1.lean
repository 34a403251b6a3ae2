section ZWALK
variable {p : Program} {l : Launch} {e : Env} {R : Room} {s : State} {m : MethodId} {args : Array Value} {below : List Frame} {meth : Method} {c : Code}
variable {D : va_G} {cA : Nat → ClassId} {ad : Nat → Nat}
set_option maxRecDepth 100000 in
set_option maxHeartbeats 4000000 in
theorem w_X9_addLine_b71 {RR : Unit × ZI} (S : CallFix p m c cX9_addLine 4 s args Ztbl RX9) (hr : meth.sig.returnType = none) (hlk : meth.locks = false) (hR : 4 ≤ R.frames ∧ 60 * (4) ≤ R.locals) (hdj : Zdj ad) {k35 : ZI → Int → Int → Int → Option (Unit × ZI)} (hk35 : ∀ (z : ZI) (x1 : Int) (x2 : Int) (x3 : Int) (H : Heap) (locs : List Loc) (ls : Array Slot), k35 z x1 x2 x3 = some RR → ZW D cA ad (ZA ad) (Zc z) s H locs → Zok z → InR x1 → InR x2 → InR x3 → lv_has ls 4 [(0, .ref (ad 41)), (1, .int (i32 (x1))), (2, .int (i32 (x2))), (3, .int (i32 (x3)))] → W p l e R s m args below meth c H locs 0 0 (MQ below (YQv D cA ad RR.2) args s 0 0 (ZA ad)) (F0 m 35 ls [])) : ∀ (z : ZI) (x1 : Int) (x2 : Int) (x3 : Int) (y1 : Int) (y2 : Int) (H : Heap) (locs : List Loc) (ls : Array Slot), X9_addLine_b71 k35 z x1 x2 x3 y1 y2 = some RR → ZW D cA ad (ZA ad) (Zc z) s H locs → Zok z → InR x1 → InR x2 → InR x3 → InR y1 → InR y2 → lv_has ls 4 [(0, .ref (ad 41)), (1, .int (i32 (x1))), (2, .int (i32 (x2))), (3, .int (i32 (x3)))] → W p l e R s m args below meth c H locs 0 0 (MQ below (YQv D cA ad RR.2) args s 0 0 (ZA ad)) (F0 m 71 ls [.int (i32 (y2)), .int (i32 (y1)), .ref (ad 53)]) := by
  intro z x1 x2 x3 y1 y2 H locs ls hF hw hzz hx1 hx2 hx3 hy1 hy2 hl
  unfold X9_addLine_b71 at hF
  obtain ⟨b1_, hF⟩ := Zgs hF
  refine Yiast4 S hw hzz zd_53 (by decide) hy1 hy2 b1_ dX9_addLine_71 (fun z2_ H locs ez hzz2_ hw => ?_)
  replace hF := Zle ez hF; clear ez
  refine lv_aload_n S.1 S.2.1 dX9_addLine_72 rfl (lv_at hl 0 rfl) ?_
  refine gf_X9_48 S hw dX9_addLine_73 ?_
  refine lv_iload_n S.1 S.2.1 dX9_addLine_76 rfl (lv_at hl 3 rfl) ?_
  refine lv_dup2_11 S.1 S.2.1 dX9_addLine_77 rfl rfl ?_
  obtain ⟨b3_, hF⟩ := Zgs hF
  refine Yiald4 S hw hzz2_ zd_52 (by decide) hx3 b3_ dX9_addLine_78 ?_
  refine lv_aload_n S.1 S.2.1 dX9_addLine_79 rfl (lv_at hl 0 rfl) ?_
  refine gf_X9_51 S hw dX9_addLine_80 ?_
  refine lv_iload_n S.1 S.2.1 dX9_addLine_83 rfl (lv_at hl 3 rfl) ?_
  obtain ⟨b4_, hF⟩ := Zgs hF
  refine Yiald4 S hw hzz2_ zd_53 (by decide) hx3 b4_ dX9_addLine_84 ?_
  obtain ⟨g5_, hF⟩ := Zgs hF
  refine Yiadd S dX9_addLine_85 ?_
  obtain ⟨b6_, hF⟩ := Zgs hF
  refine Yiast4 S hw hzz2_ zd_52 (by decide) hx3 g5_ b6_ dX9_addLine_86 (fun z7_ H locs ez hzz7_ hw => ?_)
  replace hF := Zle ez hF; clear ez
  obtain ⟨g8_, hF⟩ := Zgs hF
  refine lv_iinc (v := i32 (x3 + 1)) (lv' := [(3, .int (i32 (x3 + 1))), (0, .ref (ad 41)), (1, .int (i32 (x1))), (2, .int (i32 (x2)))]) S.1 S.2.1 dX9_addLine_87 hl (k := 3) rfl Yiinc (by decide) rfl (fun ls hl => ?_)
  refine lv_goto (tgt := 35) S.1 S.2.1 dX9_addLine_90 (by decide) ?_
  exact hk35 _ _ _ _ _ _ _ hF hw hzz7_ hx1 hx2 g8_ (lv_sub hl [1, 2, 3, 0] rfl)
set_option maxRecDepth 100000 in
set_option maxHeartbeats 4000000 in
theorem w_X9_addLine_L35 {RR : Unit × ZI} (S : CallFix p m c cX9_addLine 4 s args Ztbl RX9) (hr : meth.sig.returnType = none) (hlk : meth.locks = false) (hR : 4 ≤ R.frames ∧ 60 * (4) ≤ R.locals) (hdj : Zdj ad) : ∀ (n : Nat) (z : ZI) (x1 : Int) (x2 : Int) (x3 : Int) (H : Heap) (locs : List Loc) (ls : Array Slot), X9_addLine_L35 n z x1 x2 x3 = some RR → ZW D cA ad (ZA ad) (Zc z) s H locs → Zok z → InR x1 → InR x2 → InR x3 → lv_has ls 4 [(0, .ref (ad 41)), (1, .int (i32 (x1))), (2, .int (i32 (x2))), (3, .int (i32 (x3)))] → W p l e R s m args below meth c H locs 0 0 (MQ below (YQv D cA ad RR.2) args s 0 0 (ZA ad)) (F0 m 35 ls []) := by
  intro n
  induction n with
  | zero => intro z x1 x2 x3 H locs ls hF; exact nomatch hF
  | succ n hk35 =>
    intro z x1 x2 x3 H locs ls hF hw hzz hx1 hx2 hx3 hl
    replace hF : X9_addLine_L35b (X9_addLine_L35 n) z x1 x2 x3 = some RR := hF
    unfold X9_addLine_L35b at hF
    refine lv_iload_n S.1 S.2.1 dX9_addLine_35 rfl (lv_at hl 3 rfl) ?_
    refine lv_sipush (v := i32 4096) S.1 S.2.1 dX9_addLine_36 sp_4096 ?_
    refine Yicmp_ge (tgt := 93) S hx3 r_4096 dX9_addLine_39 (by decide) (fun c1_ => ?_) (fun c1_ => ?_)
    · replace hF := ZtP c1_ hF
      exact Yvret S hw hzz hr hlk hF dX9_addLine_93
    · replace hF := ZtN c1_ hF
      refine lv_aload_n S.1 S.2.1 dX9_addLine_42 rfl (lv_at hl 0 rfl) ?_
      refine gf_X9_51 S hw dX9_addLine_43 ?_
      refine lv_iload_n S.1 S.2.1 dX9_addLine_46 rfl (lv_at hl 3 rfl) ?_
      refine lv_iload_n S.1 S.2.1 dX9_addLine_47 rfl (lv_at hl 3 rfl) ?_
      refine lv_iload_n S.1 S.2.1 dX9_addLine_48 rfl (lv_at hl 2 rfl) ?_
      refine Yiand S dX9_addLine_49 ?_
      refine lv_iload_n S.1 S.2.1 dX9_addLine_50 rfl (lv_at hl 3 rfl) ?_
      refine Yicmp_ne (tgt := 63) S (InR_of _) hx3 dX9_addLine_51 (by decide) (fun c2_ => ?_) (fun c2_ => ?_)
      · replace hF := ZtN c2_ hF
        refine lv_aload_n S.1 S.2.1 dX9_addLine_63 rfl (lv_at hl 0 rfl) ?_
        refine gf_X9_51 S hw dX9_addLine_64 ?_
        refine lv_iload_n S.1 S.2.1 dX9_addLine_67 rfl (lv_at hl 3 rfl) ?_
        refine lv_iload_n S.1 S.2.1 dX9_addLine_68 rfl (lv_at hl 2 rfl) ?_
        refine Yiand S dX9_addLine_69 ?_
        obtain ⟨b3_, hF⟩ := Zgs hF
        refine Yiald4 S hw hzz zd_53 (by decide) (InR_of _) b3_ dX9_addLine_70 ?_
        exact w_X9_addLine_b71 S hr hlk hR hdj hk35 _ _ _ _ _ _ _ _ _ hF hw hzz hx1 hx2 hx3 hx3 (hzz.1 _ _ (by decide)) (lv_sub hl [0, 1, 2, 3] rfl)
      · replace hF := ZtP c2_ hF
        refine lv_aload_n S.1 S.2.1 dX9_addLine_54 rfl (lv_at hl 0 rfl) ?_
        refine lv_iload_n S.1 S.2.1 dX9_addLine_55 rfl (lv_at hl 1 rfl) ?_
        refine lv_iload_n S.1 S.2.1 dX9_addLine_56 rfl (lv_at hl 3 rfl) ?_
        obtain ⟨r6_, z4_, h5_, hF⟩ := Ybs hF
        refine YcallVi (rest := [.int (i32 (x3)), .ref (ad 53)]) S hw (c_X9_lineCost hdj hzz hx1 hx3 h5_) my_X9_lineCost mi_X9_lineCost ml_X9_127 zd_41 zc_X9 rfl (Zrr hR (by decide)) ⟨Nat.zero_le _, Nat.zero_le _⟩ hl.1 rfl rfl (Nat.le_of_ble_eq_true rfl) dX9_addLine_57 (fun hrr6_ hzz4_ H locs hw => ?_)
        refine lv_goto (tgt := 71) S.1 S.2.1 dX9_addLine_60 (by decide) ?_
        exact w_X9_addLine_b71 S hr hlk hR hdj hk35 _ _ _ _ _ _ _ _ _ hF hw hzz4_ hx1 hx2 hx3 hx3 hrr6_ (lv_sub hl [0, 1, 2, 3] rfl)
set_option maxRecDepth 100000 in
set_option maxHeartbeats 4000000 in
theorem w_X9_addLine_b33 {RR : Unit × ZI} (S : CallFix p m c cX9_addLine 4 s args Ztbl RX9) (hr : meth.sig.returnType = none) (hlk : meth.locks = false) (hR : 4 ≤ R.frames ∧ 60 * (4) ≤ R.locals) (hdj : Zdj ad) : ∀ (z : ZI) (x1 : Int) (x2 : Int) (H : Heap) (locs : List Loc) (ls : Array Slot), X9_addLine_b33 z x1 x2 = some RR → ZW D cA ad (ZA ad) (Zc z) s H locs → Zok z → InR x1 → InR x2 → lv_has ls 4 [(0, .ref (ad 41)), (1, .int (i32 (x1))), (2, .int (i32 (x2)))] → W p l e R s m args below meth c H locs 0 0 (MQ below (YQv D cA ad RR.2) args s 0 0 (ZA ad)) (F0 m 33 ls []) := by
  intro z x1 x2 H locs ls hF hw hzz hx1 hx2 hl
  unfold X9_addLine_b33 at hF
  refine lv_iconst (v := i32 0) S.1 S.2.1 dX9_addLine_33 ic_0 ?_
  refine lv_istore_n (lv' := [(3, .int (i32 (0))), (0, .ref (ad 41)), (1, .int (i32 (x1))), (2, .int (i32 (x2)))]) S.1 S.2.1 dX9_addLine_34 rfl hl (by decide) rfl (fun ls hl => ?_)
  exact w_X9_addLine_L35 S hr hlk hR hdj Zfuel _ _ _ _ _ _ _ hF hw hzz hx1 hx2 r_0 (lv_sub hl [1, 2, 3, 0] rfl)
set_option maxRecDepth 100000 in
set_option maxHeartbeats 4000000 in
theorem w_X9_addLine_L4 {RR : Unit × ZI} (S : CallFix p m c cX9_addLine 4 s args Ztbl RX9) (hr : meth.sig.returnType = none) (hlk : meth.locks = false) (hR : 4 ≤ R.frames ∧ 60 * (4) ≤ R.locals) (hdj : Zdj ad) : ∀ (n : Nat) (z : ZI) (x1 : Int) (x2 : Int) (x3 : Int) (H : Heap) (locs : List Loc) (ls : Array Slot), X9_addLine_L4 n z x1 x2 x3 = some RR → ZW D cA ad (ZA ad) (Zc z) s H locs → Zok z → InR x1 → InR x2 → InR x3 → lv_has ls 4 [(0, .ref (ad 41)), (1, .int (i32 (x1))), (2, .int (i32 (x2))), (3, .int (i32 (x3)))] → W p l e R s m args below meth c H locs 0 0 (MQ below (YQv D cA ad RR.2) args s 0 0 (ZA ad)) (F0 m 4 ls []) := by
  intro n
  induction n with
  | zero => intro z x1 x2 x3 H locs ls hF; exact nomatch hF
  | succ n hk4 =>
    intro z x1 x2 x3 H locs ls hF hw hzz hx1 hx2 hx3 hl
    replace hF : X9_addLine_L4b (X9_addLine_L4 n) z x1 x2 x3 = some RR := hF
    unfold X9_addLine_L4b at hF
    refine lv_iload_n S.1 S.2.1 dX9_addLine_4 rfl (lv_at hl 3 rfl) ?_
    refine lv_aload_n S.1 S.2.1 dX9_addLine_5 rfl (lv_at hl 0 rfl) ?_
    refine gg_X9_68 S hw dX9_addLine_6 ?_
    refine Yicmp_ge (tgt := 33) S hx3 (hzz.1 41 5 (by decide)) dX9_addLine_9 (by decide) (fun c1_ => ?_) (fun c1_ => ?_)
    · replace hF := ZtP c1_ hF
      exact w_X9_addLine_b33 S hr hlk hR hdj _ _ _ _ _ _ hF hw hzz hx1 hx2 (lv_sub hl [0, 1, 2] rfl)
    · replace hF := ZtN c1_ hF
      refine lv_iload_n S.1 S.2.1 dX9_addLine_12 rfl (lv_at hl 2 rfl) ?_
      refine lv_bipush (v := i32 7) S.1 S.2.1 dX9_addLine_13 bp_7 ?_
      refine lv_aload_n S.1 S.2.1 dX9_addLine_15 rfl (lv_at hl 0 rfl) ?_
      refine gf_X9_33 S hw dX9_addLine_16 ?_
      refine lv_iload_n S.1 S.2.1 dX9_addLine_19 rfl (lv_at hl 3 rfl) ?_
      obtain ⟨b2_, hF⟩ := Zgs hF
      refine Yiald S hw zd_47 (by decide) hx3 b2_ dX9_addLine_20 ?_
      obtain ⟨r5_, z3_, h4_, hF⟩ := Ybs hF
      refine YcallSi (rest := [.int (i32 (7)), .int (i32 (x2))]) S hw (c_X9_shiftOf hdj hzz (hzz.1 _ _ (by decide)) h4_) my_X9_shiftOf ms_X9_shiftOf ml_X9_121 (Zrr hR (by decide)) ⟨Nat.zero_le _, Nat.zero_le _⟩ hl.1 rfl rfl (Nat.le_of_ble_eq_true rfl) dX9_addLine_21 (fun hrr5_ hzz3_ H locs hw => ?_)
      refine Yishl S dX9_addLine_24 ?_
      refine Yior S dX9_addLine_25 ?_
      refine lv_istore_n (lv' := [(2, .int (i32 (jor x2 (jshl 7 r5_)))), (0, .ref (ad 41)), (1, .int (i32 (x1))), (3, .int (i32 (x3)))]) S.1 S.2.1 dX9_addLine_26 rfl hl (by decide) rfl (fun ls hl => ?_)
      obtain ⟨g6_, hF⟩ := Zgs hF
      refine lv_iinc (v := i32 (x3 + 1)) (lv' := [(3, .int (i32 (x3 + 1))), (2, .int (i32 (jor x2 (jshl 7 r5_)))), (0, .ref (ad 41)), (1, .int (i32 (x1)))]) S.1 S.2.1 dX9_addLine_27 hl (k := 3) rfl Yiinc (by decide) rfl (fun ls hl => ?_)
      refine lv_goto (tgt := 4) S.1 S.2.1 dX9_addLine_30 (by decide) ?_
      exact hk4 _ _ _ _ _ _ _ hF hw hzz3_ hx1 (InR_of _) g6_ (lv_sub hl [2, 3, 1, 0] rfl)
set_option maxRecDepth 100000 in
set_option maxHeartbeats 4000000 in
theorem c_X9_addLine {l : Launch} {D : va_G} {cA : Nat → ClassId} {ad : Nat → Nat} (hdj : Zdj ad) {z z1 : ZI} {x1 : Int} (hzz : Zok z) (hx1 : InR x1) (hF : F_X9_addLine z x1 = some ((), z1)) : YMv l D cA ad (4) yX9_addLine cX9_addLine 4 [.ref (ad 41), .int (i32 x1)] z z1 :=
  Zmet hdj (by decide) rfl (Nat.le_of_ble_eq_true rfl) (lv := [(0, .ref (ad 41)), (1, .int (i32 (x1)))]) rfl (fun p e s m args below meth c ls S hr hlk hw hl => by
    have hR : 4 ≤ (Zrm (4)).frames ∧ 60 * (4) ≤ (Zrm (4)).locals := ⟨Nat.le_refl _, Nat.le_refl _⟩
    unfold F_X9_addLine at hF
    revert hR
    generalize Zrm (4) = R
    intro hR
    refine lv_iconst (v := i32 0) S.1 S.2.1 dX9_addLine_0 ic_0 ?_
    refine lv_istore_n (lv' := [(2, .int (i32 (0))), (0, .ref (ad 41)), (1, .int (i32 (x1)))]) S.1 S.2.1 dX9_addLine_1 rfl hl (by decide) rfl (fun ls hl => ?_)
    refine lv_iconst (v := i32 0) S.1 S.2.1 dX9_addLine_2 ic_0 ?_
    refine lv_istore_n (lv' := [(3, .int (i32 (0))), (2, .int (i32 (0))), (0, .ref (ad 41)), (1, .int (i32 (x1)))]) S.1 S.2.1 dX9_addLine_3 rfl hl (by decide) rfl (fun ls hl => ?_)
    exact w_X9_addLine_L4 S hr hlk hR hdj Zfuel _ _ _ _ _ _ _ hF hw hzz hx1 r_0 r_0 (lv_sub hl [2, 3, 1, 0] rfl))
set_option maxRecDepth 100000 in
set_option maxHeartbeats 4000000 in
theorem c_X3_blockOf {l : Launch} {D : va_G} {cA : Nat → ClassId} {ad : Nat → Nat} (hdj : Zdj ad) {z z1 : ZI} {x1 : Int} {r : Int} (hzz : Zok z) (hx1 : InR x1) (hF : F_X3_blockOf z x1 = some (r, z1)) : YMi l D cA ad (0) yX3_blockOf cX3_blockOf 2 (some .int) [.ref (ad 11), .int (i32 x1)] z r z1 :=
  Zmet hdj (by decide) rfl (Nat.le_of_ble_eq_true rfl) (lv := [(0, .ref (ad 11)), (1, .int (i32 (x1)))]) rfl (fun p e s m args below meth c ls S hr hlk hw hl => by
    have hR : 0 ≤ (Zrm (0)).frames ∧ 60 * (0) ≤ (Zrm (0)).locals := ⟨Nat.le_refl _, Nat.le_refl _⟩
    unfold F_X3_blockOf at hF
    revert hR
    generalize Zrm (0) = R
    intro hR
    refine lv_aload_n S.1 S.2.1 dX3_blockOf_0 rfl (lv_at hl 0 rfl) ?_
    refine gf_X3_15 S hw dX3_blockOf_1 ?_
    refine lv_iload_n S.1 S.2.1 dX3_blockOf_4 rfl (lv_at hl 1 rfl) ?_
    obtain ⟨b1_, hF⟩ := Zgs hF
    refine Yiald S hw zd_13 (by decide) hx1 b1_ dX3_blockOf_5 ?_
    exact Yireti S hw hzz (hzz.1 _ _ (by decide)) hr hlk hF dX3_blockOf_6)
set_option maxRecDepth 100000 in
set_option maxHeartbeats 4000000 in
theorem w_X9_addThoseWithoutLine_b93 {RR : Unit × ZI} (S : CallFix p m c cX9_addThoseWithoutLine 7 s args Ztbl RX9) (hr : meth.sig.returnType = none) (hlk : meth.locks = false) (hR : 3 ≤ R.frames ∧ 60 * (3) ≤ R.locals) (hdj : Zdj ad) {k2 : ZI → Int → Int → Option (Unit × ZI)} (hk2 : ∀ (z : ZI) (x2 : Int) (x3 : Int) (H : Heap) (locs : List Loc) (ls : Array Slot), k2 z x2 x3 = some RR → ZW D cA ad (ZA ad) (Zc z) s H locs → Zok z → InR x2 → InR x3 → lv_has ls 7 [(0, .ref (ad 41)), (1, .ref (ad 11)), (2, .int (i32 (x2))), (3, .int (i32 (x3)))] → W p l e R s m args below meth c H locs 0 0 (MQ below (YQv D cA ad RR.2) args s 0 0 (ZA ad)) (F0 m 2 ls [])) : ∀ (z : ZI) (x2 : Int) (x3 : Int) (H : Heap) (locs : List Loc) (ls : Array Slot), X9_addThoseWithoutLine_b93 k2 z x2 x3 = some RR → ZW D cA ad (ZA ad) (Zc z) s H locs → Zok z → InR x2 → InR x3 → lv_has ls 7 [(0, .ref (ad 41)), (1, .ref (ad 11)), (2, .int (i32 (x2))), (3, .int (i32 (x3)))] → W p l e R s m args below meth c H locs 0 0 (MQ below (YQv D cA ad RR.2) args s 0 0 (ZA ad)) (F0 m 93 ls []) := by
  intro z x2 x3 H locs ls hF hw hzz hx2 hx3 hl
  unfold X9_addThoseWithoutLine_b93 at hF
  obtain ⟨g1_, hF⟩ := Zgs hF
  refine lv_iinc (v := i32 (x3 + 1)) (lv' := [(3, .int (i32 (x3 + 1))), (0, .ref (ad 41)), (1, .ref (ad 11)), (2, .int (i32 (x2)))]) S.1 S.2.1 dX9_addThoseWithoutLine_93 hl (k := 3) rfl Yiinc (by decide) rfl (fun ls hl => ?_)
  refine lv_goto (tgt := 2) S.1 S.2.1 dX9_addThoseWithoutLine_96 (by decide) ?_
  exact hk2 _ _ _ _ _ _ hF hw hzz hx2 g1_ (lv_sub hl [1, 2, 3, 0] rfl)
set_option maxRecDepth 100000 in
set_option maxHeartbeats 4000000 in
theorem w_X9_addThoseWithoutLine_b85 {RR : Unit × ZI} (S : CallFix p m c cX9_addThoseWithoutLine 7 s args Ztbl RX9) (hr : meth.sig.returnType = none) (hlk : meth.locks = false) (hR : 3 ≤ R.frames ∧ 60 * (3) ≤ R.locals) (hdj : Zdj ad) {k2 : ZI → Int → Int → Option (Unit × ZI)} (hk2 : ∀ (z : ZI) (x2 : Int) (x3 : Int) (H : Heap) (locs : List Loc) (ls : Array Slot), k2 z x2 x3 = some RR → ZW D cA ad (ZA ad) (Zc z) s H locs → Zok z → InR x2 → InR x3 → lv_has ls 7 [(0, .ref (ad 41)), (1, .ref (ad 11)), (2, .int (i32 (x2))), (3, .int (i32 (x3)))] → W p l e R s m args below meth c H locs 0 0 (MQ below (YQv D cA ad RR.2) args s 0 0 (ZA ad)) (F0 m 2 ls [])) {k51 : ZI → Int → Int → Int → Int → Int → Option (Unit × ZI)} (hk51 : ∀ (z : ZI) (x2 : Int) (x3 : Int) (x4 : Int) (x5 : Int) (x6 : Int) (H : Heap) (locs : List Loc) (ls : Array Slot), k51 z x2 x3 x4 x5 x6 = some RR → ZW D cA ad (ZA ad) (Zc z) s H locs → Zok z → InR x2 → InR x3 → InR x4 → InR x5 → InR x6 → lv_has ls 7 [(0, .ref (ad 41)), (1, .ref (ad 11)), (2, .int (i32 (x2))), (3, .int (i32 (x3))), (4, .int (i32 (x4))), (5, .int (i32 (x5))), (6, .int (i32 (x6)))] → W p l e R s m args below meth c H locs 0 0 (MQ below (YQv D cA ad RR.2) args s 0 0 (ZA ad)) (F0 m 51 ls [])) : ∀ (z : ZI) (x2 : Int) (x3 : Int) (x4 : Int) (x5 : Int) (x6 : Int) (y1 : Int) (y2 : Int) (y3 : Int) (H : Heap) (locs : List Loc) (ls : Array Slot), X9_addThoseWithoutLine_b85 k2 k51 z x2 x3 x4 x5 x6 y1 y2 y3 = some RR → ZW D cA ad (ZA ad) (Zc z) s H locs → Zok z → InR x2 → InR x3 → InR x4 → InR x5 → InR x6 → InR y1 → InR y2 → InR y3 → lv_has ls 7 [(0, .ref (ad 41)), (1, .ref (ad 11)), (2, .int (i32 (x2))), (3, .int (i32 (x3))), (4, .int (i32 (x4))), (5, .int (i32 (x5))), (6, .int (i32 (x6)))] → W p l e R s m args below meth c H locs 0 0 (MQ below (YQv D cA ad RR.2) args s 0 0 (ZA ad)) (F0 m 85 ls [.int (i32 (y3)), .int (i32 (y2)), .int (i32 (y1)), .ref (ad 52)]) := by
  intro z x2 x3 x4 x5 x6 y1 y2 y3 H locs ls hF hw hzz hx2 hx3 hx4 hx5 hx6 hy1 hy2 hy3 hl
  unfold X9_addThoseWithoutLine_b85 at hF
  obtain ⟨g1_, hF⟩ := Zgs hF
  refine Yiadd S dX9_addThoseWithoutLine_85 ?_
  obtain ⟨b2_, hF⟩ := Zgs hF
  refine Yiast4 S hw hzz zd_52 (by decide) hy1 g1_ b2_ dX9_addThoseWithoutLine_86 (fun z3_ H locs ez hzz3_ hw => ?_)
  replace hF := Zle ez hF; clear ez
  obtain ⟨g4_, hF⟩ := Zgs hF
  refine lv_iinc (v := i32 (x6 + 1)) (lv' := [(6, .int (i32 (x6 + 1))), (0, .ref (ad 41)), (1, .ref (ad 11)), (2, .int (i32 (x2))), (3, .int (i32 (x3))), (4, .int (i32 (x4))), (5, .int (i32 (x5)))]) S.1 S.2.1 dX9_addThoseWithoutLine_87 hl (k := 6) rfl Yiinc (by decide) rfl (fun ls hl => ?_)
  refine lv_goto (tgt := 51) S.1 S.2.1 dX9_addThoseWithoutLine_90 (by decide) ?_
  exact hk51 _ _ _ _ _ _ _ _ _ hF hw hzz3_ hx2 hx3 hx4 hx5 g4_ (lv_sub hl [1, 2, 3, 4, 5, 6, 0] rfl)
set_option maxRecDepth 100000 in
set_option maxHeartbeats 4000000 in
theorem w_X9_addThoseWithoutLine_L51 {RR : Unit × ZI} (S : CallFix p m c cX9_addThoseWithoutLine 7 s args Ztbl RX9) (hr : meth.sig.returnType = none) (hlk : meth.locks = false) (hR : 3 ≤ R.frames ∧ 60 * (3) ≤ R.locals) (hdj : Zdj ad) {k2 : ZI → Int → Int → Option (Unit × ZI)} (hk2 : ∀ (z : ZI) (x2 : Int) (x3 : Int) (H : Heap) (locs : List Loc) (ls : Array Slot), k2 z x2 x3 = some RR → ZW D cA ad (ZA ad) (Zc z) s H locs → Zok z → InR x2 → InR x3 → lv_has ls 7 [(0, .ref (ad 41)), (1, .ref (ad 11)), (2, .int (i32 (x2))), (3, .int (i32 (x3)))] → W p l e R s m args below meth c H locs 0 0 (MQ below (YQv D cA ad RR.2) args s 0 0 (ZA ad)) (F0 m 2 ls [])) : ∀ (n : Nat) (z : ZI) (x2 : Int) (x3 : Int) (x4 : Int) (x5 : Int) (x6 : Int) (H : Heap) (locs : List Loc) (ls : Array Slot), X9_addThoseWithoutLine_L51 k2 n z x2 x3 x4 x5 x6 = some RR → ZW D cA ad (ZA ad) (Zc z) s H locs → Zok z → InR x2 → InR x3 → InR x4 → InR x5 → InR x6 → lv_has ls 7 [(0, .ref (ad 41)), (1, .ref (ad 11)), (2, .int (i32 (x2))), (3, .int (i32 (x3))), (4, .int (i32 (x4))), (5, .int (i32 (x5))), (6, .int (i32 (x6)))] → W p l e R s m args below meth c H locs 0 0 (MQ below (YQv D cA ad RR.2) args s 0 0 (ZA ad)) (F0 m 51 ls []) := by
  intro n
  induction n with
  | zero => intro z x2 x3 x4 x5 x6 H locs ls hF; exact nomatch hF
  | succ n hk51 =>
    intro z x2 x3 x4 x5 x6 H locs ls hF hw hzz hx2 hx3 hx4 hx5 hx6 hl
    replace hF : X9_addThoseWithoutLine_L51b k2 (X9_addThoseWithoutLine_L51 k2 n) z x2 x3 x4 x5 x6 = some RR := hF
    unfold X9_addThoseWithoutLine_L51b at hF
    refine lv_iload S.1 S.2.1 dX9_addThoseWithoutLine_51 (lv_at hl 6 rfl) ?_
    refine lv_sipush (v := i32 4096) S.1 S.2.1 dX9_addThoseWithoutLine_53 sp_4096 ?_
    refine Yicmp_ge (tgt := 93) S hx6 r_4096 dX9_addThoseWithoutLine_56 (by decide) (fun c1_ => ?_) (fun c1_ => ?_)
    · replace hF := ZtP c1_ hF
      exact w_X9_addThoseWithoutLine_b93 S hr hlk hR hdj hk2 _ _ _ _ _ _ hF hw hzz hx2 hx3 (lv_sub hl [0, 1, 2, 3] rfl)
    · replace hF := ZtN c1_ hF
      refine lv_aload_n S.1 S.2.1 dX9_addThoseWithoutLine_59 rfl (lv_at hl 0 rfl) ?_
      refine gf_X9_48 S hw dX9_addThoseWithoutLine_60 ?_
      refine lv_iload S.1 S.2.1 dX9_addThoseWithoutLine_63 (lv_at hl 6 rfl) ?_
      refine lv_dup2_11 S.1 S.2.1 dX9_addThoseWithoutLine_65 rfl rfl ?_
      obtain ⟨b2_, hF⟩ := Zgs hF
      refine Yiald4 S hw hzz zd_52 (by decide) hx6 b2_ dX9_addThoseWithoutLine_66 ?_
      refine lv_iload S.1 S.2.1 dX9_addThoseWithoutLine_67 (lv_at hl 4 rfl) ?_
      refine Yif_eq (tgt := 78) S hx4 dX9_addThoseWithoutLine_69 (by decide) (fun c3_ => ?_) (fun c3_ => ?_)
      · replace hF := ZtP c3_ hF
        refine lv_iload S.1 S.2.1 dX9_addThoseWithoutLine_78 (lv_at hl 6 rfl) ?_
        refine lv_iload S.1 S.2.1 dX9_addThoseWithoutLine_80 (lv_at hl 5 rfl) ?_
        obtain ⟨r6_, z4_, h5_, hF⟩ := Ybs hF
        refine YcallSi (rest := [.int (i32 (z 52 x6)), .int (i32 (x6)), .ref (ad 52)]) S hw (c_X9_beginIn hdj hzz hx6 hx5 h5_) my_X9_beginIn ms_X9_beginIn ml_X9_124 (Zrr hR (by decide)) ⟨Nat.zero_le _, Nat.zero_le _⟩ hl.1 rfl rfl (Nat.le_of_ble_eq_true rfl) dX9_addThoseWithoutLine_82 (fun hrr6_ hzz4_ H locs hw => ?_)
        exact w_X9_addThoseWithoutLine_b85 S hr hlk hR hdj hk2 hk51 _ _ _ _ _ _ _ _ _ _ _ _ hF hw hzz4_ hx2 hx3 hx4 hx5 hx6 hx6 (hzz.1 _ _ (by decide)) hrr6_ (lv_sub hl [0, 1, 2, 3, 4, 5, 6] rfl)
      · replace hF := ZtN c3_ hF
        refine lv_sipush (v := i32 1000) S.1 S.2.1 dX9_addThoseWithoutLine_72 sp_1000 ?_
        refine lv_goto (tgt := 85) S.1 S.2.1 dX9_addThoseWithoutLine_75 (by decide) ?_
        exact w_X9_addThoseWithoutLine_b85 S hr hlk hR hdj hk2 hk51 _ _ _ _ _ _ _ _ _ _ _ _ hF hw hzz hx2 hx3 hx4 hx5 hx6 hx6 (hzz.1 _ _ (by decide)) r_1000 (lv_sub hl [0, 1, 2, 3, 4, 5, 6] rfl)
set_option maxRecDepth 100000 in
set_option maxHeartbeats 4000000 in
theorem w_X9_addThoseWithoutLine_b41 {RR : Unit × ZI} (S : CallFix p m c cX9_addThoseWithoutLine 7 s args Ztbl RX9) (hr : meth.sig.returnType = none) (hlk : meth.locks = false) (hR : 3 ≤ R.frames ∧ 60 * (3) ≤ R.locals) (hdj : Zdj ad) {k2 : ZI → Int → Int → Option (Unit × ZI)} (hk2 : ∀ (z : ZI) (x2 : Int) (x3 : Int) (H : Heap) (locs : List Loc) (ls : Array Slot), k2 z x2 x3 = some RR → ZW D cA ad (ZA ad) (Zc z) s H locs → Zok z → InR x2 → InR x3 → lv_has ls 7 [(0, .ref (ad 41)), (1, .ref (ad 11)), (2, .int (i32 (x2))), (3, .int (i32 (x3)))] → W p l e R s m args below meth c H locs 0 0 (MQ below (YQv D cA ad RR.2) args s 0 0 (ZA ad)) (F0 m 2 ls [])) : ∀ (z : ZI) (x2 : Int) (x3 : Int) (x4 : Int) (H : Heap) (locs : List Loc) (ls : Array Slot), X9_addThoseWithoutLine_b41 k2 z x2 x3 x4 = some RR → ZW D cA ad (ZA ad) (Zc z) s H locs → Zok z → InR x2 → InR x3 → InR x4 → lv_has ls 7 [(0, .ref (ad 41)), (1, .ref (ad 11)), (2, .int (i32 (x2))), (3, .int (i32 (x3))), (4, .int (i32 (x4)))] → W p l e R s m args below meth c H locs 0 0 (MQ below (YQv D cA ad RR.2) args s 0 0 (ZA ad)) (F0 m 41 ls []) := by
  intro z x2 x3 x4 H locs ls hF hw hzz hx2 hx3 hx4 hl
  unfold X9_addThoseWithoutLine_b41 at hF
  refine lv_aload_n S.1 S.2.1 dX9_addThoseWithoutLine_41 rfl (lv_at hl 1 rfl) ?_
  refine lv_iload_n S.1 S.2.1 dX9_addThoseWithoutLine_42 rfl (lv_at hl 3 rfl) ?_
  obtain ⟨r3_, z1_, h2_, hF⟩ := Ybs hF
  refine YcallVi (rest := []) S hw (c_X3_blockOf hdj hzz hx3 h2_) my_X3_blockOf mi_X3_blockOf ml_X9_86 zd_11 zc_X3 rfl (Zrr hR (by decide)) ⟨Nat.zero_le _, Nat.zero_le _⟩ hl.1 rfl rfl (Nat.le_of_ble_eq_true rfl) dX9_addThoseWithoutLine_43 (fun hrr3_ hzz1_ H locs hw => ?_)
  refine lv_istore (lv' := [(5, .int (i32 (r3_))), (0, .ref (ad 41)), (1, .ref (ad 11)), (2, .int (i32 (x2))), (3, .int (i32 (x3))), (4, .int (i32 (x4)))]) S.1 S.2.1 dX9_addThoseWithoutLine_46 hl (by decide) rfl (fun ls hl => ?_)
  refine lv_iconst (v := i32 0) S.1 S.2.1 dX9_addThoseWithoutLine_48 ic_0 ?_
  refine lv_istore (lv' := [(6, .int (i32 (0))), (5, .int (i32 (r3_))), (0, .ref (ad 41)), (1, .ref (ad 11)), (2, .int (i32 (x2))), (3, .int (i32 (x3))), (4, .int (i32 (x4)))]) S.1 S.2.1 dX9_addThoseWithoutLine_49 hl (by decide) rfl (fun ls hl => ?_)
  exact w_X9_addThoseWithoutLine_L51 S hr hlk hR hdj hk2 Zfuel _ _ _ _ _ _ _ _ _ hF hw hzz1_ hx2 hx3 hx4 hrr3_ r_0 (lv_sub hl [2, 3, 4, 5, 6, 1, 0] rfl)
set_option maxRecDepth 100000 in
set_option maxHeartbeats 4000000 in
theorem w_X9_addThoseWithoutLine_b24 {RR : Unit × ZI} (S : CallFix p m c cX9_addThoseWithoutLine 7 s args Ztbl RX9) (hr : meth.sig.returnType = none) (hlk : meth.locks = false) (hR : 3 ≤ R.frames ∧ 60 * (3) ≤ R.locals) (hdj : Zdj ad) {k2 : ZI → Int → Int → Option (Unit × ZI)} (hk2 : ∀ (z : ZI) (x2 : Int) (x3 : Int) (H : Heap) (locs : List Loc) (ls : Array Slot), k2 z x2 x3 = some RR → ZW D cA ad (ZA ad) (Zc z) s H locs → Zok z → InR x2 → InR x3 → lv_has ls 7 [(0, .ref (ad 41)), (1, .ref (ad 11)), (2, .int (i32 (x2))), (3, .int (i32 (x3)))] → W p l e R s m args below meth c H locs 0 0 (MQ below (YQv D cA ad RR.2) args s 0 0 (ZA ad)) (F0 m 2 ls [])) : ∀ (z : ZI) (x2 : Int) (x3 : Int) (y0 : Int) (H : Heap) (locs : List Loc) (ls : Array Slot), X9_addThoseWithoutLine_b24 k2 z x2 x3 y0 = some RR → ZW D cA ad (ZA ad) (Zc z) s H locs → Zok z → InR x2 → InR x3 → InR y0 → lv_has ls 7 [(0, .ref (ad 41)), (1, .ref (ad 11)), (2, .int (i32 (x2))), (3, .int (i32 (x3)))] → W p l e R s m args below meth c H locs 0 0 (MQ below (YQv D cA ad RR.2) args s 0 0 (ZA ad)) (F0 m 24 ls [.int (i32 (y0))]) := by
  intro z x2 x3 y0 H locs ls hF hw hzz hx2 hx3 hy0 hl
  unfold X9_addThoseWithoutLine_b24 at hF
  refine lv_istore (lv' := [(4, .int (i32 (y0))), (0, .ref (ad 41)), (1, .ref (ad 11)), (2, .int (i32 (x2))), (3, .int (i32 (x3)))]) S.1 S.2.1 dX9_addThoseWithoutLine_24 hl (by decide) rfl (fun ls hl => ?_)
  refine lv_iload S.1 S.2.1 dX9_addThoseWithoutLine_26 (lv_at hl 0 rfl) ?_
  refine Yif_eq (tgt := 41) S hy0 dX9_addThoseWithoutLine_28 (by decide) (fun c1_ => ?_) (fun c1_ => ?_)
  · replace hF := ZtP c1_ hF
    exact w_X9_addThoseWithoutLine_b41 S hr hlk hR hdj hk2 _ _ _ _ _ _ _ hF hw hzz hx2 hx3 hy0 (lv_sub hl [1, 2, 3, 4, 0] rfl)
  · replace hF := ZtN c1_ hF
    refine lv_aload_n S.1 S.2.1 dX9_addThoseWithoutLine_31 rfl (lv_at hl 1 rfl) ?_
    refine gg_X9_54 S hw dX9_addThoseWithoutLine_32 ?_
    refine Yif_le (tgt := 41) S (hzz.1 41 0 (by decide)) dX9_addThoseWithoutLine_35 (by decide) (fun c2_ => ?_) (fun c2_ => ?_)
    · replace hF := ZtP c2_ hF
      exact w_X9_addThoseWithoutLine_b41 S hr hlk hR hdj hk2 _ _ _ _ _ _ _ hF hw hzz hx2 hx3 hy0 (lv_sub hl [1, 2, 3, 4, 0] rfl)
    · replace hF := ZtN c2_ hF
      refine lv_goto (tgt := 93) S.1 S.2.1 dX9_addThoseWithoutLine_38 (by decide) ?_
      exact w_X9_addThoseWithoutLine_b93 S hr hlk hR hdj hk2 _ _ _ _ _ _ hF hw hzz hx2 hx3 (lv_sub hl [1, 2, 3, 4] rfl)
set_option maxRecDepth 100000 in
set_option maxHeartbeats 4000000 in
theorem w_X9_addThoseWithoutLine_L2 {RR : Unit × ZI} (S : CallFix p m c cX9_addThoseWithoutLine 7 s args Ztbl RX9) (hr : meth.sig.returnType = none) (hlk : meth.locks = false) (hR : 3 ≤ R.frames ∧ 60 * (3) ≤ R.locals) (hdj : Zdj ad) : ∀ (n : Nat) (z : ZI) (x2 : Int) (x3 : Int) (H : Heap) (locs : List Loc) (ls : Array Slot), X9_addThoseWithoutLine_L2 n z x2 x3 = some RR → ZW D cA ad (ZA ad) (Zc z) s H locs → Zok z → InR x2 → InR x3 → lv_has ls 7 [(0, .ref (ad 41)), (1, .ref (ad 11)), (2, .int (i32 (x2))), (3, .int (i32 (x3)))] → W p l e R s m args below meth c H locs 0 0 (MQ below (YQv D cA ad RR.2) args s 0 0 (ZA ad)) (F0 m 2 ls []) := by
  intro n
  induction n with
  | zero => intro z x2 x3 H locs ls hF; exact nomatch hF
  | succ n hk2 =>
    intro z x2 x3 H locs ls hF hw hzz hx2 hx3 hl
    replace hF : X9_addThoseWithoutLine_L2b (X9_addThoseWithoutLine_L2 n) z x2 x3 = some RR := hF
    unfold X9_addThoseWithoutLine_L2b at hF
    refine lv_iload_n S.1 S.2.1 dX9_addThoseWithoutLine_2 rfl (lv_at hl 3 rfl) ?_
    refine lv_aload_n S.1 S.2.1 dX9_addThoseWithoutLine_3 rfl (lv_at hl 1 rfl) ?_
    refine gg_X9_71 S hw dX9_addThoseWithoutLine_4 ?_
    refine Yicmp_ge (tgt := 99) S hx3 (hzz.1 11 0 (by decide)) dX9_addThoseWithoutLine_7 (by decide) (fun c1_ => ?_) (fun c1_ => ?_)
    · replace hF := ZtP c1_ hF
      exact Yvret S hw hzz hr hlk hF dX9_addThoseWithoutLine_99
    · replace hF := ZtN c1_ hF
      refine lv_aload_n S.1 S.2.1 dX9_addThoseWithoutLine_10 rfl (lv_at hl 1 rfl) ?_
      refine lv_iload_n S.1 S.2.1 dX9_addThoseWithoutLine_11 rfl (lv_at hl 3 rfl) ?_
      refine lv_iload_n S.1 S.2.1 dX9_addThoseWithoutLine_12 rfl (lv_at hl 2 rfl) ?_
      obtain ⟨r4_, z2_, h3_, hF⟩ := Ybs hF
      refine YcallVi (rest := []) S hw (c_X3_hereInHouse hdj hzz hx3 hx2 h3_) my_X3_hereInHouse mi_X3_hereInHouse ml_X9_83 zd_11 zc_X3 rfl (Zrr hR (by decide)) ⟨Nat.zero_le _, Nat.zero_le _⟩ hl.1 rfl rfl (Nat.le_of_ble_eq_true rfl) dX9_addThoseWithoutLine_13 (fun hrr4_ hzz2_ H locs hw => ?_)
      refine Yif_le (tgt := 23) S hrr4_ dX9_addThoseWithoutLine_16 (by decide) (fun c5_ => ?_) (fun c5_ => ?_)
      · replace hF := ZtP c5_ hF
        refine lv_iconst (v := i32 0) S.1 S.2.1 dX9_addThoseWithoutLine_23 ic_0 ?_
        exact w_X9_addThoseWithoutLine_b24 S hr hlk hR hdj hk2 _ _ _ _ _ _ _ hF hw hzz2_ hx2 hx3 r_0 (lv_sub hl [0, 1, 2, 3] rfl)
      · replace hF := ZtN c5_ hF
        refine lv_iconst (v := i32 1) S.1 S.2.1 dX9_addThoseWithoutLine_19 ic_1 ?_
        refine lv_goto (tgt := 24) S.1 S.2.1 dX9_addThoseWithoutLine_20 (by decide) ?_
        exact w_X9_addThoseWithoutLine_b24 S hr hlk hR hdj hk2 _ _ _ _ _ _ _ hF hw hzz2_ hx2 hx3 r_1 (lv_sub hl [0, 1, 2, 3] rfl)
set_option maxRecDepth 100000 in
set_option maxHeartbeats 4000000 in
theorem c_X9_addThoseWithoutLine {l : Launch} {D : va_G} {cA : Nat → ClassId} {ad : Nat → Nat} (hdj : Zdj ad) {z z1 : ZI} {x2 : Int} (hzz : Zok z) (hx2 : InR x2) (hF : F_X9_addThoseWithoutLine z x2 = some ((), z1)) : YMv l D cA ad (3) yX9_addThoseWithoutLine cX9_addThoseWithoutLine 7 [.ref (ad 41), .ref (ad 11), .int (i32 x2)] z z1 :=
  Zmet hdj (by decide) rfl (Nat.le_of_ble_eq_true rfl) (lv := [(0, .ref (ad 41)), (1, .ref (ad 11)), (2, .int (i32 (x2)))]) rfl (fun p e s m args below meth c ls S hr hlk hw hl => by
    have hR : 3 ≤ (Zrm (3)).frames ∧ 60 * (3) ≤ (Zrm (3)).locals := ⟨Nat.le_refl _, Nat.le_refl _⟩
    unfold F_X9_addThoseWithoutLine at hF
    revert hR
    generalize Zrm (3) = R
    intro hR
    refine lv_iconst (v := i32 0) S.1 S.2.1 dX9_addThoseWithoutLine_0 ic_0 ?_
    refine lv_istore_n (lv' := [(3, .int (i32 (0))), (0, .ref (ad 41)), (1, .ref (ad 11)), (2, .int (i32 (x2)))]) S.1 S.2.1 dX9_addThoseWithoutLine_1 rfl hl (by decide) rfl (fun ls hl => ?_)
    exact w_X9_addThoseWithoutLine_L2 S hr hlk hR hdj Zfuel _ _ _ _ _ _ hF hw hzz hx2 r_0 (lv_sub hl [1, 2, 3, 0] rfl))
set_option maxRecDepth 100000 in
set_option maxHeartbeats 4000000 in
theorem c_X3_cellOf {l : Launch} {D : va_G} {cA : Nat → ClassId} {ad : Nat → Nat} (hdj : Zdj ad) {z z1 : ZI} {x1 : Int} {r : Int} (hzz : Zok z) (hx1 : InR x1) (hF : F_X3_cellOf z x1 = some (r, z1)) : YMi l D cA ad (0) yX3_cellOf cX3_cellOf 2 (some .int) [.ref (ad 11), .int (i32 x1)] z r z1 :=
  Zmet hdj (by decide) rfl (Nat.le_of_ble_eq_true rfl) (lv := [(0, .ref (ad 11)), (1, .int (i32 (x1)))]) rfl (fun p e s m args below meth c ls S hr hlk hw hl => by
    have hR : 0 ≤ (Zrm (0)).frames ∧ 60 * (0) ≤ (Zrm (0)).locals := ⟨Nat.le_refl _, Nat.le_refl _⟩
    unfold F_X3_cellOf at hF
    revert hR
    generalize Zrm (0) = R
    intro hR
    refine lv_aload_n S.1 S.2.1 dX3_cellOf_0 rfl (lv_at hl 0 rfl) ?_
    refine gf_X3_9 S hw dX3_cellOf_1 ?_
    refine lv_iload_n S.1 S.2.1 dX3_cellOf_4 rfl (lv_at hl 1 rfl) ?_
    obtain ⟨b1_, hF⟩ := Zgs hF
    refine Yiald S hw zd_12 (by decide) hx1 b1_ dX3_cellOf_5 ?_
    exact Yireti S hw hzz (hzz.1 _ _ (by decide)) hr hlk hF dX3_cellOf_6)
set_option maxRecDepth 100000 in
set_option maxHeartbeats 4000000 in
theorem w_X9_nearest_b48 {RR : Int × ZI} (S : CallFix p m c cX9_nearest 6 s args Ztbl RX9) (hr : meth.sig.returnType = some .int) (hlk : meth.locks = false) (hR : 2 ≤ R.frames ∧ 60 * (2) ≤ R.locals) (hdj : Zdj ad) {k8 : ZI → Int → Int → Int → Int → Option (Int × ZI)} (hk8 : ∀ (z : ZI) (x1 : Int) (x2 : Int) (x3 : Int) (x4 : Int) (H : Heap) (locs : List Loc) (ls : Array Slot), k8 z x1 x2 x3 x4 = some RR → ZW D cA ad (ZA ad) (Zc z) s H locs → Zok z → InR x1 → InR x2 → InR x3 → InR x4 → lv_has ls 6 [(0, .ref (ad 41)), (1, .int (i32 (x1))), (2, .int (i32 (x2))), (3, .int (i32 (x3))), (4, .int (i32 (x4)))] → W p l e R s m args below meth c H locs 0 0 (MQ below (YQi D cA ad RR.1 RR.2) args s 0 0 (ZA ad)) (F0 m 8 ls [])) : ∀ (z : ZI) (x1 : Int) (x2 : Int) (x3 : Int) (x4 : Int) (H : Heap) (locs : List Loc) (ls : Array Slot), X9_nearest_b48 k8 z x1 x2 x3 x4 = some RR → ZW D cA ad (ZA ad) (Zc z) s H locs → Zok z → InR x1 → InR x2 → InR x3 → InR x4 → lv_has ls 6 [(0, .ref (ad 41)), (1, .int (i32 (x1))), (2, .int (i32 (x2))), (3, .int (i32 (x3))), (4, .int (i32 (x4)))] → W p l e R s m args below meth c H locs 0 0 (MQ below (YQi D cA ad RR.1 RR.2) args s 0 0 (ZA ad)) (F0 m 48 ls []) := by
  intro z x1 x2 x3 x4 H locs ls hF hw hzz hx1 hx2 hx3 hx4 hl
  unfold X9_nearest_b48 at hF
  obtain ⟨g1_, hF⟩ := Zgs hF
  refine lv_iinc (v := i32 (x4 + 1)) (lv' := [(4, .int (i32 (x4 + 1))), (0, .ref (ad 41)), (1, .int (i32 (x1))), (2, .int (i32 (x2))), (3, .int (i32 (x3)))]) S.1 S.2.1 dX9_nearest_48 hl (k := 4) rfl Yiinc (by decide) rfl (fun ls hl => ?_)
  refine lv_goto (tgt := 8) S.1 S.2.1 dX9_nearest_51 (by decide) ?_
  exact hk8 _ _ _ _ _ _ _ _ hF hw hzz hx1 hx2 hx3 g1_ (lv_sub hl [1, 2, 3, 4, 0] rfl)
set_option maxRecDepth 100000 in
set_option maxHeartbeats 4000000 in
theorem w_X9_nearest_b42 {RR : Int × ZI} (S : CallFix p m c cX9_nearest 6 s args Ztbl RX9) (hr : meth.sig.returnType = some .int) (hlk : meth.locks = false) (hR : 2 ≤ R.frames ∧ 60 * (2) ≤ R.locals) (hdj : Zdj ad) {k8 : ZI → Int → Int → Int → Int → Option (Int × ZI)} (hk8 : ∀ (z : ZI) (x1 : Int) (x2 : Int) (x3 : Int) (x4 : Int) (H : Heap) (locs : List Loc) (ls : Array Slot), k8 z x1 x2 x3 x4 = some RR → ZW D cA ad (ZA ad) (Zc z) s H locs → Zok z → InR x1 → InR x2 → InR x3 → InR x4 → lv_has ls 6 [(0, .ref (ad 41)), (1, .int (i32 (x1))), (2, .int (i32 (x2))), (3, .int (i32 (x3))), (4, .int (i32 (x4)))] → W p l e R s m args below meth c H locs 0 0 (MQ below (YQi D cA ad RR.1 RR.2) args s 0 0 (ZA ad)) (F0 m 8 ls [])) : ∀ (z : ZI) (x1 : Int) (x4 : Int) (x5 : Int) (H : Heap) (locs : List Loc) (ls : Array Slot), X9_nearest_b42 k8 z x1 x4 x5 = some RR → ZW D cA ad (ZA ad) (Zc z) s H locs → Zok z → InR x1 → InR x4 → InR x5 → lv_has ls 6 [(0, .ref (ad 41)), (1, .int (i32 (x1))), (4, .int (i32 (x4))), (5, .int (i32 (x5)))] → W p l e R s m args below meth c H locs 0 0 (MQ below (YQi D cA ad RR.1 RR.2) args s 0 0 (ZA ad)) (F0 m 42 ls []) := by
  intro z x1 x4 x5 H locs ls hF hw hzz hx1 hx4 hx5 hl
  unfold X9_nearest_b42 at hF
  refine lv_iload S.1 S.2.1 dX9_nearest_42 (lv_at hl 2 rfl) ?_
  refine lv_istore_n (lv' := [(2, .int (i32 (x4))), (0, .ref (ad 41)), (1, .int (i32 (x1))), (4, .int (i32 (x4))), (5, .int (i32 (x5)))]) S.1 S.2.1 dX9_nearest_44 rfl hl (by decide) rfl (fun ls hl => ?_)
  refine lv_iload S.1 S.2.1 dX9_nearest_45 (lv_at hl 4 rfl) ?_
  refine lv_istore_n (lv' := [(3, .int (i32 (x5))), (2, .int (i32 (x4))), (0, .ref (ad 41)), (1, .int (i32 (x1))), (4, .int (i32 (x4))), (5, .int (i32 (x5)))]) S.1 S.2.1 dX9_nearest_47 rfl hl (by decide) rfl (fun ls hl => ?_)
  exact w_X9_nearest_b48 S hr hlk hR hdj hk8 _ _ _ _ _ _ _ _ hF hw hzz hx1 hx4 hx5 hx4 (lv_sub hl [2, 3, 1, 0, 4] rfl)
set_option maxRecDepth 100000 in
set_option maxHeartbeats 4000000 in
theorem w_X9_nearest_L8 {RR : Int × ZI} (S : CallFix p m c cX9_nearest 6 s args Ztbl RX9) (hr : meth.sig.returnType = some .int) (hlk : meth.locks = false) (hR : 2 ≤ R.frames ∧ 60 * (2) ≤ R.locals) (hdj : Zdj ad) : ∀ (n : Nat) (z : ZI) (x1 : Int) (x2 : Int) (x3 : Int) (x4 : Int) (H : Heap) (locs : List Loc) (ls : Array Slot), X9_nearest_L8 n z x1 x2 x3 x4 = some RR → ZW D cA ad (ZA ad) (Zc z) s H locs → Zok z → InR x1 → InR x2 → InR x3 → InR x4 → lv_has ls 6 [(0, .ref (ad 41)), (1, .int (i32 (x1))), (2, .int (i32 (x2))), (3, .int (i32 (x3))), (4, .int (i32 (x4)))] → W p l e R s m args below meth c H locs 0 0 (MQ below (YQi D cA ad RR.1 RR.2) args s 0 0 (ZA ad)) (F0 m 8 ls []) := by
  intro n
  induction n with
  | zero => intro z x1 x2 x3 x4 H locs ls hF; exact nomatch hF
  | succ n hk8 =>
    intro z x1 x2 x3 x4 H locs ls hF hw hzz hx1 hx2 hx3 hx4 hl
    replace hF : X9_nearest_L8b (X9_nearest_L8 n) z x1 x2 x3 x4 = some RR := hF
    unfold X9_nearest_L8b at hF
    refine lv_iload S.1 S.2.1 dX9_nearest_8 (lv_at hl 4 rfl) ?_
    refine lv_aload_n S.1 S.2.1 dX9_nearest_10 rfl (lv_at hl 0 rfl) ?_
    refine gg_X9_54 S hw dX9_nearest_11 ?_
    refine Yicmp_ge (tgt := 54) S hx4 (hzz.1 41 0 (by decide)) dX9_nearest_14 (by decide) (fun c1_ => ?_) (fun c1_ => ?_)
    · replace hF := ZtP c1_ hF
      refine lv_iload_n S.1 S.2.1 dX9_nearest_54 rfl (lv_at hl 2 rfl) ?_
      exact Yireti S hw hzz hx2 hr hlk hF dX9_nearest_55
    · replace hF := ZtN c1_ hF
      refine lv_iload_n S.1 S.2.1 dX9_nearest_17 rfl (lv_at hl 1 rfl) ?_
      refine lv_aload_n S.1 S.2.1 dX9_nearest_18 rfl (lv_at hl 0 rfl) ?_
      refine gf_X9_9 S hw dX9_nearest_19 ?_
      refine lv_iload S.1 S.2.1 dX9_nearest_22 (lv_at hl 4 rfl) ?_
      obtain ⟨b2_, hF⟩ := Zgs hF
      refine Yiald S hw zd_42 (by decide) hx4 b2_ dX9_nearest_24 ?_
      obtain ⟨r5_, z3_, h4_, hF⟩ := Ybs hF
      refine YcallSi (rest := []) S hw (c_X4_apart hdj hzz hx1 (hzz.1 _ _ (by decide)) h4_) my_X4_apart ms_X4_apart ml_X9_62 (Zrr hR (by decide)) ⟨Nat.zero_le _, Nat.zero_le _⟩ hl.1 rfl rfl (Nat.le_of_ble_eq_true rfl) dX9_nearest_25 (fun hrr5_ hzz3_ H locs hw => ?_)
      refine lv_istore (lv' := [(5, .int (i32 (r5_))), (0, .ref (ad 41)), (1, .int (i32 (x1))), (2, .int (i32 (x2))), (3, .int (i32 (x3))), (4, .int (i32 (x4)))]) S.1 S.2.1 dX9_nearest_28 hl (by decide) rfl (fun ls hl => ?_)
      refine lv_iload_n S.1 S.2.1 dX9_nearest_30 rfl (lv_at hl 3 rfl) ?_
      refine lv_bipush (v := i32 (-9)) S.1 S.2.1 dX9_nearest_31 bp_m9 ?_
      refine Yicmp_eq (tgt := 42) S hx2 r_m9 dX9_nearest_33 (by decide) (fun c6_ => ?_) (fun c6_ => ?_)
      · replace hF := ZtP c6_ hF
        exact w_X9_nearest_b42 S hr hlk hR hdj hk8 _ _ _ _ _ _ _ hF hw hzz3_ hx1 hx4 hrr5_ (lv_sub hl [1, 2, 5, 0] rfl)
      · replace hF := ZtN c6_ hF
        refine lv_iload S.1 S.2.1 dX9_nearest_36 (lv_at hl 0 rfl) ?_
        refine lv_iload_n S.1 S.2.1 dX9_nearest_38 rfl (lv_at hl 4 rfl) ?_
        refine Yicmp_ge (tgt := 48) S hrr5_ hx3 dX9_nearest_39 (by decide) (fun c7_ => ?_) (fun c7_ => ?_)
        · replace hF := ZtP c7_ hF
          exact w_X9_nearest_b48 S hr hlk hR hdj hk8 _ _ _ _ _ _ _ _ hF hw hzz3_ hx1 hx2 hx3 hx4 (lv_sub hl [1, 2, 3, 4, 5] rfl)
        · replace hF := ZtN c7_ hF
          exact w_X9_nearest_b42 S hr hlk hR hdj hk8 _ _ _ _ _ _ _ hF hw hzz3_ hx1 hx4 hrr5_ (lv_sub hl [1, 2, 5, 0] rfl)
set_option maxRecDepth 100000 in
set_option maxHeartbeats 4000000 in
theorem c_X9_nearest {l : Launch} {D : va_G} {cA : Nat → ClassId} {ad : Nat → Nat} (hdj : Zdj ad) {z z1 : ZI} {x1 : Int} {r : Int} (hzz : Zok z) (hx1 : InR x1) (hF : F_X9_nearest z x1 = some (r, z1)) : YMi l D cA ad (2) yX9_nearest cX9_nearest 6 (some .int) [.ref (ad 41), .int (i32 x1)] z r z1 :=
  Zmet hdj (by decide) rfl (Nat.le_of_ble_eq_true rfl) (lv := [(0, .ref (ad 41)), (1, .int (i32 (x1)))]) rfl (fun p e s m args below meth c ls S hr hlk hw hl => by
    have hR : 2 ≤ (Zrm (2)).frames ∧ 60 * (2) ≤ (Zrm (2)).locals := ⟨Nat.le_refl _, Nat.le_refl _⟩
    unfold F_X9_nearest at hF
    revert hR
    generalize Zrm (2) = R
    intro hR
    refine lv_bipush (v := i32 (-9)) S.1 S.2.1 dX9_nearest_0 bp_m9 ?_
    refine lv_istore_n (lv' := [(2, .int (i32 ((-9)))), (0, .ref (ad 41)), (1, .int (i32 (x1)))]) S.1 S.2.1 dX9_nearest_2 rfl hl (by decide) rfl (fun ls hl => ?_)
    refine lv_iconst (v := i32 0) S.1 S.2.1 dX9_nearest_3 ic_0 ?_
    refine lv_istore_n (lv' := [(3, .int (i32 (0))), (2, .int (i32 ((-9)))), (0, .ref (ad 41)), (1, .int (i32 (x1)))]) S.1 S.2.1 dX9_nearest_4 rfl hl (by decide) rfl (fun ls hl => ?_)
    refine lv_iconst (v := i32 0) S.1 S.2.1 dX9_nearest_5 ic_0 ?_
    refine lv_istore (lv' := [(4, .int (i32 (0))), (3, .int (i32 (0))), (2, .int (i32 ((-9)))), (0, .ref (ad 41)), (1, .int (i32 (x1)))]) S.1 S.2.1 dX9_nearest_6 hl (by decide) rfl (fun ls hl => ?_)
    exact w_X9_nearest_L8 S hr hlk hR hdj Zfuel _ _ _ _ _ _ _ _ hF hw hzz hx1 r_m9 r_0 r_0 (lv_sub hl [3, 4, 2, 1, 0] rfl))
set_option maxRecDepth 100000 in
set_option maxHeartbeats 4000000 in
theorem w_X9_lineUp_b97 {RR : Unit × ZI} (S : CallFix p m c cX9_lineUp 6 s args Ztbl RX9) (hr : meth.sig.returnType = none) (hlk : meth.locks = false) (hR : 3 ≤ R.frames ∧ 60 * (3) ≤ R.locals) (hdj : Zdj ad) {k8 : ZI → Int → Int → Int → Option (Unit × ZI)} (hk8 : ∀ (z : ZI) (x2 : Int) (x3 : Int) (x4 : Int) (H : Heap) (locs : List Loc) (ls : Array Slot), k8 z x2 x3 x4 = some RR → ZW D cA ad (ZA ad) (Zc z) s H locs → Zok z → InR x2 → InR x3 → InR x4 → lv_has ls 6 [(0, .ref (ad 41)), (1, .ref (ad 11)), (2, .int (i32 (x2))), (3, .int (i32 (x3))), (4, .int (i32 (x4)))] → W p l e R s m args below meth c H locs 0 0 (MQ below (YQv D cA ad RR.2) args s 0 0 (ZA ad)) (F0 m 8 ls [])) : ∀ (z : ZI) (x2 : Int) (x3 : Int) (x4 : Int) (H : Heap) (locs : List Loc) (ls : Array Slot), X9_lineUp_b97 k8 z x2 x3 x4 = some RR → ZW D cA ad (ZA ad) (Zc z) s H locs → Zok z → InR x2 → InR x3 → InR x4 → lv_has ls 6 [(0, .ref (ad 41)), (1, .ref (ad 11)), (2, .int (i32 (x2))), (3, .int (i32 (x3))), (4, .int (i32 (x4)))] → W p l e R s m args below meth c H locs 0 0 (MQ below (YQv D cA ad RR.2) args s 0 0 (ZA ad)) (F0 m 97 ls []) := by
  intro z x2 x3 x4 H locs ls hF hw hzz hx2 hx3 hx4 hl
  unfold X9_lineUp_b97 at hF
  obtain ⟨g1_, hF⟩ := Zgs hF
  refine lv_iinc (v := i32 (x4 + 1)) (lv' := [(4, .int (i32 (x4 + 1))), (0, .ref (ad 41)), (1, .ref (ad 11)), (2, .int (i32 (x2))), (3, .int (i32 (x3)))]) S.1 S.2.1 dX9_lineUp_97 hl (k := 4) rfl Yiinc (by decide) rfl (fun ls hl => ?_)
  refine lv_goto (tgt := 8) S.1 S.2.1 dX9_lineUp_100 (by decide) ?_
  exact hk8 _ _ _ _ _ _ _ hF hw hzz hx2 hx3 g1_ (lv_sub hl [1, 2, 3, 4, 0] rfl)
set_option maxRecDepth 100000 in
set_option maxHeartbeats 4000000 in
theorem w_X9_lineUp_L8 {RR : Unit × ZI} (S : CallFix p m c cX9_lineUp 6 s args Ztbl RX9) (hr : meth.sig.returnType = none) (hlk : meth.locks = false) (hR : 3 ≤ R.frames ∧ 60 * (3) ≤ R.locals) (hdj : Zdj ad) : ∀ (n : Nat) (z : ZI) (x2 : Int) (x3 : Int) (x4 : Int) (H : Heap) (locs : List Loc) (ls : Array Slot), X9_lineUp_L8 n z x2 x3 x4 = some RR → ZW D cA ad (ZA ad) (Zc z) s H locs → Zok z → InR x2 → InR x3 → InR x4 → lv_has ls 6 [(0, .ref (ad 41)), (1, .ref (ad 11)), (2, .int (i32 (x2))), (3, .int (i32 (x3))), (4, .int (i32 (x4)))] → W p l e R s m args below meth c H locs 0 0 (MQ below (YQv D cA ad RR.2) args s 0 0 (ZA ad)) (F0 m 8 ls []) := by
  intro n
  induction n with
  | zero => intro z x2 x3 x4 H locs ls hF; exact nomatch hF
  | succ n hk8 =>
    intro z x2 x3 x4 H locs ls hF hw hzz hx2 hx3 hx4 hl
    replace hF : X9_lineUp_L8b (X9_lineUp_L8 n) z x2 x3 x4 = some RR := hF
    unfold X9_lineUp_L8b at hF
    refine lv_iload S.1 S.2.1 dX9_lineUp_8 (lv_at hl 4 rfl) ?_
    refine lv_aload_n S.1 S.2.1 dX9_lineUp_10 rfl (lv_at hl 1 rfl) ?_
    refine gg_X9_71 S hw dX9_lineUp_11 ?_
    refine Yicmp_ge (tgt := 103) S hx4 (hzz.1 11 0 (by decide)) dX9_lineUp_14 (by decide) (fun c1_ => ?_) (fun c1_ => ?_)
    · replace hF := ZtP c1_ hF
      exact Yvret S hw hzz hr hlk hF dX9_lineUp_103
    · replace hF := ZtN c1_ hF
      refine lv_aload_n S.1 S.2.1 dX9_lineUp_17 rfl (lv_at hl 0 rfl) ?_
      refine lv_aload_n S.1 S.2.1 dX9_lineUp_18 rfl (lv_at hl 1 rfl) ?_
      refine lv_iload S.1 S.2.1 dX9_lineUp_19 (lv_at hl 4 rfl) ?_
      obtain ⟨r4_, z2_, h3_, hF⟩ := Ybs hF
      refine YcallVi (rest := [.ref (ad 41)]) S hw (c_X3_cellOf hdj hzz hx4 h3_) my_X3_cellOf mi_X3_cellOf ml_X9_76 zd_11 zc_X3 rfl (Zrr hR (by decide)) ⟨Nat.zero_le _, Nat.zero_le _⟩ hl.1 rfl rfl (Nat.le_of_ble_eq_true rfl) dX9_lineUp_21 (fun hrr4_ hzz2_ H locs hw => ?_)
      obtain ⟨r7_, z5_, h6_, hF⟩ := Ybs hF
      refine YcallVi (rest := []) S hw (c_X9_nearest hdj hzz2_ hrr4_ h6_) my_X9_nearest mi_X9_nearest ml_X9_80 zd_41 zc_X9 rfl (Zrr hR (by decide)) ⟨Nat.zero_le _, Nat.zero_le _⟩ hl.1 rfl rfl (Nat.le_of_ble_eq_true rfl) dX9_lineUp_24 (fun hrr7_ hzz5_ H locs hw => ?_)
      refine lv_iload_n S.1 S.2.1 dX9_lineUp_27 rfl (lv_at hl 2 rfl) ?_
      refine Yicmp_eq (tgt := 34) S hrr7_ hx2 dX9_lineUp_28 (by decide) (fun c8_ => ?_) (fun c8_ => ?_)
      · replace hF := ZtP c8_ hF
        refine lv_iconst (v := i32 5) S.1 S.2.1 dX9_lineUp_34 ic_5 ?_
        refine lv_aload_n S.1 S.2.1 dX9_lineUp_35 rfl (lv_at hl 1 rfl) ?_
        refine lv_iload S.1 S.2.1 dX9_lineUp_36 (lv_at hl 4 rfl) ?_
        refine lv_iload_n S.1 S.2.1 dX9_lineUp_38 rfl (lv_at hl 3 rfl) ?_
        obtain ⟨r11_, z9_, h10_, hF⟩ := Ybs hF
        refine YcallVi (rest := [.int (i32 (5))]) S hw (c_X3_hereInHouse hdj hzz5_ hx4 hx3 h10_) my_X3_hereInHouse mi_X3_hereInHouse ml_X9_83 zd_11 zc_X3 rfl (Zrr hR (by decide)) ⟨Nat.zero_le _, Nat.zero_le _⟩ hl.1 rfl rfl (Nat.le_of_ble_eq_true rfl) dX9_lineUp_39 (fun hrr11_ hzz9_ H locs hw => ?_)
        obtain ⟨g12_, hF⟩ := Zgs hF
        refine Yimul S dX9_lineUp_42 ?_
        refine lv_istore (lv' := [(5, .int (i32 (5 * r11_))), (0, .ref (ad 41)), (1, .ref (ad 11)), (2, .int (i32 (x2))), (3, .int (i32 (x3))), (4, .int (i32 (x4)))]) S.1 S.2.1 dX9_lineUp_43 hl (by decide) rfl (fun ls hl => ?_)
        refine lv_iload S.1 S.2.1 dX9_lineUp_45 (lv_at hl 0 rfl) ?_
        refine Yif_le (tgt := 97) S g12_ dX9_lineUp_47 (by decide) (fun c13_ => ?_) (fun c13_ => ?_)
        · replace hF := ZtP c13_ hF
          exact w_X9_lineUp_b97 S hr hlk hR hdj hk8 _ _ _ _ _ _ _ hF hw hzz9_ hx2 hx3 hx4 (lv_sub hl [1, 2, 3, 4, 5] rfl)
        · replace hF := ZtN c13_ hF
          refine lv_aload_n S.1 S.2.1 dX9_lineUp_50 rfl (lv_at hl 1 rfl) ?_
          refine gf_X9_30 S hw dX9_lineUp_51 ?_
          refine lv_aload_n S.1 S.2.1 dX9_lineUp_54 rfl (lv_at hl 1 rfl) ?_
          refine gg_X9_68 S hw dX9_lineUp_55 ?_
          refine lv_iload S.1 S.2.1 dX9_lineUp_58 (lv_at hl 5 rfl) ?_
          obtain ⟨b14_, hF⟩ := Zgs hF
          refine Yiast S hw hzz9_ zd_46 (by decide) (hzz9_.1 41 5 (by decide)) hx4 b14_ dX9_lineUp_60 (fun z15_ H locs ez hzz15_ hw => ?_)
          replace hF := Zle ez hF; clear ez
          refine lv_aload_n S.1 S.2.1 dX9_lineUp_61 rfl (lv_at hl 1 rfl) ?_
          refine gf_X9_33 S hw dX9_lineUp_62 ?_
          refine lv_aload_n S.1 S.2.1 dX9_lineUp_65 rfl (lv_at hl 1 rfl) ?_
          refine gg_X9_68 S hw dX9_lineUp_66 ?_
          refine lv_aload_n S.1 S.2.1 dX9_lineUp_69 rfl (lv_at hl 2 rfl) ?_
          refine lv_iload S.1 S.2.1 dX9_lineUp_70 (lv_at hl 5 rfl) ?_
          obtain ⟨r18_, z16_, h17_, hF⟩ := Ybs hF
          refine YcallVi (rest := [.int (i32 (z15_ 41 5)), .ref (ad 47)]) S hw (c_X3_blockOf hdj hzz15_ hx4 h17_) my_X3_blockOf mi_X3_blockOf ml_X9_86 zd_11 zc_X3 rfl (Zrr hR (by decide)) ⟨Nat.zero_le _, Nat.zero_le _⟩ hl.1 rfl rfl (Nat.le_of_ble_eq_true rfl) dX9_lineUp_72 (fun hrr18_ hzz16_ H locs hw => ?_)
          obtain ⟨b19_, hF⟩ := Zgs hF
          refine Yiast S hw hzz16_ zd_47 (by decide) (hzz15_.1 41 5 (by decide)) hrr18_ b19_ dX9_lineUp_75 (fun z20_ H locs ez hzz20_ hw => ?_)
          replace hF := Zle ez hF; clear ez
          refine lv_aload_n S.1 S.2.1 dX9_lineUp_76 rfl (lv_at hl 1 rfl) ?_
          refine gf_X9_36 S hw dX9_lineUp_77 ?_
          refine lv_aload_n S.1 S.2.1 dX9_lineUp_80 rfl (lv_at hl 1 rfl) ?_
          refine gg_X9_68 S hw dX9_lineUp_81 ?_
          refine lv_iload S.1 S.2.1 dX9_lineUp_84 (lv_at hl 0 rfl) ?_
          obtain ⟨b21_, hF⟩ := Zgs hF
          refine Yiast S hw hzz20_ zd_48 (by decide) (hzz20_.1 41 5 (by decide)) g12_ b21_ dX9_lineUp_86 (fun z22_ H locs ez hzz22_ hw => ?_)
          replace hF := Zle ez hF; clear ez
          refine lv_aload_n S.1 S.2.1 dX9_lineUp_87 rfl (lv_at hl 1 rfl) ?_
          refine lv_dup S.1 S.2.1 dX9_lineUp_88 rfl ?_
          refine gg_X9_68 S hw dX9_lineUp_89 ?_
          refine lv_iconst (v := i32 1) S.1 S.2.1 dX9_lineUp_92 ic_1 ?_
          obtain ⟨g23_, hF⟩ := Zgs hF
          refine Yiadd S dX9_lineUp_93 ?_
          refine pp_X9_68 S hw hzz22_ g23_ dX9_lineUp_94 (fun z24_ H locs ez hzz24_ hw => ?_)
          replace hF := Zle ez hF; clear ez
          exact w_X9_lineUp_b97 S hr hlk hR hdj hk8 _ _ _ _ _ _ _ hF hw hzz24_ hx2 hx3 hx4 (lv_sub hl [1, 2, 3, 4, 5] rfl)
      · replace hF := ZtN c8_ hF
        refine lv_goto (tgt := 97) S.1 S.2.1 dX9_lineUp_31 (by decide) ?_
        exact w_X9_lineUp_b97 S hr hlk hR hdj hk8 _ _ _ _ _ _ _ hF hw hzz5_ hx2 hx3 hx4 (lv_sub hl [0, 1, 2, 3, 4] rfl)
set_option maxRecDepth 100000 in
set_option maxHeartbeats 4000000 in
theorem c_X9_lineUp {l : Launch} {D : va_G} {cA : Nat → ClassId} {ad : Nat → Nat} (hdj : Zdj ad) {z z1 : ZI} {x2 : Int} {x3 : Int} (hzz : Zok z) (hx2 : InR x2) (hx3 : InR x3) (hF : F_X9_lineUp z x2 x3 = some ((), z1)) : YMv l D cA ad (3) yX9_lineUp cX9_lineUp 6 [.ref (ad 41), .ref (ad 11), .int (i32 x2), .int (i32 x3)] z z1 :=
  Zmet hdj (by decide) rfl (Nat.le_of_ble_eq_true rfl) (lv := [(0, .ref (ad 41)), (1, .ref (ad 11)), (2, .int (i32 (x2))), (3, .int (i32 (x3)))]) rfl (fun p e s m args below meth c ls S hr hlk hw hl => by
    have hR : 3 ≤ (Zrm (3)).frames ∧ 60 * (3) ≤ (Zrm (3)).locals := ⟨Nat.le_refl _, Nat.le_refl _⟩
    unfold F_X9_lineUp at hF
    revert hR
    generalize Zrm (3) = R
    intro hR
    refine lv_aload_n S.1 S.2.1 dX9_lineUp_0 rfl (lv_at hl 0 rfl) ?_
    refine lv_iconst (v := i32 0) S.1 S.2.1 dX9_lineUp_1 ic_0 ?_
    refine pp_X9_68 S hw hzz r_0 dX9_lineUp_2 (fun z1_ H locs ez hzz1_ hw => ?_)
    replace hF := Zle ez hF; clear ez
    refine lv_iconst (v := i32 0) S.1 S.2.1 dX9_lineUp_5 ic_0 ?_
    refine lv_istore (lv' := [(4, .int (i32 (0))), (0, .ref (ad 41)), (1, .ref (ad 11)), (2, .int (i32 (x2))), (3, .int (i32 (x3)))]) S.1 S.2.1 dX9_lineUp_6 hl (by decide) rfl (fun ls hl => ?_)
    exact w_X9_lineUp_L8 S hr hlk hR hdj Zfuel _ _ _ _ _ _ _ hF hw hzz1_ hx2 hx3 r_0 (lv_sub hl [1, 2, 3, 4, 0] rfl))
set_option maxRecDepth 100000 in
set_option maxHeartbeats 4000000 in
theorem w_X9_findBest_b113 {RR : Unit × ZI} (S : CallFix p m c cX9_findBest 4 s args Ztbl RX9) (hr : meth.sig.returnType = none) (hlk : meth.locks = false) (hR : 5 ≤ R.frames ∧ 60 * (5) ≤ R.locals) (hdj : Zdj ad) {k83 : ZI → Int → Option (Unit × ZI)} (hk83 : ∀ (z : ZI) (x3 : Int) (H : Heap) (locs : List Loc) (ls : Array Slot), k83 z x3 = some RR → ZW D cA ad (ZA ad) (Zc z) s H locs → Zok z → InR x3 → lv_has ls 4 [(0, .ref (ad 41)), (3, .int (i32 (x3)))] → W p l e R s m args below meth c H locs 0 0 (MQ below (YQv D cA ad RR.2) args s 0 0 (ZA ad)) (F0 m 83 ls [])) : ∀ (z : ZI) (x3 : Int) (H : Heap) (locs : List Loc) (ls : Array Slot), X9_findBest_b113 k83 z x3 = some RR → ZW D cA ad (ZA ad) (Zc z) s H locs → Zok z → InR x3 → lv_has ls 4 [(0, .ref (ad 41)), (3, .int (i32 (x3)))] → W p l e R s m args below meth c H locs 0 0 (MQ below (YQv D cA ad RR.2) args s 0 0 (ZA ad)) (F0 m 113 ls []) := by
  intro z x3 H locs ls hF hw hzz hx3 hl
  unfold X9_findBest_b113 at hF
  obtain ⟨g1_, hF⟩ := Zgs hF
  refine lv_iinc (v := i32 (x3 + 1)) (lv' := [(3, .int (i32 (x3 + 1))), (0, .ref (ad 41))]) S.1 S.2.1 dX9_findBest_113 hl (k := 1) rfl Yiinc (by decide) rfl (fun ls hl => ?_)
  refine lv_goto (tgt := 83) S.1 S.2.1 dX9_findBest_116 (by decide) ?_
  exact hk83 _ _ _ _ _ hF hw hzz g1_ (lv_sub hl [1, 0] rfl)
set_option maxRecDepth 100000 in
set_option maxHeartbeats 4000000 in
theorem w_X9_findBest_L83 {RR : Unit × ZI} (S : CallFix p m c cX9_findBest 4 s args Ztbl RX9) (hr : meth.sig.returnType = none) (hlk : meth.locks = false) (hR : 5 ≤ R.frames ∧ 60 * (5) ≤ R.locals) (hdj : Zdj ad) : ∀ (n : Nat) (z : ZI) (x3 : Int) (H : Heap) (locs : List Loc) (ls : Array Slot), X9_findBest_L83 n z x3 = some RR → ZW D cA ad (ZA ad) (Zc z) s H locs → Zok z → InR x3 → lv_has ls 4 [(0, .ref (ad 41)), (3, .int (i32 (x3)))] → W p l e R s m args below meth c H locs 0 0 (MQ below (YQv D cA ad RR.2) args s 0 0 (ZA ad)) (F0 m 83 ls []) := by
  intro n
  induction n with
  | zero => intro z x3 H locs ls hF; exact nomatch hF
  | succ n hk83 =>
    intro z x3 H locs ls hF hw hzz hx3 hl
    replace hF : X9_findBest_L83b (X9_findBest_L83 n) z x3 = some RR := hF
    unfold X9_findBest_L83b at hF
    refine lv_iload_n S.1 S.2.1 dX9_findBest_83 rfl (lv_at hl 1 rfl) ?_
    refine lv_sipush (v := i32 4096) S.1 S.2.1 dX9_findBest_84 sp_4096 ?_
    refine Yicmp_ge (tgt := 119) S hx3 r_4096 dX9_findBest_87 (by decide) (fun c1_ => ?_) (fun c1_ => ?_)
    · replace hF := ZtP c1_ hF
      refine lv_aload_n S.1 S.2.1 dX9_findBest_119 rfl (lv_at hl 0 rfl) ?_
      refine lv_iconst (v := i32 1) S.1 S.2.1 dX9_findBest_120 ic_1 ?_
      refine pp_X9_58 S hw hzz r_1 (Or.inr rfl) dX9_findBest_121 (fun z2_ H locs ez hzz2_ hw => ?_)
      replace hF := Zle ez hF; clear ez
      exact Yvret S hw hzz2_ hr hlk hF dX9_findBest_124
    · replace hF := ZtN c1_ hF
      refine lv_aload_n S.1 S.2.1 dX9_findBest_90 rfl (lv_at hl 0 rfl) ?_
      refine gf_X9_48 S hw dX9_findBest_91 ?_
      refine lv_iload_n S.1 S.2.1 dX9_findBest_94 rfl (lv_at hl 1 rfl) ?_
      obtain ⟨b3_, hF⟩ := Zgs hF
      refine Yiald4 S hw hzz zd_52 (by decide) hx3 b3_ dX9_findBest_95 ?_
      refine lv_aload_n S.1 S.2.1 dX9_findBest_96 rfl (lv_at hl 0 rfl) ?_
      refine gf_X9_48 S hw dX9_findBest_97 ?_
      refine lv_aload_n S.1 S.2.1 dX9_findBest_100 rfl (lv_at hl 0 rfl) ?_
      refine gg_X9_118 S hw dX9_findBest_101 ?_
      obtain ⟨b4_, hF⟩ := Zgs hF
      refine Yiald4 S hw hzz zd_52 (by decide) (hzz.1 41 15 (by decide)) b4_ dX9_findBest_104 ?_
      refine Yicmp_ge (tgt := 113) S (hzz.1 _ _ (by decide)) (hzz.1 _ _ (by decide)) dX9_findBest_105 (by decide) (fun c5_ => ?_) (fun c5_ => ?_)
      · replace hF := ZtP c5_ hF
        exact w_X9_findBest_b113 S hr hlk hR hdj hk83 _ _ _ _ _ hF hw hzz hx3 (lv_sub hl [0, 1] rfl)
      · replace hF := ZtN c5_ hF
        refine lv_aload_n S.1 S.2.1 dX9_findBest_108 rfl (lv_at hl 0 rfl) ?_
        refine lv_iload_n S.1 S.2.1 dX9_findBest_109 rfl (lv_at hl 1 rfl) ?_
        refine pp_X9_118 S hw hzz hx3 dX9_findBest_110 (fun z6_ H locs ez hzz6_ hw => ?_)
        replace hF := Zle ez hF; clear ez
        exact w_X9_findBest_b113 S hr hlk hR hdj hk83 _ _ _ _ _ hF hw hzz6_ hx3 (lv_sub hl [0, 1] rfl)
set_option maxRecDepth 100000 in
set_option maxHeartbeats 4000000 in
theorem w_X9_findBest_b76 {RR : Unit × ZI} (S : CallFix p m c cX9_findBest 4 s args Ztbl RX9) (hr : meth.sig.returnType = none) (hlk : meth.locks = false) (hR : 5 ≤ R.frames ∧ 60 * (5) ≤ R.locals) (hdj : Zdj ad) : ∀ (z : ZI) (H : Heap) (locs : List Loc) (ls : Array Slot), X9_findBest_b76 z  = some RR → ZW D cA ad (ZA ad) (Zc z) s H locs → Zok z → lv_has ls 4 [(0, .ref (ad 41))] → W p l e R s m args below meth c H locs 0 0 (MQ below (YQv D cA ad RR.2) args s 0 0 (ZA ad)) (F0 m 76 ls []) := by
  intro z  H locs ls hF hw hzz  hl
  unfold X9_findBest_b76 at hF
  refine lv_aload_n S.1 S.2.1 dX9_findBest_76 rfl (lv_at hl 0 rfl) ?_
  refine lv_iconst (v := i32 0) S.1 S.2.1 dX9_findBest_77 ic_0 ?_
  refine pp_X9_118 S hw hzz r_0 dX9_findBest_78 (fun z1_ H locs ez hzz1_ hw => ?_)
  replace hF := Zle ez hF; clear ez
  refine lv_iconst (v := i32 1) S.1 S.2.1 dX9_findBest_81 ic_1 ?_
  refine lv_istore_n (lv' := [(3, .int (i32 (1))), (0, .ref (ad 41))]) S.1 S.2.1 dX9_findBest_82 rfl hl (by decide) rfl (fun ls hl => ?_)
  exact w_X9_findBest_L83 S hr hlk hR hdj Zfuel _ _ _ _ _ hF hw hzz1_ r_1 (lv_sub hl [1, 0] rfl)
set_option maxRecDepth 100000 in
set_option maxHeartbeats 4000000 in
theorem w_X9_findBest_L50 {RR : Unit × ZI} (S : CallFix p m c cX9_findBest 4 s args Ztbl RX9) (hr : meth.sig.returnType = none) (hlk : meth.locks = false) (hR : 5 ≤ R.frames ∧ 60 * (5) ≤ R.locals) (hdj : Zdj ad) : ∀ (n : Nat) (z : ZI) (x2 : Int) (x3 : Int) (H : Heap) (locs : List Loc) (ls : Array Slot), X9_findBest_L50 n z x2 x3 = some RR → ZW D cA ad (ZA ad) (Zc z) s H locs → Zok z → InR x2 → InR x3 → lv_has ls 4 [(0, .ref (ad 41)), (1, .ref (ad 11)), (2, .int (i32 (x2))), (3, .int (i32 (x3)))] → W p l e R s m args below meth c H locs 0 0 (MQ below (YQv D cA ad RR.2) args s 0 0 (ZA ad)) (F0 m 50 ls []) := by
  intro n
  induction n with
  | zero => intro z x2 x3 H locs ls hF; exact nomatch hF
  | succ n hk50 =>
    intro z x2 x3 H locs ls hF hw hzz hx2 hx3 hl
    replace hF : X9_findBest_L50b (X9_findBest_L50 n) z x2 x3 = some RR := hF
    unfold X9_findBest_L50b at hF
    refine lv_iload_n S.1 S.2.1 dX9_findBest_50 rfl (lv_at hl 3 rfl) ?_
    refine lv_aload_n S.1 S.2.1 dX9_findBest_51 rfl (lv_at hl 0 rfl) ?_
    refine gg_X9_54 S hw dX9_findBest_52 ?_
    refine Yicmp_ge (tgt := 76) S hx3 (hzz.1 41 0 (by decide)) dX9_findBest_55 (by decide) (fun c1_ => ?_) (fun c1_ => ?_)
    · replace hF := ZtP c1_ hF
      exact w_X9_findBest_b76 S hr hlk hR hdj _ _ _ _ hF hw hzz  (lv_sub hl [0] rfl)
    · replace hF := ZtN c1_ hF
      refine lv_aload_n S.1 S.2.1 dX9_findBest_58 rfl (lv_at hl 0 rfl) ?_
      refine lv_aload_n S.1 S.2.1 dX9_findBest_59 rfl (lv_at hl 1 rfl) ?_
      refine lv_iload_n S.1 S.2.1 dX9_findBest_60 rfl (lv_at hl 3 rfl) ?_
      refine lv_iload_n S.1 S.2.1 dX9_findBest_61 rfl (lv_at hl 2 rfl) ?_
      obtain ⟨r4_, z2_, h3_, hF⟩ := Ybs hF
      refine YcallVv (rest := []) S hw (c_X9_lineUp hdj hzz hx3 hx2 h3_) my_X9_lineUp mi_X9_lineUp ml_X9_102 zd_41 zc_X9 rfl (Zrr hR (by decide)) ⟨Nat.zero_le _, Nat.zero_le _⟩ hl.1 rfl rfl (Nat.le_of_ble_eq_true rfl) dX9_findBest_62 (fun hzz2_ H locs hw => ?_)
      refine lv_aload_n S.1 S.2.1 dX9_findBest_65 rfl (lv_at hl 0 rfl) ?_
      refine lv_iload_n S.1 S.2.1 dX9_findBest_66 rfl (lv_at hl 3 rfl) ?_
      obtain ⟨r7_, z5_, h6_, hF⟩ := Ybs hF
      refine YcallVv (rest := []) S hw (c_X9_addLine hdj hzz2_ hx3 h6_) my_X9_addLine mi_X9_addLine ml_X9_114 zd_41 zc_X9 rfl (Zrr hR (by decide)) ⟨Nat.zero_le _, Nat.zero_le _⟩ hl.1 rfl rfl (Nat.le_of_ble_eq_true rfl) dX9_findBest_67 (fun hzz5_ H locs hw => ?_)
      obtain ⟨g8_, hF⟩ := Zgs hF
      refine lv_iinc (v := i32 (x3 + 1)) (lv' := [(3, .int (i32 (x3 + 1))), (0, .ref (ad 41)), (1, .ref (ad 11)), (2, .int (i32 (x2)))]) S.1 S.2.1 dX9_findBest_70 hl (k := 3) rfl Yiinc (by decide) rfl (fun ls hl => ?_)
      refine lv_goto (tgt := 50) S.1 S.2.1 dX9_findBest_73 (by decide) ?_
      exact hk50 _ _ _ _ _ _ hF hw hzz5_ hx2 g8_ (lv_sub hl [1, 2, 3, 0] rfl)
set_option maxRecDepth 100000 in
set_option maxHeartbeats 4000000 in
theorem w_X9_findBest_b34 {RR : Unit × ZI} (S : CallFix p m c cX9_findBest 4 s args Ztbl RX9) (hr : meth.sig.returnType = none) (hlk : meth.locks = false) (hR : 5 ≤ R.frames ∧ 60 * (5) ≤ R.locals) (hdj : Zdj ad) : ∀ (z : ZI) (x2 : Int) (H : Heap) (locs : List Loc) (ls : Array Slot), X9_findBest_b34 z x2 = some RR → ZW D cA ad (ZA ad) (Zc z) s H locs → Zok z → InR x2 → lv_has ls 4 [(0, .ref (ad 41)), (1, .ref (ad 11)), (2, .int (i32 (x2)))] → W p l e R s m args below meth c H locs 0 0 (MQ below (YQv D cA ad RR.2) args s 0 0 (ZA ad)) (F0 m 34 ls []) := by
  intro z x2 H locs ls hF hw hzz hx2 hl
  unfold X9_findBest_b34 at hF
  refine lv_aload_n S.1 S.2.1 dX9_findBest_34 rfl (lv_at hl 0 rfl) ?_
  refine gf_X9_48 S hw dX9_findBest_35 ?_
  refine lv_iconst (v := i32 0) S.1 S.2.1 dX9_findBest_38 ic_0 ?_
  obtain ⟨r3_, z1_, h2_, hF⟩ := Ybs hF
  refine YcallSv (rest := []) S hw (c_J7_fill_531784 hdj zd_52 (by decide) (by decide) hzz r_0 h2_) my_J7_fill_53178 ms_J7_fill_53178 ml_X9_24 (Zrr hR (by decide)) ⟨Nat.zero_le _, Nat.zero_le _⟩ hl.1 rfl rfl (Nat.le_of_ble_eq_true rfl) dX9_findBest_39 (fun hzz1_ H locs hw => ?_)
  refine lv_aload_n S.1 S.2.1 dX9_findBest_42 rfl (lv_at hl 0 rfl) ?_
  refine lv_aload_n S.1 S.2.1 dX9_findBest_43 rfl (lv_at hl 1 rfl) ?_
  refine lv_iload_n S.1 S.2.1 dX9_findBest_44 rfl (lv_at hl 2 rfl) ?_
  obtain ⟨r6_, z4_, h5_, hF⟩ := Ybs hF
  refine YcallVv (rest := []) S hw (c_X9_addThoseWithoutLine hdj hzz1_ hx2 h5_) my_X9_addThoseWithoutLine mi_X9_addThoseWithoutLine ml_X9_110 zd_41 zc_X9 rfl (Zrr hR (by decide)) ⟨Nat.zero_le _, Nat.zero_le _⟩ hl.1 rfl rfl (Nat.le_of_ble_eq_true rfl) dX9_findBest_45 (fun hzz4_ H locs hw => ?_)
  refine lv_iconst (v := i32 0) S.1 S.2.1 dX9_findBest_48 ic_0 ?_
  refine lv_istore_n (lv' := [(3, .int (i32 (0))), (0, .ref (ad 41)), (1, .ref (ad 11)), (2, .int (i32 (x2)))]) S.1 S.2.1 dX9_findBest_49 rfl hl (by decide) rfl (fun ls hl => ?_)
  exact w_X9_findBest_L50 S hr hlk hR hdj Zfuel _ _ _ _ _ _ hF hw hzz4_ hx2 r_0 (lv_sub hl [1, 2, 3, 0] rfl)
set_option maxRecDepth 100000 in
set_option maxHeartbeats 4000000 in
theorem c_X9_findBest {l : Launch} {D : va_G} {cA : Nat → ClassId} {ad : Nat → Nat} (hdj : Zdj ad) {z z1 : ZI} {x2 : Int} (hzz : Zok z) (hx2 : InR x2) (hF : F_X9_findBest z x2 = some ((), z1)) : YMv l D cA ad (5) yX9_findBest cX9_findBest 4 [.ref (ad 41), .ref (ad 11), .int (i32 x2)] z z1 :=
  Zmet hdj (by decide) rfl (Nat.le_of_ble_eq_true rfl) (lv := [(0, .ref (ad 41)), (1, .ref (ad 11)), (2, .int (i32 (x2)))]) rfl (fun p e s m args below meth c ls S hr hlk hw hl => by
    have hR : 5 ≤ (Zrm (5)).frames ∧ 60 * (5) ≤ (Zrm (5)).locals := ⟨Nat.le_refl _, Nat.le_refl _⟩
    unfold F_X9_findBest at hF
    revert hR
    generalize Zrm (5) = R
    intro hR
    refine lv_aload_n S.1 S.2.1 dX9_findBest_0 rfl (lv_at hl 0 rfl) ?_
    refine gg_X9_58 S hw dX9_findBest_1 ?_
    refine Yif_eq (tgt := 8) S (hzz.1 41 14 (by decide)) dX9_findBest_4 (by decide) (fun c1_ => ?_) (fun c1_ => ?_)
    · replace hF := ZtP c1_ hF
      refine lv_aload_n S.1 S.2.1 dX9_findBest_8 rfl (lv_at hl 0 rfl) ?_
      refine gf_X9_48 S hw dX9_findBest_9 ?_
      obtain ⟨b2_, hF⟩ := Zgs hF
      refine Yalen4 S hw hzz zd_52 (by decide) b2_ dX9_findBest_12 ?_
      refine Yif_ne (tgt := 34) S (hzz.1 _ _ (by decide)) dX9_findBest_13 (by decide) (fun c3_ => ?_) (fun c3_ => ?_)
      · replace hF := ZtN c3_ hF
        exact w_X9_findBest_b34 S hr hlk hR hdj _ _ _ _ _ hF hw hzz hx2 (lv_sub hl [0, 1, 2] rfl)
      · replace hF := ZtP c3_ hF
        refine lv_aload_n S.1 S.2.1 dX9_findBest_16 rfl (lv_at hl 0 rfl) ?_
        refine lv_sipush (v := i32 4096) S.1 S.2.1 dX9_findBest_17 sp_4096 ?_
        exact nomatch hF
    · replace hF := ZtN c1_ hF
      exact Yvret S hw hzz hr hlk hF dX9_findBest_7)
set_option maxRecDepth 100000 in
set_option maxHeartbeats 4000000 in
theorem w_X10_best_b9 {RR : Int × ZI} (S : CallFix p m c cX10_best 2 s args Ztbl RX10) (hr : meth.sig.returnType = some .int) (hlk : meth.locks = false) (hR : 6 ≤ R.frames ∧ 60 * (6) ≤ R.locals) (hdj : Zdj ad) : ∀ (z : ZI) (H : Heap) (locs : List Loc) (ls : Array Slot), X10_best_b9 z  = some RR → ZW D cA ad (ZA ad) (Zc z) s H locs → Zok z → lv_has ls 2 [(0, .ref (ad 0))] → W p l e R s m args below meth c H locs 0 0 (MQ below (YQi D cA ad RR.1 RR.2) args s 0 0 (ZA ad)) (F0 m 9 ls []) := by
  intro z  H locs ls hF hw hzz  hl
  unfold X10_best_b9 at hF
  refine lv_aload_n S.1 S.2.1 dX10_best_9 rfl (lv_at hl 0 rfl) ?_
  refine lv_bipush (v := i32 (-2)) S.1 S.2.1 dX10_best_10 bp_m2 ?_
  obtain ⟨r3_, z1_, h2_, hF⟩ := Ybs hF
  refine YcallVi (rest := []) S hw (c_X10_refuse hdj hzz r_m2 h2_) my_X10_refuse mi_X10_refuse ml_X10_81 zd_0 zc_X10 rfl (Zrr hR (by decide)) ⟨Nat.zero_le _, Nat.zero_le _⟩ hl.1 rfl rfl (Nat.le_of_ble_eq_true rfl) dX10_best_12 (fun hrr3_ hzz1_ H locs hw => ?_)
  exact Yireti S hw hzz1_ hrr3_ hr hlk hF dX10_best_15
set_option maxRecDepth 100000 in
set_option maxHeartbeats 4000000 in
theorem w_X10_best_b67 {RR : Int × ZI} (S : CallFix p m c cX10_best 2 s args Ztbl RX10) (hr : meth.sig.returnType = some .int) (hlk : meth.locks = false) (hR : 6 ≤ R.frames ∧ 60 * (6) ≤ R.locals) (hdj : Zdj ad) : ∀ (z : ZI) (y0 : Int) (H : Heap) (locs : List Loc) (ls : Array Slot), X10_best_b67 z y0 = some RR → ZW D cA ad (ZA ad) (Zc z) s H locs → Zok z → InR y0 → lv_has ls 2 [] → W p l e R s m args below meth c H locs 0 0 (MQ below (YQi D cA ad RR.1 RR.2) args s 0 0 (ZA ad)) (F0 m 67 ls [.int (i32 (y0))]) := by
  intro z y0 H locs ls hF hw hzz hy0 hl
  unfold X10_best_b67 at hF
  exact Yireti S hw hzz hy0 hr hlk hF dX10_best_67
set_option maxRecDepth 100000 in
set_option maxHeartbeats 4000000 in
theorem c_X10_best {l : Launch} {D : va_G} {cA : Nat → ClassId} {ad : Nat → Nat} (hdj : Zdj ad) {z z1 : ZI} {x1 : Int} {r : Int} (hzz : Zok z) (hx1 : InR x1) (hF : F_X10_best z x1 = some (r, z1)) : YMi l D cA ad (6) yX10_best cX10_best 2 (some .int) [.ref (ad 0), .int (i32 x1)] z r z1 :=
  Zmet hdj (by decide) rfl (Nat.le_of_ble_eq_true rfl) (lv := [(0, .ref (ad 0)), (1, .int (i32 (x1)))]) rfl (fun p e s m args below meth c ls S hr hlk hw hl => by
    have hR : 6 ≤ (Zrm (6)).frames ∧ 60 * (6) ≤ (Zrm (6)).locals := ⟨Nat.le_refl _, Nat.le_refl _⟩
    unfold F_X10_best at hF
    revert hR
    generalize Zrm (6) = R
    intro hR
    refine lv_iload_n S.1 S.2.1 dX10_best_0 rfl (lv_at hl 1 rfl) ?_
    refine Yif_lt (tgt := 9) S hx1 dX10_best_1 (by decide) (fun c1_ => ?_) (fun c1_ => ?_)
    · replace hF := ZtP c1_ hF
      exact w_X10_best_b9 S hr hlk hR hdj _ _ _ _ hF hw hzz  (lv_sub hl [0] rfl)
    · replace hF := ZtN c1_ hF
      refine lv_iload_n S.1 S.2.1 dX10_best_4 rfl (lv_at hl 1 rfl) ?_
      refine lv_iconst (v := i32 5) S.1 S.2.1 dX10_best_5 ic_5 ?_
      refine Yicmp_le (tgt := 16) S hx1 r_5 dX10_best_6 (by decide) (fun c2_ => ?_) (fun c2_ => ?_)
      · replace hF := ZtP c2_ hF
        refine lv_aload_n S.1 S.2.1 dX10_best_16 rfl (lv_at hl 0 rfl) ?_
        refine gf_X10_55 S hw dX10_best_17 ?_
        refine lv_aload_n S.1 S.2.1 dX10_best_20 rfl (lv_at hl 0 rfl) ?_
        refine gf_X10_27 S hw dX10_best_21 ?_
        refine lv_aload_n S.1 S.2.1 dX10_best_24 rfl (lv_at hl 0 rfl) ?_
        refine gg_X10_7 S hw dX10_best_25 ?_
        obtain ⟨r5_, z3_, h4_, hF⟩ := Ybs hF
        refine YcallVv (rest := []) S hw (c_X9_findBest hdj hzz (hzz.1 0 0 (by decide)) h4_) my_X9_findBest mi_X9_findBest ml_X10_226 zd_41 zc_X9 rfl (Zrr hR (by decide)) ⟨Nat.zero_le _, Nat.zero_le _⟩ hl.1 rfl rfl (Nat.le_of_ble_eq_true rfl) dX10_best_28 (fun hzz3_ H locs hw => ?_)
        refine lv_iload_n S.1 S.2.1 dX10_best_31 rfl (lv_at hl 1 rfl) ?_
        refine lv_iconst (v := i32 5) S.1 S.2.1 dX10_best_32 ic_5 ?_
        refine Yicmp_ne (tgt := 44) S hx1 r_5 dX10_best_33 (by decide) (fun c6_ => ?_) (fun c6_ => ?_)
        · replace hF := ZtN c6_ hF
          refine lv_iload_n S.1 S.2.1 dX10_best_44 rfl (lv_at hl 1 rfl) ?_
          refine lv_iconst (v := i32 4) S.1 S.2.1 dX10_best_45 ic_4 ?_
          refine Yicmp_ne (tgt := 59) S hx1 r_4 dX10_best_46 (by decide) (fun c7_ => ?_) (fun c7_ => ?_)
          · replace hF := ZtN c7_ hF
            refine lv_aload_n S.1 S.2.1 dX10_best_59 rfl (lv_at hl 0 rfl) ?_
            refine gf_X10_55 S hw dX10_best_60 ?_
            refine lv_iload_n S.1 S.2.1 dX10_best_63 rfl (lv_at hl 1 rfl) ?_
            obtain ⟨r10_, z8_, h9_, hF⟩ := Ybs hF
            refine YcallVi (rest := []) S hw (c_X9_bestBegin hdj hzz3_ hx1 h9_) my_X9_bestBegin mi_X9_bestBegin ml_X10_236 zd_41 zc_X9 rfl (Zrr hR (by decide)) ⟨Nat.zero_le _, Nat.zero_le _⟩ hl.1 rfl rfl (Nat.le_of_ble_eq_true rfl) dX10_best_64 (fun hrr10_ hzz8_ H locs hw => ?_)
            exact w_X10_best_b67 S hr hlk hR hdj _ _ _ _ _ hF hw hzz8_ hrr10_ (lv_sub hl [] rfl)
          · replace hF := ZtP c7_ hF
            refine lv_aload_n S.1 S.2.1 dX10_best_49 rfl (lv_at hl 0 rfl) ?_
            refine gf_X10_55 S hw dX10_best_50 ?_
            obtain ⟨r13_, z11_, h12_, hF⟩ := Ybs hF
            refine YcallVi (rest := []) S hw (c_X9_bestUnserved hdj hzz3_  h12_) my_X9_bestUnserved mi_X9_bestUnserved ml_X10_233 zd_41 zc_X9 rfl (Zrr hR (by decide)) ⟨Nat.zero_le _, Nat.zero_le _⟩ hl.1 rfl rfl (Nat.le_of_ble_eq_true rfl) dX10_best_53 (fun hrr13_ hzz11_ H locs hw => ?_)
            refine lv_goto (tgt := 67) S.1 S.2.1 dX10_best_56 (by decide) ?_
            exact w_X10_best_b67 S hr hlk hR hdj _ _ _ _ _ hF hw hzz11_ hrr13_ (lv_sub hl [] rfl)
        · replace hF := ZtP c6_ hF
          refine lv_aload_n S.1 S.2.1 dX10_best_36 rfl (lv_at hl 0 rfl) ?_
          refine gf_X10_55 S hw dX10_best_37 ?_
          obtain ⟨r16_, z14_, h15_, hF⟩ := Ybs hF
          refine YcallVi (rest := []) S hw (c_X9_bestSum hdj hzz3_  h15_) my_X9_bestSum mi_X9_bestSum ml_X10_230 zd_41 zc_X9 rfl (Zrr hR (by decide)) ⟨Nat.zero_le _, Nat.zero_le _⟩ hl.1 rfl rfl (Nat.le_of_ble_eq_true rfl) dX10_best_40 (fun hrr16_ hzz14_ H locs hw => ?_)
          exact Yireti S hw hzz14_ hrr16_ hr hlk hF dX10_best_43
      · replace hF := ZtN c2_ hF
        exact w_X10_best_b9 S hr hlk hR hdj _ _ _ _ hF hw hzz  (lv_sub hl [0] rfl))
set_option maxRecDepth 100000 in
set_option maxHeartbeats 4000000 in
theorem w_X10_checkRange_b19 {RR : Int × ZI} (S : CallFix p m c cX10_checkRange 3 s args Ztbl RX10) (hr : meth.sig.returnType = some .int) (hlk : meth.locks = false) (hR : 0 ≤ R.frames ∧ 60 * (0) ≤ R.locals) (hdj : Zdj ad) : ∀ (z : ZI) (y0 : Int) (H : Heap) (locs : List Loc) (ls : Array Slot), X10_checkRange_b19 z y0 = some RR → ZW D cA ad (ZA ad) (Zc z) s H locs → Zok z → InR y0 → lv_has ls 3 [] → W p l e R s m args below meth c H locs 0 0 (MQ below (YQi D cA ad RR.1 RR.2) args s 0 0 (ZA ad)) (F0 m 19 ls [.int (i32 (y0))]) := by
  intro z y0 H locs ls hF hw hzz hy0 hl
  unfold X10_checkRange_b19 at hF
  exact Yireti S hw hzz hy0 hr hlk hF dX10_checkRange_19
set_option maxRecDepth 100000 in
set_option maxHeartbeats 4000000 in
theorem c_X10_checkRange {l : Launch} {D : va_G} {cA : Nat → ClassId} {ad : Nat → Nat} (hdj : Zdj ad) {z z1 : ZI} {x0 : Int} {x1 : Int} {x2 : Int} {r : Int} (hzz : Zok z) (hx0 : InR x0) (hx1 : InR x1) (hx2 : InR x2) (hF : F_X10_checkRange z x0 x1 x2 = some (r, z1)) : YMi l D cA ad (0) yX10_checkRange cX10_checkRange 3 (some .int) [.int (i32 x0), .int (i32 x1), .int (i32 x2)] z r z1 :=
  Zmet hdj (by decide) rfl (Nat.le_of_ble_eq_true rfl) (lv := [(0, .int (i32 (x0))), (1, .int (i32 (x1))), (2, .int (i32 (x2)))]) rfl (fun p e s m args below meth c ls S hr hlk hw hl => by
    have hR : 0 ≤ (Zrm (0)).frames ∧ 60 * (0) ≤ (Zrm (0)).locals := ⟨Nat.le_refl _, Nat.le_refl _⟩
    unfold F_X10_checkRange at hF
    revert hR
    generalize Zrm (0) = R
    intro hR
    refine lv_iload_n S.1 S.2.1 dX10_checkRange_0 rfl (lv_at hl 0 rfl) ?_
    refine lv_iload_n S.1 S.2.1 dX10_checkRange_1 rfl (lv_at hl 1 rfl) ?_
    refine Yicmp_ge (tgt := 8) S hx0 hx1 dX10_checkRange_2 (by decide) (fun c1_ => ?_) (fun c1_ => ?_)
    · replace hF := ZtP c1_ hF
      refine lv_iload_n S.1 S.2.1 dX10_checkRange_8 rfl (lv_at hl 0 rfl) ?_
      refine lv_iload_n S.1 S.2.1 dX10_checkRange_9 rfl (lv_at hl 2 rfl) ?_
      refine Yicmp_le (tgt := 18) S hx0 hx2 dX10_checkRange_10 (by decide) (fun c2_ => ?_) (fun c2_ => ?_)
      · replace hF := ZtP c2_ hF
        refine lv_iconst (v := i32 0) S.1 S.2.1 dX10_checkRange_18 ic_0 ?_
        exact w_X10_checkRange_b19 S hr hlk hR hdj _ _ _ _ _ hF hw hzz r_0 (lv_sub hl [] rfl)
      · replace hF := ZtN c2_ hF
        refine lv_bipush (v := i32 (-6)) S.1 S.2.1 dX10_checkRange_13 bp_m6 ?_
        refine lv_goto (tgt := 19) S.1 S.2.1 dX10_checkRange_15 (by decide) ?_
        exact w_X10_checkRange_b19 S hr hlk hR hdj _ _ _ _ _ hF hw hzz r_m6 (lv_sub hl [] rfl)
    · replace hF := ZtN c1_ hF
      refine lv_bipush (v := i32 (-4)) S.1 S.2.1 dX10_checkRange_5 bp_m4 ?_
      exact Yireti S hw hzz r_m4 hr hlk hF dX10_checkRange_7)
set_option maxRecDepth 100000 in
set_option maxHeartbeats 4000000 in
theorem w_X10_isBlock_b14 {RR : Int × ZI} (S : CallFix p m c cX10_isBlock 1 s args Ztbl RX10) (hr : meth.sig.returnType = some .boolean) (hlk : meth.locks = false) (hR : 0 ≤ R.frames ∧ 60 * (0) ≤ R.locals) (hdj : Zdj ad) : ∀ (z : ZI) (y0 : Int) (H : Heap) (locs : List Loc) (ls : Array Slot), X10_isBlock_b14 z y0 = some RR → ZW D cA ad (ZA ad) (Zc z) s H locs → Zok z → InR y0 → lv_has ls 1 [] → W p l e R s m args below meth c H locs 0 0 (MQ below (YQi D cA ad RR.1 RR.2) args s 0 0 (ZA ad)) (F0 m 14 ls [.int (i32 (y0))]) := by
  intro z y0 H locs ls hF hw hzz hy0 hl
  unfold X10_isBlock_b14 at hF
  obtain ⟨b1_, hF⟩ := Zgs hF
  exact Yiretz S hw hzz hy0 hr hlk b1_ hF dX10_isBlock_14
set_option maxRecDepth 100000 in
set_option maxHeartbeats 4000000 in
theorem w_X10_isBlock_b13 {RR : Int × ZI} (S : CallFix p m c cX10_isBlock 1 s args Ztbl RX10) (hr : meth.sig.returnType = some .boolean) (hlk : meth.locks = false) (hR : 0 ≤ R.frames ∧ 60 * (0) ≤ R.locals) (hdj : Zdj ad) : ∀ (z : ZI) (H : Heap) (locs : List Loc) (ls : Array Slot), X10_isBlock_b13 z  = some RR → ZW D cA ad (ZA ad) (Zc z) s H locs → Zok z → lv_has ls 1 [] → W p l e R s m args below meth c H locs 0 0 (MQ below (YQi D cA ad RR.1 RR.2) args s 0 0 (ZA ad)) (F0 m 13 ls []) := by
  intro z  H locs ls hF hw hzz  hl
  unfold X10_isBlock_b13 at hF
  refine lv_iconst (v := i32 0) S.1 S.2.1 dX10_isBlock_13 ic_0 ?_
  exact w_X10_isBlock_b14 S hr hlk hR hdj _ _ _ _ _ hF hw hzz r_0 (lv_sub hl [] rfl)
set_option maxRecDepth 100000 in
set_option maxHeartbeats 4000000 in
theorem c_X10_isBlock {l : Launch} {D : va_G} {cA : Nat → ClassId} {ad : Nat → Nat} (hdj : Zdj ad) {z z1 : ZI} {x0 : Int} {r : Int} (hzz : Zok z) (hx0 : InR x0) (hF : F_X10_isBlock z x0 = some (r, z1)) : YMi l D cA ad (0) yX10_isBlock cX10_isBlock 1 (some .boolean) [.int (i32 x0)] z r z1 :=
  Zmet hdj (by decide) rfl (Nat.le_of_ble_eq_true rfl) (lv := [(0, .int (i32 (x0)))]) rfl (fun p e s m args below meth c ls S hr hlk hw hl => by
    have hR : 0 ≤ (Zrm (0)).frames ∧ 60 * (0) ≤ (Zrm (0)).locals := ⟨Nat.le_refl _, Nat.le_refl _⟩
    unfold F_X10_isBlock at hF
    revert hR
    generalize Zrm (0) = R
    intro hR
    refine lv_iload_n S.1 S.2.1 dX10_isBlock_0 rfl (lv_at hl 0 rfl) ?_
    refine Yif_lt (tgt := 13) S hx0 dX10_isBlock_1 (by decide) (fun c1_ => ?_) (fun c1_ => ?_)
    · replace hF := ZtP c1_ hF
      exact w_X10_isBlock_b13 S hr hlk hR hdj _ _ _ _ hF hw hzz  (lv_sub hl [] rfl)
    · replace hF := ZtN c1_ hF
      refine lv_iload_n S.1 S.2.1 dX10_isBlock_4 rfl (lv_at hl 0 rfl) ?_
      refine lv_iconst (v := i32 4) S.1 S.2.1 dX10_isBlock_5 ic_4 ?_
      refine Yicmp_ge (tgt := 13) S hx0 r_4 dX10_isBlock_6 (by decide) (fun c2_ => ?_) (fun c2_ => ?_)
      · replace hF := ZtP c2_ hF
        exact w_X10_isBlock_b13 S hr hlk hR hdj _ _ _ _ hF hw hzz  (lv_sub hl [] rfl)
      · replace hF := ZtN c2_ hF
        refine lv_iconst (v := i32 1) S.1 S.2.1 dX10_isBlock_9 ic_1 ?_
        refine lv_goto (tgt := 14) S.1 S.2.1 dX10_isBlock_10 (by decide) ?_
        exact w_X10_isBlock_b14 S hr hlk hR hdj _ _ _ _ _ hF hw hzz r_1 (lv_sub hl [] rfl))
set_option maxRecDepth 100000 in
set_option maxHeartbeats 4000000 in
theorem c_X9_begin {l : Launch} {D : va_G} {cA : Nat → ClassId} {ad : Nat → Nat} (hdj : Zdj ad) {z z1 : ZI} {x1 : Int} {x2 : Int} {r : Int} (hzz : Zok z) (hx1 : InR x1) (hx2 : InR x2) (hF : F_X9_begin z x1 x2 = some (r, z1)) : YMi l D cA ad (0) yX9_begin cX9_begin 4 (some .int) [.ref (ad 41), .int (i32 x1), .int (i32 x2)] z r z1 :=
  Zmet hdj (by decide) rfl (Nat.le_of_ble_eq_true rfl) (lv := [(0, .ref (ad 41)), (1, .int (i32 (x1))), (2, .int (i32 (x2)))]) rfl (fun p e s m args below meth c ls S hr hlk hw hl => by
    have hR : 0 ≤ (Zrm (0)).frames ∧ 60 * (0) ≤ (Zrm (0)).locals := ⟨Nat.le_refl _, Nat.le_refl _⟩
    unfold F_X9_begin at hF
    revert hR
    generalize Zrm (0) = R
    intro hR
    refine lv_aload_n S.1 S.2.1 dX9_begin_0 rfl (lv_at hl 0 rfl) ?_
    refine gf_X9_21 S hw dX9_begin_1 ?_
    refine lv_iload_n S.1 S.2.1 dX9_begin_4 rfl (lv_at hl 1 rfl) ?_
    obtain ⟨b1_, hF⟩ := Zgs hF
    refine Yiald S hw zd_45 (by decide) hx1 b1_ dX9_begin_5 ?_
    refine lv_istore_n (lv' := [(3, .int (i32 (z 45 x1))), (0, .ref (ad 41)), (1, .int (i32 (x1))), (2, .int (i32 (x2)))]) S.1 S.2.1 dX9_begin_6 rfl hl (by decide) rfl (fun ls hl => ?_)
    refine lv_aload_n S.1 S.2.1 dX9_begin_7 rfl (lv_at hl 1 rfl) ?_
    refine gf_X9_21 S hw dX9_begin_8 ?_
    refine lv_iload_n S.1 S.2.1 dX9_begin_11 rfl (lv_at hl 2 rfl) ?_
    refine lv_iload_n S.1 S.2.1 dX9_begin_12 rfl (lv_at hl 3 rfl) ?_
    obtain ⟨b2_, hF⟩ := Zgs hF
    refine Yiast S hw hzz zd_45 (by decide) hx1 hx2 b2_ dX9_begin_13 (fun z3_ H locs ez hzz3_ hw => ?_)
    replace hF := Zle ez hF; clear ez
    refine lv_iload_n S.1 S.2.1 dX9_begin_14 rfl (lv_at hl 0 rfl) ?_
    exact Yireti S hw hzz3_ (hzz.1 _ _ (by decide)) hr hlk hF dX9_begin_15)
set_option maxRecDepth 100000 in
set_option maxHeartbeats 4000000 in
theorem w_X10_block_b42 {RR : Int × ZI} (S : CallFix p m c cX10_block 4 s args Ztbl RX10) (hr : meth.sig.returnType = some .int) (hlk : meth.locks = false) (hR : 1 ≤ R.frames ∧ 60 * (1) ≤ R.locals) (hdj : Zdj ad) : ∀ (z : ZI) (y0 : Int) (H : Heap) (locs : List Loc) (ls : Array Slot), X10_block_b42 z y0 = some RR → ZW D cA ad (ZA ad) (Zc z) s H locs → Zok z → InR y0 → lv_has ls 4 [] → W p l e R s m args below meth c H locs 0 0 (MQ below (YQi D cA ad RR.1 RR.2) args s 0 0 (ZA ad)) (F0 m 42 ls [.int (i32 (y0))]) := by
  intro z y0 H locs ls hF hw hzz hy0 hl
  unfold X10_block_b42 at hF
  exact Yireti S hw hzz hy0 hr hlk hF dX10_block_42
set_option maxRecDepth 100000 in
set_option maxHeartbeats 4000000 in
theorem c_X10_block {l : Launch} {D : va_G} {cA : Nat → ClassId} {ad : Nat → Nat} (hdj : Zdj ad) {z z1 : ZI} {x1 : Int} {x2 : Int} {r : Int} (hzz : Zok z) (hx1 : InR x1) (hx2 : InR x2) (hF : F_X10_block z x1 x2 = some (r, z1)) : YMi l D cA ad (1) yX10_block cX10_block 4 (some .int) [.ref (ad 0), .int (i32 x1), .int (i32 x2)] z r z1 :=
  Zmet hdj (by decide) rfl (Nat.le_of_ble_eq_true rfl) (lv := [(0, .ref (ad 0)), (1, .int (i32 (x1))), (2, .int (i32 (x2)))]) rfl (fun p e s m args below meth c ls S hr hlk hw hl => by
    have hR : 1 ≤ (Zrm (1)).frames ∧ 60 * (1) ≤ (Zrm (1)).locals := ⟨Nat.le_refl _, Nat.le_refl _⟩
    unfold F_X10_block at hF
    revert hR
    generalize Zrm (1) = R
    intro hR
    refine lv_iload_n S.1 S.2.1 dX10_block_0 rfl (lv_at hl 1 rfl) ?_
    obtain ⟨r3_, z1_, h2_, hF⟩ := Ybs hF
    refine YcallSi (rest := []) S hw (c_X10_isBlock hdj hzz hx1 h2_) my_X10_isBlock ms_X10_isBlock ml_X10_100 (Zrr hR (by decide)) ⟨Nat.zero_le _, Nat.zero_le _⟩ hl.1 rfl rfl (Nat.le_of_ble_eq_true rfl) dX10_block_1 (fun hrr3_ hzz1_ H locs hw => ?_)
    refine Yif_ne (tgt := 13) S hrr3_ dX10_block_4 (by decide) (fun c4_ => ?_) (fun c4_ => ?_)
    · replace hF := ZtN c4_ hF
      refine lv_iload_n S.1 S.2.1 dX10_block_13 rfl (lv_at hl 2 rfl) ?_
      refine lv_iconst (v := i32 4) S.1 S.2.1 dX10_block_14 ic_4 ?_
      refine lv_bipush (v := i32 20) S.1 S.2.1 dX10_block_15 bp_20 ?_
      obtain ⟨r7_, z5_, h6_, hF⟩ := Ybs hF
      refine YcallSi (rest := []) S hw (c_X10_checkRange hdj hzz1_ hx2 r_4 r_20 h6_) my_X10_checkRange ms_X10_checkRange ml_X10_85 (Zrr hR (by decide)) ⟨Nat.zero_le _, Nat.zero_le _⟩ hl.1 rfl rfl (Nat.le_of_ble_eq_true rfl) dX10_block_17 (fun hrr7_ hzz5_ H locs hw => ?_)
      refine lv_istore_n (lv' := [(3, .int (i32 (r7_))), (0, .ref (ad 0)), (1, .int (i32 (x1))), (2, .int (i32 (x2)))]) S.1 S.2.1 dX10_block_20 rfl hl (by decide) rfl (fun ls hl => ?_)
      refine lv_iload_n S.1 S.2.1 dX10_block_21 rfl (lv_at hl 0 rfl) ?_
      refine Yif_ne (tgt := 37) S hrr7_ dX10_block_22 (by decide) (fun c8_ => ?_) (fun c8_ => ?_)
      · replace hF := ZtN c8_ hF
        refine lv_aload_n S.1 S.2.1 dX10_block_37 rfl (lv_at hl 1 rfl) ?_
        refine lv_iload_n S.1 S.2.1 dX10_block_38 rfl (lv_at hl 0 rfl) ?_
        obtain ⟨r11_, z9_, h10_, hF⟩ := Ybs hF
        refine YcallVi (rest := []) S hw (c_X10_refuse hdj hzz5_ hrr7_ h10_) my_X10_refuse mi_X10_refuse ml_X10_81 zd_0 zc_X10 rfl (Zrr hR (by decide)) ⟨Nat.zero_le _, Nat.zero_le _⟩ hl.1 rfl rfl (Nat.le_of_ble_eq_true rfl) dX10_block_39 (fun hrr11_ hzz9_ H locs hw => ?_)
        exact w_X10_block_b42 S hr hlk hR hdj _ _ _ _ _ hF hw hzz9_ hrr11_ (lv_sub hl [] rfl)
      · replace hF := ZtP c8_ hF
        refine lv_aload_n S.1 S.2.1 dX10_block_25 rfl (lv_at hl 1 rfl) ?_
        refine gf_X10_55 S hw dX10_block_26 ?_
        refine lv_iload_n S.1 S.2.1 dX10_block_29 rfl (lv_at hl 2 rfl) ?_
        refine lv_iload_n S.1 S.2.1 dX10_block_30 rfl (lv_at hl 3 rfl) ?_
        obtain ⟨r14_, z12_, h13_, hF⟩ := Ybs hF
        refine YcallVi (rest := []) S hw (c_X9_begin hdj hzz5_ hx1 hx2 h13_) my_X9_begin mi_X9_begin ml_X10_220 zd_41 zc_X9 rfl (Zrr hR (by decide)) ⟨Nat.zero_le _, Nat.zero_le _⟩ hl.1 rfl rfl (Nat.le_of_ble_eq_true rfl) dX10_block_31 (fun hrr14_ hzz12_ H locs hw => ?_)
        refine lv_goto (tgt := 42) S.1 S.2.1 dX10_block_34 (by decide) ?_
        exact w_X10_block_b42 S hr hlk hR hdj _ _ _ _ _ hF hw hzz12_ hrr14_ (lv_sub hl [] rfl)
    · replace hF := ZtP c4_ hF
      refine lv_aload_n S.1 S.2.1 dX10_block_7 rfl (lv_at hl 0 rfl) ?_
      refine lv_iconst (v := i32 (-1)) S.1 S.2.1 dX10_block_8 ic_m1 ?_
      obtain ⟨r17_, z15_, h16_, hF⟩ := Ybs hF
      refine YcallVi (rest := []) S hw (c_X10_refuse hdj hzz1_ r_m1 h16_) my_X10_refuse mi_X10_refuse ml_X10_81 zd_0 zc_X10 rfl (Zrr hR (by decide)) ⟨Nat.zero_le _, Nat.zero_le _⟩ hl.1 rfl rfl (Nat.le_of_ble_eq_true rfl) dX10_block_9 (fun hrr17_ hzz15_ H locs hw => ?_)
      exact Yireti S hw hzz15_ hrr17_ hr hlk hF dX10_block_12)
set_option maxRecDepth 100000 in
set_option maxHeartbeats 4000000 in
theorem w_X3_hasHouse_b17 {RR : Int × ZI} (S : CallFix p m c cX3_hasHouse 2 s args Ztbl RX3) (hr : meth.sig.returnType = some .boolean) (hlk : meth.locks = false) (hR : 0 ≤ R.frames ∧ 60 * (0) ≤ R.locals) (hdj : Zdj ad) : ∀ (z : ZI) (y0 : Int) (H : Heap) (locs : List Loc) (ls : Array Slot), X3_hasHouse_b17 z y0 = some RR → ZW D cA ad (ZA ad) (Zc z) s H locs → Zok z → InR y0 → lv_has ls 2 [] → W p l e R s m args below meth c H locs 0 0 (MQ below (YQi D cA ad RR.1 RR.2) args s 0 0 (ZA ad)) (F0 m 17 ls [.int (i32 (y0))]) := by
  intro z y0 H locs ls hF hw hzz hy0 hl
  unfold X3_hasHouse_b17 at hF
  obtain ⟨b1_, hF⟩ := Zgs hF
  exact Yiretz S hw hzz hy0 hr hlk b1_ hF dX3_hasHouse_17
set_option maxRecDepth 100000 in
set_option maxHeartbeats 4000000 in
theorem w_X3_hasHouse_b16 {RR : Int × ZI} (S : CallFix p m c cX3_hasHouse 2 s args Ztbl RX3) (hr : meth.sig.returnType = some .boolean) (hlk : meth.locks = false) (hR : 0 ≤ R.frames ∧ 60 * (0) ≤ R.locals) (hdj : Zdj ad) : ∀ (z : ZI) (H : Heap) (locs : List Loc) (ls : Array Slot), X3_hasHouse_b16 z  = some RR → ZW D cA ad (ZA ad) (Zc z) s H locs → Zok z → lv_has ls 2 [] → W p l e R s m args below meth c H locs 0 0 (MQ below (YQi D cA ad RR.1 RR.2) args s 0 0 (ZA ad)) (F0 m 16 ls []) := by
  intro z  H locs ls hF hw hzz  hl
  unfold X3_hasHouse_b16 at hF
  refine lv_iconst (v := i32 0) S.1 S.2.1 dX3_hasHouse_16 ic_0 ?_
  exact w_X3_hasHouse_b17 S hr hlk hR hdj _ _ _ _ _ hF hw hzz r_0 (lv_sub hl [] rfl)
set_option maxRecDepth 100000 in
set_option maxHeartbeats 4000000 in
theorem c_X3_hasHouse {l : Launch} {D : va_G} {cA : Nat → ClassId} {ad : Nat → Nat} (hdj : Zdj ad) {z z1 : ZI} {x1 : Int} {r : Int} (hzz : Zok z) (hx1 : InR x1) (hF : F_X3_hasHouse z x1 = some (r, z1)) : YMi l D cA ad (0) yX3_hasHouse cX3_hasHouse 2 (some .boolean) [.ref (ad 11), .int (i32 x1)] z r z1 :=
  Zmet hdj (by decide) rfl (Nat.le_of_ble_eq_true rfl) (lv := [(0, .ref (ad 11)), (1, .int (i32 (x1)))]) rfl (fun p e s m args below meth c ls S hr hlk hw hl => by
    have hR : 0 ≤ (Zrm (0)).frames ∧ 60 * (0) ≤ (Zrm (0)).locals := ⟨Nat.le_refl _, Nat.le_refl _⟩
    unfold F_X3_hasHouse at hF
    revert hR
    generalize Zrm (0) = R
    intro hR
    refine lv_iload_n S.1 S.2.1 dX3_hasHouse_0 rfl (lv_at hl 1 rfl) ?_
    refine Yif_lt (tgt := 16) S hx1 dX3_hasHouse_1 (by decide) (fun c1_ => ?_) (fun c1_ => ?_)
    · replace hF := ZtP c1_ hF
      exact w_X3_hasHouse_b16 S hr hlk hR hdj _ _ _ _ hF hw hzz  (lv_sub hl [] rfl)
    · replace hF := ZtN c1_ hF
      refine lv_iload_n S.1 S.2.1 dX3_hasHouse_4 rfl (lv_at hl 1 rfl) ?_
      refine lv_aload_n S.1 S.2.1 dX3_hasHouse_5 rfl (lv_at hl 0 rfl) ?_
      refine gg_X3_55 S hw dX3_hasHouse_6 ?_
      refine Yicmp_ge (tgt := 16) S hx1 (hzz.1 11 0 (by decide)) dX3_hasHouse_9 (by decide) (fun c2_ => ?_) (fun c2_ => ?_)
      · replace hF := ZtP c2_ hF
        exact w_X3_hasHouse_b16 S hr hlk hR hdj _ _ _ _ hF hw hzz  (lv_sub hl [] rfl)
      · replace hF := ZtN c2_ hF
        refine lv_iconst (v := i32 1) S.1 S.2.1 dX3_hasHouse_12 ic_1 ?_
        refine lv_goto (tgt := 17) S.1 S.2.1 dX3_hasHouse_13 (by decide) ?_
        exact w_X3_hasHouse_b17 S hr hlk hR hdj _ _ _ _ _ hF hw hzz r_1 (lv_sub hl [] rfl))
set_option maxRecDepth 100000 in
set_option maxHeartbeats 4000000 in
theorem c_X10_card {l : Launch} {D : va_G} {cA : Nat → ClassId} {ad : Nat → Nat} (hdj : Zdj ad) {z z1 : ZI} {x1 : Int} {r : Int} (hzz : Zok z) (hx1 : InR x1) (hF : F_X10_card z x1 = some (r, z1)) : YMi l D cA ad (1) yX10_card cX10_card 2 (some .int) [.ref (ad 0), .int (i32 x1)] z r z1 :=
  Zmet hdj (by decide) rfl (Nat.le_of_ble_eq_true rfl) (lv := [(0, .ref (ad 0)), (1, .int (i32 (x1)))]) rfl (fun p e s m args below meth c ls S hr hlk hw hl => by
    have hR : 1 ≤ (Zrm (1)).frames ∧ 60 * (1) ≤ (Zrm (1)).locals := ⟨Nat.le_refl _, Nat.le_refl _⟩
    unfold F_X10_card at hF
    revert hR
    generalize Zrm (1) = R
    intro hR
    refine lv_aload_n S.1 S.2.1 dX10_card_0 rfl (lv_at hl 0 rfl) ?_
    refine gf_X10_27 S hw dX10_card_1 ?_
    refine lv_iload_n S.1 S.2.1 dX10_card_4 rfl (lv_at hl 1 rfl) ?_
    obtain ⟨r3_, z1_, h2_, hF⟩ := Ybs hF
    refine YcallVi (rest := []) S hw (c_X3_hasHouse hdj hzz hx1 h2_) my_X3_hasHouse mi_X3_hasHouse ml_X10_115 zd_11 zc_X3 rfl (Zrr hR (by decide)) ⟨Nat.zero_le _, Nat.zero_le _⟩ hl.1 rfl rfl (Nat.le_of_ble_eq_true rfl) dX10_card_5 (fun hrr3_ hzz1_ H locs hw => ?_)
    refine Yif_ne (tgt := 17) S hrr3_ dX10_card_8 (by decide) (fun c4_ => ?_) (fun c4_ => ?_)
    · replace hF := ZtN c4_ hF
      refine lv_aload_n S.1 S.2.1 dX10_card_17 rfl (lv_at hl 0 rfl) ?_
      refine gf_X10_41 S hw dX10_card_18 ?_
      refine gg_X10_154 S hw dX10_card_21 ?_
      refine lv_bipush (v := i32 40) S.1 S.2.1 dX10_card_24 bp_40 ?_
      refine Yicmp_lt (tgt := 36) S (hzz1_.1 33 0 (by decide)) r_40 dX10_card_26 (by decide) (fun c5_ => ?_) (fun c5_ => ?_)
      · replace hF := ZtP c5_ hF
        refine lv_aload_n S.1 S.2.1 dX10_card_36 rfl (lv_at hl 0 rfl) ?_
        refine gf_X10_41 S hw dX10_card_37 ?_
        refine lv_iload_n S.1 S.2.1 dX10_card_40 rfl (lv_at hl 1 rfl) ?_
        refine lv_aload_n S.1 S.2.1 dX10_card_41 rfl (lv_at hl 0 rfl) ?_
        refine gg_X10_7 S hw dX10_card_42 ?_
        obtain ⟨r8_, z6_, h7_, hF⟩ := Ybs hF
        refine YcallVi (rest := []) S hw (c_X0_make hdj hzz1_ hx1 (hzz1_.1 0 0 (by decide)) h7_) my_X0_make mi_X0_make ml_X10_157 zd_33 zc_X0 rfl (Zrr hR (by decide)) ⟨Nat.zero_le _, Nat.zero_le _⟩ hl.1 rfl rfl (Nat.le_of_ble_eq_true rfl) dX10_card_45 (fun hrr8_ hzz6_ H locs hw => ?_)
        exact Yireti S hw hzz6_ hrr8_ hr hlk hF dX10_card_48
      · replace hF := ZtN c5_ hF
        refine lv_aload_n S.1 S.2.1 dX10_card_29 rfl (lv_at hl 0 rfl) ?_
        refine lv_bipush (v := i32 (-6)) S.1 S.2.1 dX10_card_30 bp_m6 ?_
        obtain ⟨r11_, z9_, h10_, hF⟩ := Ybs hF
        refine YcallVi (rest := []) S hw (c_X10_refuse hdj hzz1_ r_m6 h10_) my_X10_refuse mi_X10_refuse ml_X10_81 zd_0 zc_X10 rfl (Zrr hR (by decide)) ⟨Nat.zero_le _, Nat.zero_le _⟩ hl.1 rfl rfl (Nat.le_of_ble_eq_true rfl) dX10_card_32 (fun hrr11_ hzz9_ H locs hw => ?_)
        exact Yireti S hw hzz9_ hrr11_ hr hlk hF dX10_card_35
    · replace hF := ZtP c4_ hF
      refine lv_aload_n S.1 S.2.1 dX10_card_11 rfl (lv_at hl 0 rfl) ?_
      refine lv_iconst (v := i32 (-1)) S.1 S.2.1 dX10_card_12 ic_m1 ?_
      obtain ⟨r14_, z12_, h13_, hF⟩ := Ybs hF
      refine YcallVi (rest := []) S hw (c_X10_refuse hdj hzz1_ r_m1 h13_) my_X10_refuse mi_X10_refuse ml_X10_81 zd_0 zc_X10 rfl (Zrr hR (by decide)) ⟨Nat.zero_le _, Nat.zero_le _⟩ hl.1 rfl rfl (Nat.le_of_ble_eq_true rfl) dX10_card_13 (fun hrr14_ hzz12_ H locs hw => ?_)
      exact Yireti S hw hzz12_ hrr14_ hr hlk hF dX10_card_16)
set_option maxRecDepth 100000 in
set_option maxHeartbeats 4000000 in
theorem c_X1_note {l : Launch} {D : va_G} {cA : Nat → ClassId} {ad : Nat → Nat} (hdj : Zdj ad) {z z1 : ZI} {x1 : Int} {x2 : Int} {x3 : Int} {x4 : Int} {r : Int} (hzz : Zok z) (hx1 : InR x1) (hx2 : InR x2) (hx3 : InR x3) (hx4 : InR x4) (hF : F_X1_note z x1 x2 x3 x4 = some (r, z1)) : YMi l D cA ad (0) yX1_note cX1_note 5 (some .int) [.ref (ad 63), .int (i32 x1), .int (i32 x2), .int (i32 x3), .int (i32 x4)] z r z1 :=
  Zmet hdj (by decide) rfl (Nat.le_of_ble_eq_true rfl) (lv := [(0, .ref (ad 63)), (1, .int (i32 (x1))), (2, .int (i32 (x2))), (3, .int (i32 (x3))), (4, .int (i32 (x4)))]) rfl (fun p e s m args below meth c ls S hr hlk hw hl => by
    have hR : 0 ≤ (Zrm (0)).frames ∧ 60 * (0) ≤ (Zrm (0)).locals := ⟨Nat.le_refl _, Nat.le_refl _⟩
    unfold F_X1_note at hF
    revert hR
    generalize Zrm (0) = R
    intro hR
    refine lv_aload_n S.1 S.2.1 dX1_note_0 rfl (lv_at hl 0 rfl) ?_
    refine gf_X1_9 S hw dX1_note_1 ?_
    refine lv_aload_n S.1 S.2.1 dX1_note_4 rfl (lv_at hl 0 rfl) ?_
    refine gg_X1_24 S hw dX1_note_5 ?_
    refine lv_iload_n S.1 S.2.1 dX1_note_8 rfl (lv_at hl 1 rfl) ?_
    obtain ⟨b1_, hF⟩ := Zgs hF
    refine Yiast S hw hzz zd_64 (by decide) (hzz.1 63 0 (by decide)) hx1 b1_ dX1_note_9 (fun z2_ H locs ez hzz2_ hw => ?_)
    replace hF := Zle ez hF; clear ez
    refine lv_aload_n S.1 S.2.1 dX1_note_10 rfl (lv_at hl 0 rfl) ?_
    refine gf_X1_15 S hw dX1_note_11 ?_
    refine lv_aload_n S.1 S.2.1 dX1_note_14 rfl (lv_at hl 0 rfl) ?_
    refine gg_X1_24 S hw dX1_note_15 ?_
    refine lv_iload_n S.1 S.2.1 dX1_note_18 rfl (lv_at hl 2 rfl) ?_
    obtain ⟨b3_, hF⟩ := Zgs hF
    refine Yiast S hw hzz2_ zd_65 (by decide) (hzz2_.1 63 0 (by decide)) hx2 b3_ dX1_note_19 (fun z4_ H locs ez hzz4_ hw => ?_)
    replace hF := Zle ez hF; clear ez
    refine lv_aload_n S.1 S.2.1 dX1_note_20 rfl (lv_at hl 0 rfl) ?_
    refine gf_X1_18 S hw dX1_note_21 ?_
    refine lv_aload_n S.1 S.2.1 dX1_note_24 rfl (lv_at hl 0 rfl) ?_
    refine gg_X1_24 S hw dX1_note_25 ?_
    refine lv_iload_n S.1 S.2.1 dX1_note_28 rfl (lv_at hl 3 rfl) ?_
    obtain ⟨b5_, hF⟩ := Zgs hF
    refine Yiast S hw hzz4_ zd_66 (by decide) (hzz4_.1 63 0 (by decide)) hx3 b5_ dX1_note_29 (fun z6_ H locs ez hzz6_ hw => ?_)
    replace hF := Zle ez hF; clear ez
    refine lv_aload_n S.1 S.2.1 dX1_note_30 rfl (lv_at hl 0 rfl) ?_
    refine gf_X1_21 S hw dX1_note_31 ?_
    refine lv_aload_n S.1 S.2.1 dX1_note_34 rfl (lv_at hl 0 rfl) ?_
    refine gg_X1_24 S hw dX1_note_35 ?_
    refine lv_iload S.1 S.2.1 dX1_note_38 (lv_at hl 4 rfl) ?_
    obtain ⟨b7_, hF⟩ := Zgs hF
    refine Yiast S hw hzz6_ zd_67 (by decide) (hzz6_.1 63 0 (by decide)) hx4 b7_ dX1_note_40 (fun z8_ H locs ez hzz8_ hw => ?_)
    replace hF := Zle ez hF; clear ez
    refine lv_aload_n S.1 S.2.1 dX1_note_41 rfl (lv_at hl 0 rfl) ?_
    refine lv_dup S.1 S.2.1 dX1_note_42 rfl ?_
    refine gg_X1_24 S hw dX1_note_43 ?_
    refine lv_iconst (v := i32 1) S.1 S.2.1 dX1_note_46 ic_1 ?_
    obtain ⟨g9_, hF⟩ := Zgs hF
    refine Yiadd S dX1_note_47 ?_
    refine pp_X1_24 S hw hzz8_ g9_ dX1_note_48 (fun z10_ H locs ez hzz10_ hw => ?_)
    replace hF := Zle ez hF; clear ez
    refine lv_aload_n S.1 S.2.1 dX1_note_51 rfl (lv_at hl 0 rfl) ?_
    refine gg_X1_24 S hw dX1_note_52 ?_
    exact Yireti S hw hzz10_ (hzz10_.1 63 0 (by decide)) hr hlk hF dX1_note_55)
set_option maxRecDepth 100000 in
set_option maxHeartbeats 4000000 in
theorem w_X10_count_b22 {RR : Int × ZI} (S : CallFix p m c cX10_count 4 s args Ztbl RX10) (hr : meth.sig.returnType = some .int) (hlk : meth.locks = false) (hR : 1 ≤ R.frames ∧ 60 * (1) ≤ R.locals) (hdj : Zdj ad) : ∀ (z : ZI) (H : Heap) (locs : List Loc) (ls : Array Slot), X10_count_b22 z  = some RR → ZW D cA ad (ZA ad) (Zc z) s H locs → Zok z → lv_has ls 4 [(0, .ref (ad 0))] → W p l e R s m args below meth c H locs 0 0 (MQ below (YQi D cA ad RR.1 RR.2) args s 0 0 (ZA ad)) (F0 m 22 ls []) := by
  intro z  H locs ls hF hw hzz  hl
  unfold X10_count_b22 at hF
  refine lv_aload_n S.1 S.2.1 dX10_count_22 rfl (lv_at hl 0 rfl) ?_
  refine lv_bipush (v := i32 (-4)) S.1 S.2.1 dX10_count_23 bp_m4 ?_
  obtain ⟨r3_, z1_, h2_, hF⟩ := Ybs hF
  refine YcallVi (rest := []) S hw (c_X10_refuse hdj hzz r_m4 h2_) my_X10_refuse mi_X10_refuse ml_X10_81 zd_0 zc_X10 rfl (Zrr hR (by decide)) ⟨Nat.zero_le _, Nat.zero_le _⟩ hl.1 rfl rfl (Nat.le_of_ble_eq_true rfl) dX10_count_25 (fun hrr3_ hzz1_ H locs hw => ?_)
  exact Yireti S hw hzz1_ hrr3_ hr hlk hF dX10_count_28
set_option maxRecDepth 100000 in
set_option maxHeartbeats 4000000 in
theorem w_X10_count_b56 {RR : Int × ZI} (S : CallFix p m c cX10_count 4 s args Ztbl RX10) (hr : meth.sig.returnType = some .int) (hlk : meth.locks = false) (hR : 1 ≤ R.frames ∧ 60 * (1) ≤ R.locals) (hdj : Zdj ad) : ∀ (z : ZI) (H : Heap) (locs : List Loc) (ls : Array Slot), X10_count_b56 z  = some RR → ZW D cA ad (ZA ad) (Zc z) s H locs → Zok z → lv_has ls 4 [(0, .ref (ad 0))] → W p l e R s m args below meth c H locs 0 0 (MQ below (YQi D cA ad RR.1 RR.2) args s 0 0 (ZA ad)) (F0 m 56 ls []) := by
  intro z  H locs ls hF hw hzz  hl
  unfold X10_count_b56 at hF
  refine lv_aload_n S.1 S.2.1 dX10_count_56 rfl (lv_at hl 0 rfl) ?_
  refine lv_bipush (v := i32 (-6)) S.1 S.2.1 dX10_count_57 bp_m6 ?_
  obtain ⟨r3_, z1_, h2_, hF⟩ := Ybs hF
  refine YcallVi (rest := []) S hw (c_X10_refuse hdj hzz r_m6 h2_) my_X10_refuse mi_X10_refuse ml_X10_81 zd_0 zc_X10 rfl (Zrr hR (by decide)) ⟨Nat.zero_le _, Nat.zero_le _⟩ hl.1 rfl rfl (Nat.le_of_ble_eq_true rfl) dX10_count_59 (fun hrr3_ hzz1_ H locs hw => ?_)
  exact Yireti S hw hzz1_ hrr3_ hr hlk hF dX10_count_62
set_option maxRecDepth 100000 in
set_option maxHeartbeats 4000000 in
theorem c_X10_count {l : Launch} {D : va_G} {cA : Nat → ClassId} {ad : Nat → Nat} (hdj : Zdj ad) {z z1 : ZI} {x1 : Int} {x2 : Int} {x3 : Int} {r : Int} (hzz : Zok z) (hx1 : InR x1) (hx2 : InR x2) (hx3 : InR x3) (hF : F_X10_count z x1 x2 x3 = some (r, z1)) : YMi l D cA ad (1) yX10_count cX10_count 4 (some .int) [.ref (ad 0), .int (i32 x1), .int (i32 x2), .int (i32 x3)] z r z1 :=
  Zmet hdj (by decide) rfl (Nat.le_of_ble_eq_true rfl) (lv := [(0, .ref (ad 0)), (1, .int (i32 (x1))), (2, .int (i32 (x2))), (3, .int (i32 (x3)))]) rfl (fun p e s m args below meth c ls S hr hlk hw hl => by
    have hR : 1 ≤ (Zrm (1)).frames ∧ 60 * (1) ≤ (Zrm (1)).locals := ⟨Nat.le_refl _, Nat.le_refl _⟩
    unfold F_X10_count at hF
    revert hR
    generalize Zrm (1) = R
    intro hR
    refine lv_iload_n S.1 S.2.1 dX10_count_0 rfl (lv_at hl 1 rfl) ?_
    obtain ⟨r3_, z1_, h2_, hF⟩ := Ybs hF
    refine YcallSi (rest := []) S hw (c_X10_isBlock hdj hzz hx1 h2_) my_X10_isBlock ms_X10_isBlock ml_X10_100 (Zrr hR (by decide)) ⟨Nat.zero_le _, Nat.zero_le _⟩ hl.1 rfl rfl (Nat.le_of_ble_eq_true rfl) dX10_count_1 (fun hrr3_ hzz1_ H locs hw => ?_)
    refine Yif_ne (tgt := 13) S hrr3_ dX10_count_4 (by decide) (fun c4_ => ?_) (fun c4_ => ?_)
    · replace hF := ZtN c4_ hF
      refine lv_iload_n S.1 S.2.1 dX10_count_13 rfl (lv_at hl 2 rfl) ?_
      refine Yif_lt (tgt := 22) S hx2 dX10_count_14 (by decide) (fun c5_ => ?_) (fun c5_ => ?_)
      · replace hF := ZtP c5_ hF
        exact w_X10_count_b22 S hr hlk hR hdj _ _ _ _ hF hw hzz1_  (lv_sub hl [0] rfl)
      · replace hF := ZtN c5_ hF
        refine lv_iload_n S.1 S.2.1 dX10_count_17 rfl (lv_at hl 3 rfl) ?_
        refine lv_iconst (v := i32 (-1)) S.1 S.2.1 dX10_count_18 ic_m1 ?_
        refine Yicmp_ge (tgt := 29) S hx3 r_m1 dX10_count_19 (by decide) (fun c6_ => ?_) (fun c6_ => ?_)
        · replace hF := ZtP c6_ hF
          refine lv_iload_n S.1 S.2.1 dX10_count_29 rfl (lv_at hl 2 rfl) ?_
          refine lv_aload_n S.1 S.2.1 dX10_count_30 rfl (lv_at hl 0 rfl) ?_
          refine gg_X10_7 S hw dX10_count_31 ?_
          refine Yicmp_gt (tgt := 56) S hx2 (hzz1_.1 0 0 (by decide)) dX10_count_34 (by decide) (fun c7_ => ?_) (fun c7_ => ?_)
          · replace hF := ZtP c7_ hF
            exact w_X10_count_b56 S hr hlk hR hdj _ _ _ _ hF hw hzz1_  (lv_sub hl [0] rfl)
          · replace hF := ZtN c7_ hF
            refine lv_iload_n S.1 S.2.1 dX10_count_37 rfl (lv_at hl 3 rfl) ?_
            refine lv_sipush (v := i32 9999) S.1 S.2.1 dX10_count_38 sp_9999 ?_
            refine Yicmp_gt (tgt := 56) S hx3 r_9999 dX10_count_41 (by decide) (fun c8_ => ?_) (fun c8_ => ?_)
            · replace hF := ZtP c8_ hF
              exact w_X10_count_b56 S hr hlk hR hdj _ _ _ _ hF hw hzz1_  (lv_sub hl [0] rfl)
            · replace hF := ZtN c8_ hF
              refine lv_aload_n S.1 S.2.1 dX10_count_44 rfl (lv_at hl 0 rfl) ?_
              refine gf_X10_76 S hw dX10_count_45 ?_
              refine gg_X10_311 S hw dX10_count_48 ?_
              refine lv_bipush (v := i32 40) S.1 S.2.1 dX10_count_51 bp_40 ?_
              refine Yicmp_lt (tgt := 63) S (hzz1_.1 63 0 (by decide)) r_40 dX10_count_53 (by decide) (fun c9_ => ?_) (fun c9_ => ?_)
              · replace hF := ZtP c9_ hF
                refine lv_aload_n S.1 S.2.1 dX10_count_63 rfl (lv_at hl 0 rfl) ?_
                refine gf_X10_76 S hw dX10_count_64 ?_
                refine lv_iload_n S.1 S.2.1 dX10_count_67 rfl (lv_at hl 1 rfl) ?_
                refine lv_iload_n S.1 S.2.1 dX10_count_68 rfl (lv_at hl 2 rfl) ?_
                refine lv_iload_n S.1 S.2.1 dX10_count_69 rfl (lv_at hl 3 rfl) ?_
                refine lv_aload_n S.1 S.2.1 dX10_count_70 rfl (lv_at hl 0 rfl) ?_
                refine gg_X10_7 S hw dX10_count_71 ?_
                obtain ⟨r12_, z10_, h11_, hF⟩ := Ybs hF
                refine YcallVi (rest := []) S hw (c_X1_note hdj hzz1_ hx1 hx2 hx3 (hzz1_.1 0 0 (by decide)) h11_) my_X1_note mi_X1_note ml_X10_312 zd_63 zc_X1 rfl (Zrr hR (by decide)) ⟨Nat.zero_le _, Nat.zero_le _⟩ hl.1 rfl rfl (Nat.le_of_ble_eq_true rfl) dX10_count_74 (fun hrr12_ hzz10_ H locs hw => ?_)
                exact Yireti S hw hzz10_ hrr12_ hr hlk hF dX10_count_77
              · replace hF := ZtN c9_ hF
                exact w_X10_count_b56 S hr hlk hR hdj _ _ _ _ hF hw hzz1_  (lv_sub hl [0] rfl)
        · replace hF := ZtN c6_ hF
          exact w_X10_count_b22 S hr hlk hR hdj _ _ _ _ hF hw hzz1_  (lv_sub hl [0] rfl)
    · replace hF := ZtP c4_ hF
      refine lv_aload_n S.1 S.2.1 dX10_count_7 rfl (lv_at hl 0 rfl) ?_
      refine lv_iconst (v := i32 (-1)) S.1 S.2.1 dX10_count_8 ic_m1 ?_
      obtain ⟨r15_, z13_, h14_, hF⟩ := Ybs hF
      refine YcallVi (rest := []) S hw (c_X10_refuse hdj hzz1_ r_m1 h14_) my_X10_refuse mi_X10_refuse ml_X10_81 zd_0 zc_X10 rfl (Zrr hR (by decide)) ⟨Nat.zero_le _, Nat.zero_le _⟩ hl.1 rfl rfl (Nat.le_of_ble_eq_true rfl) dX10_count_9 (fun hrr15_ hzz13_ H locs hw => ?_)
      exact Yireti S hw hzz13_ hrr15_ hr hlk hF dX10_count_12)
set_option maxRecDepth 100000 in
set_option maxHeartbeats 4000000 in
theorem w_X1_known_b125 {RR : Int × ZI} (S : CallFix p m c cX1_known 7 s args Ztbl RX1) (hr : meth.sig.returnType = some .int) (hlk : meth.locks = false) (hR : 0 ≤ R.frames ∧ 60 * (0) ≤ R.locals) (hdj : Zdj ad) : ∀ (z : ZI) (y0 : Int) (H : Heap) (locs : List Loc) (ls : Array Slot), X1_known_b125 z y0 = some RR → ZW D cA ad (ZA ad) (Zc z) s H locs → Zok z → InR y0 → lv_has ls 7 [] → W p l e R s m args below meth c H locs 0 0 (MQ below (YQi D cA ad RR.1 RR.2) args s 0 0 (ZA ad)) (F0 m 125 ls [.int (i32 (y0))]) := by
  intro z y0 H locs ls hF hw hzz hy0 hl
  unfold X1_known_b125 at hF
  exact Yireti S hw hzz hy0 hr hlk hF dX1_known_125
set_option maxRecDepth 100000 in
set_option maxHeartbeats 4000000 in
theorem w_X1_known_b106 {RR : Int × ZI} (S : CallFix p m c cX1_known 7 s args Ztbl RX1) (hr : meth.sig.returnType = some .int) (hlk : meth.locks = false) (hR : 0 ≤ R.frames ∧ 60 * (0) ≤ R.locals) (hdj : Zdj ad) : ∀ (z : ZI) (x4 : Int) (H : Heap) (locs : List Loc) (ls : Array Slot), X1_known_b106 z x4 = some RR → ZW D cA ad (ZA ad) (Zc z) s H locs → Zok z → InR x4 → lv_has ls 7 [(0, .ref (ad 63)), (4, .int (i32 (x4)))] → W p l e R s m args below meth c H locs 0 0 (MQ below (YQi D cA ad RR.1 RR.2) args s 0 0 (ZA ad)) (F0 m 106 ls []) := by
  intro z x4 H locs ls hF hw hzz hx4 hl
  unfold X1_known_b106 at hF
  refine lv_iload S.1 S.2.1 dX1_known_106 (lv_at hl 1 rfl) ?_
  refine lv_bipush (v := i32 (-9)) S.1 S.2.1 dX1_known_108 bp_m9 ?_
  refine Yicmp_ne (tgt := 118) S hx4 r_m9 dX1_known_110 (by decide) (fun c1_ => ?_) (fun c1_ => ?_)
  · replace hF := ZtN c1_ hF
    refine lv_aload_n S.1 S.2.1 dX1_known_118 rfl (lv_at hl 0 rfl) ?_
    refine gf_X1_18 S hw dX1_known_119 ?_
    refine lv_iload S.1 S.2.1 dX1_known_122 (lv_at hl 1 rfl) ?_
    obtain ⟨b2_, hF⟩ := Zgs hF
    refine Yiald S hw zd_66 (by decide) hx4 b2_ dX1_known_124 ?_
    exact w_X1_known_b125 S hr hlk hR hdj _ _ _ _ _ hF hw hzz (hzz.1 _ _ (by decide)) (lv_sub hl [] rfl)
  · replace hF := ZtP c1_ hF
    refine lv_bipush (v := i32 (-9)) S.1 S.2.1 dX1_known_113 bp_m9 ?_
    refine lv_goto (tgt := 125) S.1 S.2.1 dX1_known_115 (by decide) ?_
    exact w_X1_known_b125 S hr hlk hR hdj _ _ _ _ _ hF hw hzz r_m9 (lv_sub hl [] rfl)
set_option maxRecDepth 100000 in
set_option maxHeartbeats 4000000 in
theorem w_X1_known_b100 {RR : Int × ZI} (S : CallFix p m c cX1_known 7 s args Ztbl RX1) (hr : meth.sig.returnType = some .int) (hlk : meth.locks = false) (hR : 0 ≤ R.frames ∧ 60 * (0) ≤ R.locals) (hdj : Zdj ad) {k7 : ZI → Int → Int → Int → Int → Int → Option (Int × ZI)} (hk7 : ∀ (z : ZI) (x1 : Int) (x2 : Int) (x3 : Int) (x4 : Int) (x5 : Int) (H : Heap) (locs : List Loc) (ls : Array Slot), k7 z x1 x2 x3 x4 x5 = some RR → ZW D cA ad (ZA ad) (Zc z) s H locs → Zok z → InR x1 → InR x2 → InR x3 → InR x4 → InR x5 → lv_has ls 7 [(0, .ref (ad 63)), (1, .int (i32 (x1))), (2, .int (i32 (x2))), (3, .int (i32 (x3))), (4, .int (i32 (x4))), (5, .int (i32 (x5)))] → W p l e R s m args below meth c H locs 0 0 (MQ below (YQi D cA ad RR.1 RR.2) args s 0 0 (ZA ad)) (F0 m 7 ls [])) : ∀ (z : ZI) (x1 : Int) (x2 : Int) (x3 : Int) (x4 : Int) (x5 : Int) (H : Heap) (locs : List Loc) (ls : Array Slot), X1_known_b100 k7 z x1 x2 x3 x4 x5 = some RR → ZW D cA ad (ZA ad) (Zc z) s H locs → Zok z → InR x1 → InR x2 → InR x3 → InR x4 → InR x5 → lv_has ls 7 [(0, .ref (ad 63)), (1, .int (i32 (x1))), (2, .int (i32 (x2))), (3, .int (i32 (x3))), (4, .int (i32 (x4))), (5, .int (i32 (x5)))] → W p l e R s m args below meth c H locs 0 0 (MQ below (YQi D cA ad RR.1 RR.2) args s 0 0 (ZA ad)) (F0 m 100 ls []) := by
  intro z x1 x2 x3 x4 x5 H locs ls hF hw hzz hx1 hx2 hx3 hx4 hx5 hl
  unfold X1_known_b100 at hF
  obtain ⟨g1_, hF⟩ := Zgs hF
  refine lv_iinc (v := i32 (x5 + 1)) (lv' := [(5, .int (i32 (x5 + 1))), (0, .ref (ad 63)), (1, .int (i32 (x1))), (2, .int (i32 (x2))), (3, .int (i32 (x3))), (4, .int (i32 (x4)))]) S.1 S.2.1 dX1_known_100 hl (k := 5) rfl Yiinc (by decide) rfl (fun ls hl => ?_)
  refine lv_goto (tgt := 7) S.1 S.2.1 dX1_known_103 (by decide) ?_
  exact hk7 _ _ _ _ _ _ _ _ _ hF hw hzz hx1 hx2 hx3 hx4 g1_ (lv_sub hl [1, 2, 3, 4, 5, 0] rfl)
set_option maxRecDepth 100000 in
set_option maxHeartbeats 4000000 in
theorem w_X1_known_b96 {RR : Int × ZI} (S : CallFix p m c cX1_known 7 s args Ztbl RX1) (hr : meth.sig.returnType = some .int) (hlk : meth.locks = false) (hR : 0 ≤ R.frames ∧ 60 * (0) ≤ R.locals) (hdj : Zdj ad) {k7 : ZI → Int → Int → Int → Int → Int → Option (Int × ZI)} (hk7 : ∀ (z : ZI) (x1 : Int) (x2 : Int) (x3 : Int) (x4 : Int) (x5 : Int) (H : Heap) (locs : List Loc) (ls : Array Slot), k7 z x1 x2 x3 x4 x5 = some RR → ZW D cA ad (ZA ad) (Zc z) s H locs → Zok z → InR x1 → InR x2 → InR x3 → InR x4 → InR x5 → lv_has ls 7 [(0, .ref (ad 63)), (1, .int (i32 (x1))), (2, .int (i32 (x2))), (3, .int (i32 (x3))), (4, .int (i32 (x4))), (5, .int (i32 (x5)))] → W p l e R s m args below meth c H locs 0 0 (MQ below (YQi D cA ad RR.1 RR.2) args s 0 0 (ZA ad)) (F0 m 7 ls [])) : ∀ (z : ZI) (x1 : Int) (x2 : Int) (x3 : Int) (x5 : Int) (H : Heap) (locs : List Loc) (ls : Array Slot), X1_known_b96 k7 z x1 x2 x3 x5 = some RR → ZW D cA ad (ZA ad) (Zc z) s H locs → Zok z → InR x1 → InR x2 → InR x3 → InR x5 → lv_has ls 7 [(0, .ref (ad 63)), (1, .int (i32 (x1))), (2, .int (i32 (x2))), (3, .int (i32 (x3))), (5, .int (i32 (x5)))] → W p l e R s m args below meth c H locs 0 0 (MQ below (YQi D cA ad RR.1 RR.2) args s 0 0 (ZA ad)) (F0 m 96 ls []) := by
  intro z x1 x2 x3 x5 H locs ls hF hw hzz hx1 hx2 hx3 hx5 hl
  unfold X1_known_b96 at hF
  refine lv_iload S.1 S.2.1 dX1_known_96 (lv_at hl 4 rfl) ?_
  refine lv_istore (lv' := [(4, .int (i32 (x5))), (0, .ref (ad 63)), (1, .int (i32 (x1))), (2, .int (i32 (x2))), (3, .int (i32 (x3))), (5, .int (i32 (x5)))]) S.1 S.2.1 dX1_known_98 hl (by decide) rfl (fun ls hl => ?_)
  exact w_X1_known_b100 S hr hlk hR hdj hk7 _ _ _ _ _ _ _ _ _ hF hw hzz hx1 hx2 hx3 hx5 hx5 (lv_sub hl [1, 2, 3, 4, 0, 5] rfl)
set_option maxRecDepth 100000 in
set_option maxHeartbeats 4000000 in
theorem w_X1_known_b65 {RR : Int × ZI} (S : CallFix p m c cX1_known 7 s args Ztbl RX1) (hr : meth.sig.returnType = some .int) (hlk : meth.locks = false) (hR : 0 ≤ R.frames ∧ 60 * (0) ≤ R.locals) (hdj : Zdj ad) {k7 : ZI → Int → Int → Int → Int → Int → Option (Int × ZI)} (hk7 : ∀ (z : ZI) (x1 : Int) (x2 : Int) (x3 : Int) (x4 : Int) (x5 : Int) (H : Heap) (locs : List Loc) (ls : Array Slot), k7 z x1 x2 x3 x4 x5 = some RR → ZW D cA ad (ZA ad) (Zc z) s H locs → Zok z → InR x1 → InR x2 → InR x3 → InR x4 → InR x5 → lv_has ls 7 [(0, .ref (ad 63)), (1, .int (i32 (x1))), (2, .int (i32 (x2))), (3, .int (i32 (x3))), (4, .int (i32 (x4))), (5, .int (i32 (x5)))] → W p l e R s m args below meth c H locs 0 0 (MQ below (YQi D cA ad RR.1 RR.2) args s 0 0 (ZA ad)) (F0 m 7 ls [])) : ∀ (z : ZI) (x1 : Int) (x2 : Int) (x3 : Int) (x4 : Int) (x5 : Int) (y0 : Int) (H : Heap) (locs : List Loc) (ls : Array Slot), X1_known_b65 k7 z x1 x2 x3 x4 x5 y0 = some RR → ZW D cA ad (ZA ad) (Zc z) s H locs → Zok z → InR x1 → InR x2 → InR x3 → InR x4 → InR x5 → InR y0 → lv_has ls 7 [(0, .ref (ad 63)), (1, .int (i32 (x1))), (2, .int (i32 (x2))), (3, .int (i32 (x3))), (4, .int (i32 (x4))), (5, .int (i32 (x5)))] → W p l e R s m args below meth c H locs 0 0 (MQ below (YQi D cA ad RR.1 RR.2) args s 0 0 (ZA ad)) (F0 m 65 ls [.int (i32 (y0))]) := by
  intro z x1 x2 x3 x4 x5 y0 H locs ls hF hw hzz hx1 hx2 hx3 hx4 hx5 hy0 hl
  unfold X1_known_b65 at hF
  refine lv_istore (lv' := [(6, .int (i32 (y0))), (0, .ref (ad 63)), (1, .int (i32 (x1))), (2, .int (i32 (x2))), (3, .int (i32 (x3))), (4, .int (i32 (x4))), (5, .int (i32 (x5)))]) S.1 S.2.1 dX1_known_65 hl (by decide) rfl (fun ls hl => ?_)
  refine lv_iload S.1 S.2.1 dX1_known_67 (lv_at hl 0 rfl) ?_
  refine Yif_eq (tgt := 100) S hy0 dX1_known_69 (by decide) (fun c1_ => ?_) (fun c1_ => ?_)
  · replace hF := ZtP c1_ hF
    exact w_X1_known_b100 S hr hlk hR hdj hk7 _ _ _ _ _ _ _ _ _ hF hw hzz hx1 hx2 hx3 hx4 hx5 (lv_sub hl [1, 2, 3, 4, 5, 6] rfl)
  · replace hF := ZtN c1_ hF
    refine lv_iload S.1 S.2.1 dX1_known_72 (lv_at hl 5 rfl) ?_
    refine lv_bipush (v := i32 (-9)) S.1 S.2.1 dX1_known_74 bp_m9 ?_
    refine Yicmp_eq (tgt := 96) S hx4 r_m9 dX1_known_76 (by decide) (fun c2_ => ?_) (fun c2_ => ?_)
    · replace hF := ZtP c2_ hF
      exact w_X1_known_b96 S hr hlk hR hdj hk7 _ _ _ _ _ _ _ _ hF hw hzz hx1 hx2 hx3 hx5 (lv_sub hl [1, 2, 3, 4, 6] rfl)
    · replace hF := ZtN c2_ hF
      refine lv_aload_n S.1 S.2.1 dX1_known_79 rfl (lv_at hl 1 rfl) ?_
      refine gf_X1_15 S hw dX1_known_80 ?_
      refine lv_iload S.1 S.2.1 dX1_known_83 (lv_at hl 6 rfl) ?_
      obtain ⟨b3_, hF⟩ := Zgs hF
      refine Yiald S hw zd_65 (by decide) hx5 b3_ dX1_known_85 ?_
      refine lv_aload_n S.1 S.2.1 dX1_known_86 rfl (lv_at hl 1 rfl) ?_
      refine gf_X1_15 S hw dX1_known_87 ?_
      refine lv_iload S.1 S.2.1 dX1_known_90 (lv_at hl 5 rfl) ?_
      obtain ⟨b4_, hF⟩ := Zgs hF
      refine Yiald S hw zd_65 (by decide) hx4 b4_ dX1_known_92 ?_
      refine Yicmp_lt (tgt := 100) S (hzz.1 _ _ (by decide)) (hzz.1 _ _ (by decide)) dX1_known_93 (by decide) (fun c5_ => ?_) (fun c5_ => ?_)
      · replace hF := ZtP c5_ hF
        exact w_X1_known_b100 S hr hlk hR hdj hk7 _ _ _ _ _ _ _ _ _ hF hw hzz hx1 hx2 hx3 hx4 hx5 (lv_sub hl [1, 2, 3, 4, 5, 6] rfl)
      · replace hF := ZtN c5_ hF
        exact w_X1_known_b96 S hr hlk hR hdj hk7 _ _ _ _ _ _ _ _ hF hw hzz hx1 hx2 hx3 hx5 (lv_sub hl [1, 2, 3, 4, 6] rfl)
set_option maxRecDepth 100000 in
set_option maxHeartbeats 4000000 in
theorem w_X1_known_b64 {RR : Int × ZI} (S : CallFix p m c cX1_known 7 s args Ztbl RX1) (hr : meth.sig.returnType = some .int) (hlk : meth.locks = false) (hR : 0 ≤ R.frames ∧ 60 * (0) ≤ R.locals) (hdj : Zdj ad) {k7 : ZI → Int → Int → Int → Int → Int → Option (Int × ZI)} (hk7 : ∀ (z : ZI) (x1 : Int) (x2 : Int) (x3 : Int) (x4 : Int) (x5 : Int) (H : Heap) (locs : List Loc) (ls : Array Slot), k7 z x1 x2 x3 x4 x5 = some RR → ZW D cA ad (ZA ad) (Zc z) s H locs → Zok z → InR x1 → InR x2 → InR x3 → InR x4 → InR x5 → lv_has ls 7 [(0, .ref (ad 63)), (1, .int (i32 (x1))), (2, .int (i32 (x2))), (3, .int (i32 (x3))), (4, .int (i32 (x4))), (5, .int (i32 (x5)))] → W p l e R s m args below meth c H locs 0 0 (MQ below (YQi D cA ad RR.1 RR.2) args s 0 0 (ZA ad)) (F0 m 7 ls [])) : ∀ (z : ZI) (x1 : Int) (x2 : Int) (x3 : Int) (x4 : Int) (x5 : Int) (H : Heap) (locs : List Loc) (ls : Array Slot), X1_known_b64 k7 z x1 x2 x3 x4 x5 = some RR → ZW D cA ad (ZA ad) (Zc z) s H locs → Zok z → InR x1 → InR x2 → InR x3 → InR x4 → InR x5 → lv_has ls 7 [(0, .ref (ad 63)), (1, .int (i32 (x1))), (2, .int (i32 (x2))), (3, .int (i32 (x3))), (4, .int (i32 (x4))), (5, .int (i32 (x5)))] → W p l e R s m args below meth c H locs 0 0 (MQ below (YQi D cA ad RR.1 RR.2) args s 0 0 (ZA ad)) (F0 m 64 ls []) := by
  intro z x1 x2 x3 x4 x5 H locs ls hF hw hzz hx1 hx2 hx3 hx4 hx5 hl
  unfold X1_known_b64 at hF
  refine lv_iconst (v := i32 0) S.1 S.2.1 dX1_known_64 ic_0 ?_
  exact w_X1_known_b65 S hr hlk hR hdj hk7 _ _ _ _ _ _ _ _ _ _ hF hw hzz hx1 hx2 hx3 hx4 hx5 r_0 (lv_sub hl [0, 1, 2, 3, 4, 5] rfl)
set_option maxRecDepth 100000 in
set_option maxHeartbeats 4000000 in
theorem w_X1_known_L7 {RR : Int × ZI} (S : CallFix p m c cX1_known 7 s args Ztbl RX1) (hr : meth.sig.returnType = some .int) (hlk : meth.locks = false) (hR : 0 ≤ R.frames ∧ 60 * (0) ≤ R.locals) (hdj : Zdj ad) : ∀ (n : Nat) (z : ZI) (x1 : Int) (x2 : Int) (x3 : Int) (x4 : Int) (x5 : Int) (H : Heap) (locs : List Loc) (ls : Array Slot), X1_known_L7 n z x1 x2 x3 x4 x5 = some RR → ZW D cA ad (ZA ad) (Zc z) s H locs → Zok z → InR x1 → InR x2 → InR x3 → InR x4 → InR x5 → lv_has ls 7 [(0, .ref (ad 63)), (1, .int (i32 (x1))), (2, .int (i32 (x2))), (3, .int (i32 (x3))), (4, .int (i32 (x4))), (5, .int (i32 (x5)))] → W p l e R s m args below meth c H locs 0 0 (MQ below (YQi D cA ad RR.1 RR.2) args s 0 0 (ZA ad)) (F0 m 7 ls []) := by
  intro n
  induction n with
  | zero => intro z x1 x2 x3 x4 x5 H locs ls hF; exact nomatch hF
  | succ n hk7 =>
    intro z x1 x2 x3 x4 x5 H locs ls hF hw hzz hx1 hx2 hx3 hx4 hx5 hl
    replace hF : X1_known_L7b (X1_known_L7 n) z x1 x2 x3 x4 x5 = some RR := hF
    unfold X1_known_L7b at hF
    refine lv_iload S.1 S.2.1 dX1_known_7 (lv_at hl 5 rfl) ?_
    refine lv_aload_n S.1 S.2.1 dX1_known_9 rfl (lv_at hl 0 rfl) ?_
    refine gg_X1_24 S hw dX1_known_10 ?_
    refine Yicmp_ge (tgt := 106) S hx5 (hzz.1 63 0 (by decide)) dX1_known_13 (by decide) (fun c1_ => ?_) (fun c1_ => ?_)
    · replace hF := ZtP c1_ hF
      exact w_X1_known_b106 S hr hlk hR hdj _ _ _ _ _ hF hw hzz hx4 (lv_sub hl [0, 4] rfl)
    · replace hF := ZtN c1_ hF
      refine lv_aload_n S.1 S.2.1 dX1_known_16 rfl (lv_at hl 0 rfl) ?_
      refine gf_X1_9 S hw dX1_known_17 ?_
      refine lv_iload S.1 S.2.1 dX1_known_20 (lv_at hl 5 rfl) ?_
      obtain ⟨b2_, hF⟩ := Zgs hF
      refine Yiald S hw zd_64 (by decide) hx5 b2_ dX1_known_22 ?_
      refine lv_iload_n S.1 S.2.1 dX1_known_23 rfl (lv_at hl 1 rfl) ?_
      refine Yicmp_ne (tgt := 64) S (hzz.1 _ _ (by decide)) hx1 dX1_known_24 (by decide) (fun c3_ => ?_) (fun c3_ => ?_)
      · replace hF := ZtN c3_ hF
        exact w_X1_known_b64 S hr hlk hR hdj hk7 _ _ _ _ _ _ _ _ _ hF hw hzz hx1 hx2 hx3 hx4 hx5 (lv_sub hl [0, 1, 2, 3, 4, 5] rfl)
      · replace hF := ZtP c3_ hF
        refine lv_aload_n S.1 S.2.1 dX1_known_27 rfl (lv_at hl 0 rfl) ?_
        refine gf_X1_15 S hw dX1_known_28 ?_
        refine lv_iload S.1 S.2.1 dX1_known_31 (lv_at hl 5 rfl) ?_
        obtain ⟨b4_, hF⟩ := Zgs hF
        refine Yiald S hw zd_65 (by decide) hx5 b4_ dX1_known_33 ?_
        refine lv_iload_n S.1 S.2.1 dX1_known_34 rfl (lv_at hl 2 rfl) ?_
        refine Yicmp_gt (tgt := 64) S (hzz.1 _ _ (by decide)) hx2 dX1_known_35 (by decide) (fun c5_ => ?_) (fun c5_ => ?_)
        · replace hF := ZtP c5_ hF
          exact w_X1_known_b64 S hr hlk hR hdj hk7 _ _ _ _ _ _ _ _ _ hF hw hzz hx1 hx2 hx3 hx4 hx5 (lv_sub hl [0, 1, 2, 3, 4, 5] rfl)
        · replace hF := ZtN c5_ hF
          refine lv_aload_n S.1 S.2.1 dX1_known_38 rfl (lv_at hl 0 rfl) ?_
          refine gf_X1_21 S hw dX1_known_39 ?_
          refine lv_iload S.1 S.2.1 dX1_known_42 (lv_at hl 5 rfl) ?_
          obtain ⟨b6_, hF⟩ := Zgs hF
          refine Yiald S hw zd_67 (by decide) hx5 b6_ dX1_known_44 ?_
          refine lv_iload_n S.1 S.2.1 dX1_known_45 rfl (lv_at hl 3 rfl) ?_
          refine Yicmp_gt (tgt := 64) S (hzz.1 _ _ (by decide)) hx3 dX1_known_46 (by decide) (fun c7_ => ?_) (fun c7_ => ?_)
          · replace hF := ZtP c7_ hF
            exact w_X1_known_b64 S hr hlk hR hdj hk7 _ _ _ _ _ _ _ _ _ hF hw hzz hx1 hx2 hx3 hx4 hx5 (lv_sub hl [0, 1, 2, 3, 4, 5] rfl)
          · replace hF := ZtN c7_ hF
            refine lv_aload_n S.1 S.2.1 dX1_known_49 rfl (lv_at hl 0 rfl) ?_
            refine gf_X1_18 S hw dX1_known_50 ?_
            refine lv_iload S.1 S.2.1 dX1_known_53 (lv_at hl 5 rfl) ?_
            obtain ⟨b8_, hF⟩ := Zgs hF
            refine Yiald S hw zd_66 (by decide) hx5 b8_ dX1_known_55 ?_
            refine lv_iconst (v := i32 (-1)) S.1 S.2.1 dX1_known_56 ic_m1 ?_
            refine Yicmp_eq (tgt := 64) S (hzz.1 _ _ (by decide)) r_m1 dX1_known_57 (by decide) (fun c9_ => ?_) (fun c9_ => ?_)
            · replace hF := ZtP c9_ hF
              exact w_X1_known_b64 S hr hlk hR hdj hk7 _ _ _ _ _ _ _ _ _ hF hw hzz hx1 hx2 hx3 hx4 hx5 (lv_sub hl [0, 1, 2, 3, 4, 5] rfl)
            · replace hF := ZtN c9_ hF
              refine lv_iconst (v := i32 1) S.1 S.2.1 dX1_known_60 ic_1 ?_
              refine lv_goto (tgt := 65) S.1 S.2.1 dX1_known_61 (by decide) ?_
              exact w_X1_known_b65 S hr hlk hR hdj hk7 _ _ _ _ _ _ _ _ _ _ hF hw hzz hx1 hx2 hx3 hx4 hx5 r_1 (lv_sub hl [0, 1, 2, 3, 4, 5] rfl)
set_option maxRecDepth 100000 in
set_option maxHeartbeats 4000000 in
theorem c_X1_known {l : Launch} {D : va_G} {cA : Nat → ClassId} {ad : Nat → Nat} (hdj : Zdj ad) {z z1 : ZI} {x1 : Int} {x2 : Int} {x3 : Int} {r : Int} (hzz : Zok z) (hx1 : InR x1) (hx2 : InR x2) (hx3 : InR x3) (hF : F_X1_known z x1 x2 x3 = some (r, z1)) : YMi l D cA ad (0) yX1_known cX1_known 7 (some .int) [.ref (ad 63), .int (i32 x1), .int (i32 x2), .int (i32 x3)] z r z1 :=
  Zmet hdj (by decide) rfl (Nat.le_of_ble_eq_true rfl) (lv := [(0, .ref (ad 63)), (1, .int (i32 (x1))), (2, .int (i32 (x2))), (3, .int (i32 (x3)))]) rfl (fun p e s m args below meth c ls S hr hlk hw hl => by
    have hR : 0 ≤ (Zrm (0)).frames ∧ 60 * (0) ≤ (Zrm (0)).locals := ⟨Nat.le_refl _, Nat.le_refl _⟩
    unfold F_X1_known at hF
    revert hR
    generalize Zrm (0) = R
    intro hR
    refine lv_bipush (v := i32 (-9)) S.1 S.2.1 dX1_known_0 bp_m9 ?_
    refine lv_istore (lv' := [(4, .int (i32 ((-9)))), (0, .ref (ad 63)), (1, .int (i32 (x1))), (2, .int (i32 (x2))), (3, .int (i32 (x3)))]) S.1 S.2.1 dX1_known_2 hl (by decide) rfl (fun ls hl => ?_)
    refine lv_iconst (v := i32 0) S.1 S.2.1 dX1_known_4 ic_0 ?_
    refine lv_istore (lv' := [(5, .int (i32 (0))), (4, .int (i32 ((-9)))), (0, .ref (ad 63)), (1, .int (i32 (x1))), (2, .int (i32 (x2))), (3, .int (i32 (x3)))]) S.1 S.2.1 dX1_known_5 hl (by decide) rfl (fun ls hl => ?_)
    exact w_X1_known_L7 S hr hlk hR hdj Zfuel _ _ _ _ _ _ _ _ _ hF hw hzz hx1 hx2 hx3 r_m9 r_0 (lv_sub hl [2, 3, 4, 5, 1, 0] rfl))
set_option maxRecDepth 100000 in
set_option maxHeartbeats 4000000 in
theorem w_X10_counted_b21 {RR : Int × ZI} (S : CallFix p m c cX10_counted 4 s args Ztbl RX10) (hr : meth.sig.returnType = some .int) (hlk : meth.locks = false) (hR : 1 ≤ R.frames ∧ 60 * (1) ≤ R.locals) (hdj : Zdj ad) : ∀ (z : ZI) (H : Heap) (locs : List Loc) (ls : Array Slot), X10_counted_b21 z  = some RR → ZW D cA ad (ZA ad) (Zc z) s H locs → Zok z → lv_has ls 4 [(0, .ref (ad 0))] → W p l e R s m args below meth c H locs 0 0 (MQ below (YQi D cA ad RR.1 RR.2) args s 0 0 (ZA ad)) (F0 m 21 ls []) := by
  intro z  H locs ls hF hw hzz  hl
  unfold X10_counted_b21 at hF
  refine lv_aload_n S.1 S.2.1 dX10_counted_21 rfl (lv_at hl 0 rfl) ?_
  refine lv_bipush (v := i32 (-4)) S.1 S.2.1 dX10_counted_22 bp_m4 ?_
  obtain ⟨r3_, z1_, h2_, hF⟩ := Ybs hF
  refine YcallVi (rest := []) S hw (c_X10_refuse hdj hzz r_m4 h2_) my_X10_refuse mi_X10_refuse ml_X10_81 zd_0 zc_X10 rfl (Zrr hR (by decide)) ⟨Nat.zero_le _, Nat.zero_le _⟩ hl.1 rfl rfl (Nat.le_of_ble_eq_true rfl) dX10_counted_24 (fun hrr3_ hzz1_ H locs hw => ?_)
  exact Yireti S hw hzz1_ hrr3_ hr hlk hF dX10_counted_27
set_option maxRecDepth 100000 in
set_option maxHeartbeats 4000000 in
theorem w_X10_counted_b42 {RR : Int × ZI} (S : CallFix p m c cX10_counted 4 s args Ztbl RX10) (hr : meth.sig.returnType = some .int) (hlk : meth.locks = false) (hR : 1 ≤ R.frames ∧ 60 * (1) ≤ R.locals) (hdj : Zdj ad) : ∀ (z : ZI) (H : Heap) (locs : List Loc) (ls : Array Slot), X10_counted_b42 z  = some RR → ZW D cA ad (ZA ad) (Zc z) s H locs → Zok z → lv_has ls 4 [(0, .ref (ad 0))] → W p l e R s m args below meth c H locs 0 0 (MQ below (YQi D cA ad RR.1 RR.2) args s 0 0 (ZA ad)) (F0 m 42 ls []) := by
  intro z  H locs ls hF hw hzz  hl
  unfold X10_counted_b42 at hF
  refine lv_aload_n S.1 S.2.1 dX10_counted_42 rfl (lv_at hl 0 rfl) ?_
  refine lv_bipush (v := i32 (-6)) S.1 S.2.1 dX10_counted_43 bp_m6 ?_
  obtain ⟨r3_, z1_, h2_, hF⟩ := Ybs hF
  refine YcallVi (rest := []) S hw (c_X10_refuse hdj hzz r_m6 h2_) my_X10_refuse mi_X10_refuse ml_X10_81 zd_0 zc_X10 rfl (Zrr hR (by decide)) ⟨Nat.zero_le _, Nat.zero_le _⟩ hl.1 rfl rfl (Nat.le_of_ble_eq_true rfl) dX10_counted_45 (fun hrr3_ hzz1_ H locs hw => ?_)
  exact Yireti S hw hzz1_ hrr3_ hr hlk hF dX10_counted_48
set_option maxRecDepth 100000 in
set_option maxHeartbeats 4000000 in
theorem c_X10_counted {l : Launch} {D : va_G} {cA : Nat → ClassId} {ad : Nat → Nat} (hdj : Zdj ad) {z z1 : ZI} {x1 : Int} {x2 : Int} {x3 : Int} {r : Int} (hzz : Zok z) (hx1 : InR x1) (hx2 : InR x2) (hx3 : InR x3) (hF : F_X10_counted z x1 x2 x3 = some (r, z1)) : YMi l D cA ad (1) yX10_counted cX10_counted 4 (some .int) [.ref (ad 0), .int (i32 x1), .int (i32 x2), .int (i32 x3)] z r z1 :=
  Zmet hdj (by decide) rfl (Nat.le_of_ble_eq_true rfl) (lv := [(0, .ref (ad 0)), (1, .int (i32 (x1))), (2, .int (i32 (x2))), (3, .int (i32 (x3)))]) rfl (fun p e s m args below meth c ls S hr hlk hw hl => by
    have hR : 1 ≤ (Zrm (1)).frames ∧ 60 * (1) ≤ (Zrm (1)).locals := ⟨Nat.le_refl _, Nat.le_refl _⟩
    unfold F_X10_counted at hF
    revert hR
    generalize Zrm (1) = R
    intro hR
    refine lv_iload_n S.1 S.2.1 dX10_counted_0 rfl (lv_at hl 1 rfl) ?_
    obtain ⟨r3_, z1_, h2_, hF⟩ := Ybs hF
    refine YcallSi (rest := []) S hw (c_X10_isBlock hdj hzz hx1 h2_) my_X10_isBlock ms_X10_isBlock ml_X10_100 (Zrr hR (by decide)) ⟨Nat.zero_le _, Nat.zero_le _⟩ hl.1 rfl rfl (Nat.le_of_ble_eq_true rfl) dX10_counted_1 (fun hrr3_ hzz1_ H locs hw => ?_)
    refine Yif_ne (tgt := 13) S hrr3_ dX10_counted_4 (by decide) (fun c4_ => ?_) (fun c4_ => ?_)
    · replace hF := ZtN c4_ hF
      refine lv_iload_n S.1 S.2.1 dX10_counted_13 rfl (lv_at hl 2 rfl) ?_
      refine Yif_lt (tgt := 21) S hx2 dX10_counted_14 (by decide) (fun c5_ => ?_) (fun c5_ => ?_)
      · replace hF := ZtP c5_ hF
        exact w_X10_counted_b21 S hr hlk hR hdj _ _ _ _ hF hw hzz1_  (lv_sub hl [0] rfl)
      · replace hF := ZtN c5_ hF
        refine lv_iload_n S.1 S.2.1 dX10_counted_17 rfl (lv_at hl 3 rfl) ?_
        refine Yif_ge (tgt := 28) S hx3 dX10_counted_18 (by decide) (fun c6_ => ?_) (fun c6_ => ?_)
        · replace hF := ZtP c6_ hF
          refine lv_iload_n S.1 S.2.1 dX10_counted_28 rfl (lv_at hl 2 rfl) ?_
          refine lv_sipush (v := i32 999) S.1 S.2.1 dX10_counted_29 sp_999 ?_
          refine Yicmp_gt (tgt := 42) S hx2 r_999 dX10_counted_32 (by decide) (fun c7_ => ?_) (fun c7_ => ?_)
          · replace hF := ZtP c7_ hF
            exact w_X10_counted_b42 S hr hlk hR hdj _ _ _ _ hF hw hzz1_  (lv_sub hl [0] rfl)
          · replace hF := ZtN c7_ hF
            refine lv_iload_n S.1 S.2.1 dX10_counted_35 rfl (lv_at hl 3 rfl) ?_
            refine lv_sipush (v := i32 999) S.1 S.2.1 dX10_counted_36 sp_999 ?_
            refine Yicmp_le (tgt := 49) S hx3 r_999 dX10_counted_39 (by decide) (fun c8_ => ?_) (fun c8_ => ?_)
            · replace hF := ZtP c8_ hF
              refine lv_aload_n S.1 S.2.1 dX10_counted_49 rfl (lv_at hl 0 rfl) ?_
              refine gf_X10_76 S hw dX10_counted_50 ?_
              refine lv_iload_n S.1 S.2.1 dX10_counted_53 rfl (lv_at hl 1 rfl) ?_
              refine lv_iload_n S.1 S.2.1 dX10_counted_54 rfl (lv_at hl 2 rfl) ?_
              refine lv_iload_n S.1 S.2.1 dX10_counted_55 rfl (lv_at hl 3 rfl) ?_
              obtain ⟨r11_, z9_, h10_, hF⟩ := Ybs hF
              refine YcallVi (rest := []) S hw (c_X1_known hdj hzz1_ hx1 hx2 hx3 h10_) my_X1_known mi_X1_known ml_X10_314 zd_63 zc_X1 rfl (Zrr hR (by decide)) ⟨Nat.zero_le _, Nat.zero_le _⟩ hl.1 rfl rfl (Nat.le_of_ble_eq_true rfl) dX10_counted_56 (fun hrr11_ hzz9_ H locs hw => ?_)
              exact Yireti S hw hzz9_ hrr11_ hr hlk hF dX10_counted_59
            · replace hF := ZtN c8_ hF
              exact w_X10_counted_b42 S hr hlk hR hdj _ _ _ _ hF hw hzz1_  (lv_sub hl [0] rfl)
        · replace hF := ZtN c6_ hF
          exact w_X10_counted_b21 S hr hlk hR hdj _ _ _ _ hF hw hzz1_  (lv_sub hl [0] rfl)
    · replace hF := ZtP c4_ hF
      refine lv_aload_n S.1 S.2.1 dX10_counted_7 rfl (lv_at hl 0 rfl) ?_
      refine lv_iconst (v := i32 (-1)) S.1 S.2.1 dX10_counted_8 ic_m1 ?_
      obtain ⟨r14_, z12_, h13_, hF⟩ := Ybs hF
      refine YcallVi (rest := []) S hw (c_X10_refuse hdj hzz1_ r_m1 h13_) my_X10_refuse mi_X10_refuse ml_X10_81 zd_0 zc_X10 rfl (Zrr hR (by decide)) ⟨Nat.zero_le _, Nat.zero_le _⟩ hl.1 rfl rfl (Nat.le_of_ble_eq_true rfl) dX10_counted_9 (fun hrr14_ hzz12_ H locs hw => ?_)
      exact Yireti S hw hzz12_ hrr14_ hr hlk hF dX10_counted_12)
set_option maxRecDepth 100000 in
set_option maxHeartbeats 4000000 in
theorem c_X10_days {l : Launch} {D : va_G} {cA : Nat → ClassId} {ad : Nat → Nat} (hdj : Zdj ad) {z z1 : ZI} {x1 : Int} {r : Int} (hzz : Zok z) (hx1 : InR x1) (hF : F_X10_days z x1 = some (r, z1)) : YMi l D cA ad (1) yX10_days cX10_days 3 (some .int) [.ref (ad 0), .int (i32 x1)] z r z1 :=
  Zmet hdj (by decide) rfl (Nat.le_of_ble_eq_true rfl) (lv := [(0, .ref (ad 0)), (1, .int (i32 (x1)))]) rfl (fun p e s m args below meth c ls S hr hlk hw hl => by
    have hR : 1 ≤ (Zrm (1)).frames ∧ 60 * (1) ≤ (Zrm (1)).locals := ⟨Nat.le_refl _, Nat.le_refl _⟩
    unfold F_X10_days at hF
    revert hR
    generalize Zrm (1) = R
    intro hR
    refine lv_iload_n S.1 S.2.1 dX10_days_0 rfl (lv_at hl 1 rfl) ?_
    refine lv_iconst (v := i32 1) S.1 S.2.1 dX10_days_1 ic_1 ?_
    refine lv_sipush (v := i32 999) S.1 S.2.1 dX10_days_2 sp_999 ?_
    refine lv_aload_n S.1 S.2.1 dX10_days_5 rfl (lv_at hl 0 rfl) ?_
    refine gg_X10_7 S hw dX10_days_6 ?_
    obtain ⟨g1_, hF⟩ := Zgs hF
    refine Yisub S dX10_days_9 ?_
    obtain ⟨r4_, z2_, h3_, hF⟩ := Ybs hF
    refine YcallSi (rest := []) S hw (c_X10_checkRange hdj hzz hx1 r_1 g1_ h3_) my_X10_checkRange ms_X10_checkRange ml_X10_85 (Zrr hR (by decide)) ⟨Nat.zero_le _, Nat.zero_le _⟩ hl.1 rfl rfl (Nat.le_of_ble_eq_true rfl) dX10_days_10 (fun hrr4_ hzz2_ H locs hw => ?_)
    refine lv_istore_n (lv' := [(2, .int (i32 (r4_))), (0, .ref (ad 0)), (1, .int (i32 (x1)))]) S.1 S.2.1 dX10_days_13 rfl hl (by decide) rfl (fun ls hl => ?_)
    refine lv_iload_n S.1 S.2.1 dX10_days_14 rfl (lv_at hl 0 rfl) ?_
    refine Yif_eq (tgt := 24) S hrr4_ dX10_days_15 (by decide) (fun c5_ => ?_) (fun c5_ => ?_)
    · replace hF := ZtP c5_ hF
      refine lv_aload_n S.1 S.2.1 dX10_days_24 rfl (lv_at hl 1 rfl) ?_
      refine lv_dup S.1 S.2.1 dX10_days_25 rfl ?_
      refine gg_X10_7 S hw dX10_days_26 ?_
      refine lv_iload_n S.1 S.2.1 dX10_days_29 rfl (lv_at hl 2 rfl) ?_
      obtain ⟨g6_, hF⟩ := Zgs hF
      refine Yiadd S dX10_days_30 ?_
      refine pp_X10_7 S hw hzz2_ g6_ dX10_days_31 (fun z7_ H locs ez hzz7_ hw => ?_)
      replace hF := Zle ez hF; clear ez
      refine lv_aload_n S.1 S.2.1 dX10_days_34 rfl (lv_at hl 1 rfl) ?_
      refine gg_X10_7 S hw dX10_days_35 ?_
      exact Yireti S hw hzz7_ (hzz7_.1 0 0 (by decide)) hr hlk hF dX10_days_38
    · replace hF := ZtN c5_ hF
      refine lv_aload_n S.1 S.2.1 dX10_days_18 rfl (lv_at hl 1 rfl) ?_
      refine lv_iload_n S.1 S.2.1 dX10_days_19 rfl (lv_at hl 0 rfl) ?_
      obtain ⟨r10_, z8_, h9_, hF⟩ := Ybs hF
      refine YcallVi (rest := []) S hw (c_X10_refuse hdj hzz2_ hrr4_ h9_) my_X10_refuse mi_X10_refuse ml_X10_81 zd_0 zc_X10 rfl (Zrr hR (by decide)) ⟨Nat.zero_le _, Nat.zero_le _⟩ hl.1 rfl rfl (Nat.le_of_ble_eq_true rfl) dX10_days_20 (fun hrr10_ hzz8_ H locs hw => ?_)
      exact Yireti S hw hzz8_ hrr10_ hr hlk hF dX10_days_23)
set_option maxRecDepth 100000 in
set_option maxHeartbeats 4000000 in
theorem w_X10_isCell_b16 {RR : Int × ZI} (S : CallFix p m c cX10_isCell 1 s args Ztbl RX10) (hr : meth.sig.returnType = some .boolean) (hlk : meth.locks = false) (hR : 0 ≤ R.frames ∧ 60 * (0) ≤ R.locals) (hdj : Zdj ad) : ∀ (z : ZI) (y0 : Int) (H : Heap) (locs : List Loc) (ls : Array Slot), X10_isCell_b16 z y0 = some RR → ZW D cA ad (ZA ad) (Zc z) s H locs → Zok z → InR y0 → lv_has ls 1 [] → W p l e R s m args below meth c H locs 0 0 (MQ below (YQi D cA ad RR.1 RR.2) args s 0 0 (ZA ad)) (F0 m 16 ls [.int (i32 (y0))]) := by
  intro z y0 H locs ls hF hw hzz hy0 hl
  unfold X10_isCell_b16 at hF
  obtain ⟨b1_, hF⟩ := Zgs hF
  exact Yiretz S hw hzz hy0 hr hlk b1_ hF dX10_isCell_16
set_option maxRecDepth 100000 in
set_option maxHeartbeats 4000000 in
theorem w_X10_isCell_b15 {RR : Int × ZI} (S : CallFix p m c cX10_isCell 1 s args Ztbl RX10) (hr : meth.sig.returnType = some .boolean) (hlk : meth.locks = false) (hR : 0 ≤ R.frames ∧ 60 * (0) ≤ R.locals) (hdj : Zdj ad) : ∀ (z : ZI) (H : Heap) (locs : List Loc) (ls : Array Slot), X10_isCell_b15 z  = some RR → ZW D cA ad (ZA ad) (Zc z) s H locs → Zok z → lv_has ls 1 [] → W p l e R s m args below meth c H locs 0 0 (MQ below (YQi D cA ad RR.1 RR.2) args s 0 0 (ZA ad)) (F0 m 15 ls []) := by
  intro z  H locs ls hF hw hzz  hl
  unfold X10_isCell_b15 at hF
  refine lv_iconst (v := i32 0) S.1 S.2.1 dX10_isCell_15 ic_0 ?_
  exact w_X10_isCell_b16 S hr hlk hR hdj _ _ _ _ _ hF hw hzz r_0 (lv_sub hl [] rfl)
set_option maxRecDepth 100000 in
set_option maxHeartbeats 4000000 in
theorem c_X10_isCell {l : Launch} {D : va_G} {cA : Nat → ClassId} {ad : Nat → Nat} (hdj : Zdj ad) {z z1 : ZI} {x0 : Int} {r : Int} (hzz : Zok z) (hx0 : InR x0) (hF : F_X10_isCell z x0 = some (r, z1)) : YMi l D cA ad (0) yX10_isCell cX10_isCell 1 (some .boolean) [.int (i32 x0)] z r z1 :=
  Zmet hdj (by decide) rfl (Nat.le_of_ble_eq_true rfl) (lv := [(0, .int (i32 (x0)))]) rfl (fun p e s m args below meth c ls S hr hlk hw hl => by
    have hR : 0 ≤ (Zrm (0)).frames ∧ 60 * (0) ≤ (Zrm (0)).locals := ⟨Nat.le_refl _, Nat.le_refl _⟩
    unfold F_X10_isCell at hF
    revert hR
    generalize Zrm (0) = R
    intro hR
    refine lv_iload_n S.1 S.2.1 dX10_isCell_0 rfl (lv_at hl 0 rfl) ?_
    refine Yif_lt (tgt := 15) S hx0 dX10_isCell_1 (by decide) (fun c1_ => ?_) (fun c1_ => ?_)
    · replace hF := ZtP c1_ hF
      exact w_X10_isCell_b15 S hr hlk hR hdj _ _ _ _ hF hw hzz  (lv_sub hl [] rfl)
    · replace hF := ZtN c1_ hF
      refine lv_iload_n S.1 S.2.1 dX10_isCell_4 rfl (lv_at hl 0 rfl) ?_
      refine lv_sipush (v := i32 144) S.1 S.2.1 dX10_isCell_5 sp_144 ?_
      refine Yicmp_ge (tgt := 15) S hx0 r_144 dX10_isCell_8 (by decide) (fun c2_ => ?_) (fun c2_ => ?_)
      · replace hF := ZtP c2_ hF
        exact w_X10_isCell_b15 S hr hlk hR hdj _ _ _ _ hF hw hzz  (lv_sub hl [] rfl)
      · replace hF := ZtN c2_ hF
        refine lv_iconst (v := i32 1) S.1 S.2.1 dX10_isCell_11 ic_1 ?_
        refine lv_goto (tgt := 16) S.1 S.2.1 dX10_isCell_12 (by decide) ?_
        exact w_X10_isCell_b16 S hr hlk hR hdj _ _ _ _ _ hF hw hzz r_1 (lv_sub hl [] rfl))
set_option maxRecDepth 100000 in
set_option maxHeartbeats 4000000 in
theorem w_X4_beside_b93 {RR : Int × ZI} (S : CallFix p m c cX4_beside 4 s args Ztbl RX4) (hr : meth.sig.returnType = some .int) (hlk : meth.locks = false) (hR : 0 ≤ R.frames ∧ 60 * (0) ≤ R.locals) (hdj : Zdj ad) : ∀ (z : ZI) (y0 : Int) (H : Heap) (locs : List Loc) (ls : Array Slot), X4_beside_b93 z y0 = some RR → ZW D cA ad (ZA ad) (Zc z) s H locs → Zok z → InR y0 → lv_has ls 4 [] → W p l e R s m args below meth c H locs 0 0 (MQ below (YQi D cA ad RR.1 RR.2) args s 0 0 (ZA ad)) (F0 m 93 ls [.int (i32 (y0))]) := by
  intro z y0 H locs ls hF hw hzz hy0 hl
  unfold X4_beside_b93 at hF
  exact Yireti S hw hzz hy0 hr hlk hF dX4_beside_93
set_option maxRecDepth 100000 in
set_option maxHeartbeats 4000000 in
theorem w_X4_beside_b79 {RR : Int × ZI} (S : CallFix p m c cX4_beside 4 s args Ztbl RX4) (hr : meth.sig.returnType = some .int) (hlk : meth.locks = false) (hR : 0 ≤ R.frames ∧ 60 * (0) ≤ R.locals) (hdj : Zdj ad) : ∀ (z : ZI) (y0 : Int) (H : Heap) (locs : List Loc) (ls : Array Slot), X4_beside_b79 z y0 = some RR → ZW D cA ad (ZA ad) (Zc z) s H locs → Zok z → InR y0 → lv_has ls 4 [] → W p l e R s m args below meth c H locs 0 0 (MQ below (YQi D cA ad RR.1 RR.2) args s 0 0 (ZA ad)) (F0 m 79 ls [.int (i32 (y0))]) := by
  intro z y0 H locs ls hF hw hzz hy0 hl
  unfold X4_beside_b79 at hF
  exact Yireti S hw hzz hy0 hr hlk hF dX4_beside_79
set_option maxRecDepth 100000 in
set_option maxHeartbeats 4000000 in
theorem w_X4_beside_b66 {RR : Int × ZI} (S : CallFix p m c cX4_beside 4 s args Ztbl RX4) (hr : meth.sig.returnType = some .int) (hlk : meth.locks = false) (hR : 0 ≤ R.frames ∧ 60 * (0) ≤ R.locals) (hdj : Zdj ad) : ∀ (z : ZI) (y0 : Int) (H : Heap) (locs : List Loc) (ls : Array Slot), X4_beside_b66 z y0 = some RR → ZW D cA ad (ZA ad) (Zc z) s H locs → Zok z → InR y0 → lv_has ls 4 [] → W p l e R s m args below meth c H locs 0 0 (MQ below (YQi D cA ad RR.1 RR.2) args s 0 0 (ZA ad)) (F0 m 66 ls [.int (i32 (y0))]) := by
  intro z y0 H locs ls hF hw hzz hy0 hl
  unfold X4_beside_b66 at hF
  exact Yireti S hw hzz hy0 hr hlk hF dX4_beside_66
set_option maxRecDepth 100000 in
set_option maxHeartbeats 4000000 in
theorem w_X4_beside_b50 {RR : Int × ZI} (S : CallFix p m c cX4_beside 4 s args Ztbl RX4) (hr : meth.sig.returnType = some .int) (hlk : meth.locks = false) (hR : 0 ≤ R.frames ∧ 60 * (0) ≤ R.locals) (hdj : Zdj ad) : ∀ (z : ZI) (y0 : Int) (H : Heap) (locs : List Loc) (ls : Array Slot), X4_beside_b50 z y0 = some RR → ZW D cA ad (ZA ad) (Zc z) s H locs → Zok z → InR y0 → lv_has ls 4 [] → W p l e R s m args below meth c H locs 0 0 (MQ below (YQi D cA ad RR.1 RR.2) args s 0 0 (ZA ad)) (F0 m 50 ls [.int (i32 (y0))]) := by
  intro z y0 H locs ls hF hw hzz hy0 hl
  unfold X4_beside_b50 at hF
  exact Yireti S hw hzz hy0 hr hlk hF dX4_beside_50
set_option maxRecDepth 100000 in
set_option maxHeartbeats 4000000 in
theorem c_X4_beside {l : Launch} {D : va_G} {cA : Nat → ClassId} {ad : Nat → Nat} (hdj : Zdj ad) {z z1 : ZI} {x0 : Int} {x1 : Int} {r : Int} (hzz : Zok z) (hx0 : InR x0) (hx1 : InR x1) (hF : F_X4_beside z x0 x1 = some (r, z1)) : YMi l D cA ad (0) yX4_beside cX4_beside 4 (some .int) [.int (i32 x0), .int (i32 x1)] z r z1 :=
  Zmet hdj (by decide) rfl (Nat.le_of_ble_eq_true rfl) (lv := [(0, .int (i32 (x0))), (1, .int (i32 (x1)))]) rfl (fun p e s m args below meth c ls S hr hlk hw hl => by
    have hR : 0 ≤ (Zrm (0)).frames ∧ 60 * (0) ≤ (Zrm (0)).locals := ⟨Nat.le_refl _, Nat.le_refl _⟩
    unfold F_X4_beside at hF
    revert hR
    generalize Zrm (0) = R
    intro hR
    refine lv_iload_n S.1 S.2.1 dX4_beside_0 rfl (lv_at hl 0 rfl) ?_
    refine lv_bipush (v := i32 12) S.1 S.2.1 dX4_beside_1 bp_12 ?_
    refine Yirem S hx0 r_12 (by decide) dX4_beside_3 ?_
    refine lv_istore_n (lv' := [(2, .int (i32 (x0.tmod 12))), (0, .int (i32 (x0))), (1, .int (i32 (x1)))]) S.1 S.2.1 dX4_beside_4 rfl hl (by decide) rfl (fun ls hl => ?_)
    refine lv_iload_n S.1 S.2.1 dX4_beside_5 rfl (lv_at hl 1 rfl) ?_
    refine lv_bipush (v := i32 12) S.1 S.2.1 dX4_beside_6 bp_12 ?_
    refine Yidiv S hx0 r_12 (by decide) dX4_beside_8 ?_
    refine lv_istore_n (lv' := [(3, .int (i32 (x0.tdiv 12))), (2, .int (i32 (x0.tmod 12))), (0, .int (i32 (x0))), (1, .int (i32 (x1)))]) S.1 S.2.1 dX4_beside_9 rfl hl (by decide) rfl (fun ls hl => ?_)
    refine lv_iload_n S.1 S.2.1 dX4_beside_10 rfl (lv_at hl 3 rfl) ?_
    by_cases c1_ : x1 = 0
    · replace hF := ZtP c1_ hF
      refine lv_tableIn (off := 25) (tgt := 36) S.1 S.2.1 dX4_beside_11 (by rw [c1_]; decide +kernel) (by rw [c1_]; decide +kernel) (by rw [c1_]; decide +kernel) (by decide) ?_
      refine lv_iload_n S.1 S.2.1 dX4_beside_36 rfl (lv_at hl 1 rfl) ?_
      refine lv_bipush (v := i32 11) S.1 S.2.1 dX4_beside_37 bp_11 ?_
      refine Yicmp_ge (tgt := 48) S (InR_tmod hx0) r_11 dX4_beside_39 (by decide) (fun c2_ => ?_) (fun c2_ => ?_)
      · replace hF := ZtP c2_ hF
        refine lv_bipush (v := i32 (-9)) S.1 S.2.1 dX4_beside_48 bp_m9 ?_
        exact w_X4_beside_b50 S hr hlk hR hdj _ _ _ _ _ hF hw hzz r_m9 (lv_sub hl [] rfl)
      · replace hF := ZtN c2_ hF
        refine lv_iload_n S.1 S.2.1 dX4_beside_42 rfl (lv_at hl 2 rfl) ?_
        refine lv_iconst (v := i32 1) S.1 S.2.1 dX4_beside_43 ic_1 ?_
        obtain ⟨g3_, hF⟩ := Zgs hF
        refine Yiadd S dX4_beside_44 ?_
        refine lv_goto (tgt := 50) S.1 S.2.1 dX4_beside_45 (by decide) ?_
        exact w_X4_beside_b50 S hr hlk hR hdj _ _ _ _ _ hF hw hzz g3_ (lv_sub hl [] rfl)
    replace hF := ZtN c1_ hF
    by_cases c4_ : x1 = 1
    · replace hF := ZtP c4_ hF
      refine lv_tableIn (off := 40) (tgt := 51) S.1 S.2.1 dX4_beside_11 (by rw [c4_]; decide +kernel) (by rw [c4_]; decide +kernel) (by rw [c4_]; decide +kernel) (by decide) ?_
      refine lv_iload_n S.1 S.2.1 dX4_beside_51 rfl (lv_at hl 0 rfl) ?_
      refine lv_bipush (v := i32 11) S.1 S.2.1 dX4_beside_52 bp_11 ?_
      refine Yicmp_ge (tgt := 64) S (InR_tdiv hx0 (by decide)) r_11 dX4_beside_54 (by decide) (fun c5_ => ?_) (fun c5_ => ?_)
      · replace hF := ZtP c5_ hF
        refine lv_bipush (v := i32 (-9)) S.1 S.2.1 dX4_beside_64 bp_m9 ?_
        exact w_X4_beside_b66 S hr hlk hR hdj _ _ _ _ _ hF hw hzz r_m9 (lv_sub hl [] rfl)
      · replace hF := ZtN c5_ hF
        refine lv_iload_n S.1 S.2.1 dX4_beside_57 rfl (lv_at hl 2 rfl) ?_
        refine lv_bipush (v := i32 12) S.1 S.2.1 dX4_beside_58 bp_12 ?_
        obtain ⟨g6_, hF⟩ := Zgs hF
        refine Yiadd S dX4_beside_60 ?_
        refine lv_goto (tgt := 66) S.1 S.2.1 dX4_beside_61 (by decide) ?_
        exact w_X4_beside_b66 S hr hlk hR hdj _ _ _ _ _ hF hw hzz g6_ (lv_sub hl [] rfl)
    replace hF := ZtN c4_ hF
    by_cases c7_ : x1 = 2
    · replace hF := ZtP c7_ hF
      refine lv_tableIn (off := 56) (tgt := 67) S.1 S.2.1 dX4_beside_11 (by rw [c7_]; decide +kernel) (by rw [c7_]; decide +kernel) (by rw [c7_]; decide +kernel) (by decide) ?_
      refine lv_iload_n S.1 S.2.1 dX4_beside_67 rfl (lv_at hl 1 rfl) ?_
      refine Yif_le (tgt := 77) S (InR_tmod hx0) dX4_beside_68 (by decide) (fun c8_ => ?_) (fun c8_ => ?_)
      · replace hF := ZtP c8_ hF
        refine lv_bipush (v := i32 (-9)) S.1 S.2.1 dX4_beside_77 bp_m9 ?_
        exact w_X4_beside_b79 S hr hlk hR hdj _ _ _ _ _ hF hw hzz r_m9 (lv_sub hl [] rfl)
      · replace hF := ZtN c8_ hF
        refine lv_iload_n S.1 S.2.1 dX4_beside_71 rfl (lv_at hl 2 rfl) ?_
        refine lv_iconst (v := i32 1) S.1 S.2.1 dX4_beside_72 ic_1 ?_
        obtain ⟨g9_, hF⟩ := Zgs hF
        refine Yisub S dX4_beside_73 ?_
        refine lv_goto (tgt := 79) S.1 S.2.1 dX4_beside_74 (by decide) ?_
        exact w_X4_beside_b79 S hr hlk hR hdj _ _ _ _ _ hF hw hzz g9_ (lv_sub hl [] rfl)
    replace hF := ZtN c7_ hF
    refine lv_tableOut (tgt := 80) S.1 S.2.1 dX4_beside_11 (Ytout hx1 [0, 1, 2] (by decide) (List.forall_mem_cons.mpr ⟨c1_, (List.forall_mem_cons.mpr ⟨c4_, (List.forall_mem_cons.mpr ⟨c7_, (fun _ h9 => nomatch h9)⟩)⟩)⟩)) (by decide) ?_
    refine lv_iload_n S.1 S.2.1 dX4_beside_80 rfl (lv_at hl 0 rfl) ?_
    refine Yif_le (tgt := 91) S (InR_tdiv hx0 (by decide)) dX4_beside_81 (by decide) (fun c10_ => ?_) (fun c10_ => ?_)
    · replace hF := ZtP c10_ hF
      refine lv_bipush (v := i32 (-9)) S.1 S.2.1 dX4_beside_91 bp_m9 ?_
      exact w_X4_beside_b93 S hr hlk hR hdj _ _ _ _ _ hF hw hzz r_m9 (lv_sub hl [] rfl)
    · replace hF := ZtN c10_ hF
      refine lv_iload_n S.1 S.2.1 dX4_beside_84 rfl (lv_at hl 2 rfl) ?_
      refine lv_bipush (v := i32 12) S.1 S.2.1 dX4_beside_85 bp_12 ?_
      obtain ⟨g11_, hF⟩ := Zgs hF
      refine Yisub S dX4_beside_87 ?_
      refine lv_goto (tgt := 93) S.1 S.2.1 dX4_beside_88 (by decide) ?_
      exact w_X4_beside_b93 S hr hlk hR hdj _ _ _ _ _ hF hw hzz g11_ (lv_sub hl [] rfl))
set_option maxRecDepth 100000 in
set_option maxHeartbeats 4000000 in
theorem w_X4_lowestBeside_b74 {RR : Int × ZI} (S : CallFix p m c cX4_lowestBeside 9 s args Ztbl RX4) (hr : meth.sig.returnType = some .int) (hlk : meth.locks = false) (hR : 1 ≤ R.frames ∧ 60 * (1) ≤ R.locals) (hdj : Zdj ad) {k23 : ZI → Int → Int → Int → Int → Int → Option (Int × ZI)} (hk23 : ∀ (z : ZI) (x1 : Int) (x2 : Int) (x3 : Int) (x5 : Int) (x6 : Int) (H : Heap) (locs : List Loc) (ls : Array Slot), k23 z x1 x2 x3 x5 x6 = some RR → ZW D cA ad (ZA ad) (Zc z) s H locs → Zok z → InR x1 → InR x2 → InR x3 → InR x5 → InR x6 → lv_has ls 9 [(0, .ref (ad 2)), (1, .int (i32 (x1))), (2, .int (i32 (x2))), (3, .int (i32 (x3))), (4, .ref (ad 300)), (5, .int (i32 (x5))), (6, .int (i32 (x6)))] → W p l e R s m args below meth c H locs 0 0 (MQ below (YQi D cA ad RR.1 RR.2) args s 0 0 (ZA ad)) (F0 m 23 ls [])) : ∀ (z : ZI) (x1 : Int) (x2 : Int) (x3 : Int) (x5 : Int) (x6 : Int) (H : Heap) (locs : List Loc) (ls : Array Slot), X4_lowestBeside_b74 k23 z x1 x2 x3 x5 x6 = some RR → ZW D cA ad (ZA ad) (Zc z) s H locs → Zok z → InR x1 → InR x2 → InR x3 → InR x5 → InR x6 → lv_has ls 9 [(0, .ref (ad 2)), (1, .int (i32 (x1))), (2, .int (i32 (x2))), (3, .int (i32 (x3))), (4, .ref (ad 300)), (5, .int (i32 (x5))), (6, .int (i32 (x6)))] → W p l e R s m args below meth c H locs 0 0 (MQ below (YQi D cA ad RR.1 RR.2) args s 0 0 (ZA ad)) (F0 m 74 ls []) := by
  intro z x1 x2 x3 x5 x6 H locs ls hF hw hzz hx1 hx2 hx3 hx5 hx6 hl
  unfold X4_lowestBeside_b74 at hF
  obtain ⟨g1_, hF⟩ := Zgs hF
  refine lv_iinc (v := i32 (x6 + 1)) (lv' := [(6, .int (i32 (x6 + 1))), (0, .ref (ad 2)), (1, .int (i32 (x1))), (2, .int (i32 (x2))), (3, .int (i32 (x3))), (4, .ref (ad 300)), (5, .int (i32 (x5)))]) S.1 S.2.1 dX4_lowestBeside_74 hl (k := 6) rfl Yiinc (by decide) rfl (fun ls hl => ?_)
  refine lv_goto (tgt := 23) S.1 S.2.1 dX4_lowestBeside_77 (by decide) ?_
  exact hk23 _ _ _ _ _ _ _ _ _ hF hw hzz hx1 hx2 hx3 hx5 g1_ (lv_sub hl [1, 2, 3, 4, 5, 6, 0] rfl)
set_option maxRecDepth 100000 in
set_option maxHeartbeats 4000000 in
theorem w_X4_lowestBeside_L23 {RR : Int × ZI} (S : CallFix p m c cX4_lowestBeside 9 s args Ztbl RX4) (hr : meth.sig.returnType = some .int) (hlk : meth.locks = false) (hR : 1 ≤ R.frames ∧ 60 * (1) ≤ R.locals) (hdj : Zdj ad) : ∀ (n : Nat) (z : ZI) (x1 : Int) (x2 : Int) (x3 : Int) (x5 : Int) (x6 : Int) (H : Heap) (locs : List Loc) (ls : Array Slot), X4_lowestBeside_L23 n z x1 x2 x3 x5 x6 = some RR → ZW D cA ad (ZA ad) (Zc z) s H locs → Zok z → InR x1 → InR x2 → InR x3 → InR x5 → InR x6 → lv_has ls 9 [(0, .ref (ad 2)), (1, .int (i32 (x1))), (2, .int (i32 (x2))), (3, .int (i32 (x3))), (4, .ref (ad 300)), (5, .int (i32 (x5))), (6, .int (i32 (x6)))] → W p l e R s m args below meth c H locs 0 0 (MQ below (YQi D cA ad RR.1 RR.2) args s 0 0 (ZA ad)) (F0 m 23 ls []) := by
  intro n
  induction n with
  | zero => intro z x1 x2 x3 x5 x6 H locs ls hF; exact nomatch hF
  | succ n hk23 =>
    intro z x1 x2 x3 x5 x6 H locs ls hF hw hzz hx1 hx2 hx3 hx5 hx6 hl
    replace hF : X4_lowestBeside_L23b (X4_lowestBeside_L23 n) z x1 x2 x3 x5 x6 = some RR := hF
    unfold X4_lowestBeside_L23b at hF
    refine lv_iload S.1 S.2.1 dX4_lowestBeside_23 (lv_at hl 6 rfl) ?_
    refine lv_iload S.1 S.2.1 dX4_lowestBeside_25 (lv_at hl 5 rfl) ?_
    refine Yicmp_ge (tgt := 80) S hx6 hx5 dX4_lowestBeside_27 (by decide) (fun c1_ => ?_) (fun c1_ => ?_)
    · replace hF := ZtP c1_ hF
      refine lv_iload_n S.1 S.2.1 dX4_lowestBeside_80 rfl (lv_at hl 2 rfl) ?_
      exact Yireti S hw hzz hx2 hr hlk hF dX4_lowestBeside_81
    · replace hF := ZtN c1_ hF
      refine lv_aload S.1 S.2.1 dX4_lowestBeside_30 (lv_at hl 4 rfl) ?_
      refine lv_iload S.1 S.2.1 dX4_lowestBeside_32 (lv_at hl 6 rfl) ?_
      obtain ⟨b2_, hF⟩ := Zgs hF
      refine Ysidesr S hw hx6 b2_ dX4_lowestBeside_34 ?_
      refine lv_istore (lv' := [(7, .int (i32 (Ysides x6))), (0, .ref (ad 2)), (1, .int (i32 (x1))), (2, .int (i32 (x2))), (3, .int (i32 (x3))), (4, .ref (ad 300)), (5, .int (i32 (x5))), (6, .int (i32 (x6)))]) S.1 S.2.1 dX4_lowestBeside_35 hl (by decide) rfl (fun ls hl => ?_)
      refine lv_iload_n S.1 S.2.1 dX4_lowestBeside_37 rfl (lv_at hl 2 rfl) ?_
      refine lv_iload S.1 S.2.1 dX4_lowestBeside_38 (lv_at hl 0 rfl) ?_
      obtain ⟨r5_, z3_, h4_, hF⟩ := Ybs hF
      refine YcallSi (rest := []) S hw (c_X4_beside hdj hzz hx1 (Ysides_in _) h4_) my_X4_beside ms_X4_beside ml_X4_56 (Zrr hR (by decide)) ⟨Nat.zero_le _, Nat.zero_le _⟩ hl.1 rfl rfl (Nat.le_of_ble_eq_true rfl) dX4_lowestBeside_40 (fun hrr5_ hzz3_ H locs hw => ?_)
      refine lv_istore (lv' := [(8, .int (i32 (r5_))), (7, .int (i32 (Ysides x6))), (0, .ref (ad 2)), (1, .int (i32 (x1))), (2, .int (i32 (x2))), (3, .int (i32 (x3))), (4, .ref (ad 300)), (5, .int (i32 (x5))), (6, .int (i32 (x6)))]) S.1 S.2.1 dX4_lowestBeside_43 hl (by decide) rfl (fun ls hl => ?_)
      refine lv_iload S.1 S.2.1 dX4_lowestBeside_45 (lv_at hl 0 rfl) ?_
      refine lv_bipush (v := i32 (-9)) S.1 S.2.1 dX4_lowestBeside_47 bp_m9 ?_
      refine Yicmp_eq (tgt := 74) S hrr5_ r_m9 dX4_lowestBeside_49 (by decide) (fun c6_ => ?_) (fun c6_ => ?_)
      · replace hF := ZtP c6_ hF
        exact w_X4_lowestBeside_b74 S hr hlk hR hdj hk23 _ _ _ _ _ _ _ _ _ hF hw hzz3_ hx1 hx2 hx3 hx5 hx6 (lv_sub hl [2, 3, 4, 5, 6, 7, 8] rfl)
      · replace hF := ZtN c6_ hF
        refine lv_aload_n S.1 S.2.1 dX4_lowestBeside_52 rfl (lv_at hl 2 rfl) ?_
        refine gf_X4_9 S hw dX4_lowestBeside_53 ?_
        refine lv_iload S.1 S.2.1 dX4_lowestBeside_56 (lv_at hl 0 rfl) ?_
        obtain ⟨b7_, hF⟩ := Zgs hF
        refine Yiald S hw zd_3 (by decide) hrr5_ b7_ dX4_lowestBeside_58 ?_
        refine lv_iload_n S.1 S.2.1 dX4_lowestBeside_59 rfl (lv_at hl 5 rfl) ?_
        refine Yicmp_ge (tgt := 74) S (hzz3_.1 _ _ (by decide)) hx3 dX4_lowestBeside_60 (by decide) (fun c8_ => ?_) (fun c8_ => ?_)
        · replace hF := ZtP c8_ hF
          exact w_X4_lowestBeside_b74 S hr hlk hR hdj hk23 _ _ _ _ _ _ _ _ _ hF hw hzz3_ hx1 hx2 hx3 hx5 hx6 (lv_sub hl [2, 3, 4, 5, 6, 7, 8] rfl)
        · replace hF := ZtN c8_ hF
          refine lv_iload S.1 S.2.1 dX4_lowestBeside_63 (lv_at hl 0 rfl) ?_
          refine lv_istore_n (lv' := [(2, .int (i32 (r5_))), (8, .int (i32 (r5_))), (7, .int (i32 (Ysides x6))), (0, .ref (ad 2)), (1, .int (i32 (x1))), (3, .int (i32 (x3))), (4, .ref (ad 300)), (5, .int (i32 (x5))), (6, .int (i32 (x6)))]) S.1 S.2.1 dX4_lowestBeside_65 rfl hl (by decide) rfl (fun ls hl => ?_)
          refine lv_aload_n S.1 S.2.1 dX4_lowestBeside_66 rfl (lv_at hl 3 rfl) ?_
          refine gf_X4_9 S hw dX4_lowestBeside_67 ?_
          refine lv_iload S.1 S.2.1 dX4_lowestBeside_70 (lv_at hl 1 rfl) ?_
          obtain ⟨b9_, hF⟩ := Zgs hF
          refine Yiald S hw zd_3 (by decide) hrr5_ b9_ dX4_lowestBeside_72 ?_
          refine lv_istore_n (lv' := [(3, .int (i32 (z3_ 3 r5_))), (2, .int (i32 (r5_))), (8, .int (i32 (r5_))), (7, .int (i32 (Ysides x6))), (0, .ref (ad 2)), (1, .int (i32 (x1))), (4, .ref (ad 300)), (5, .int (i32 (x5))), (6, .int (i32 (x6)))]) S.1 S.2.1 dX4_lowestBeside_73 rfl hl (by decide) rfl (fun ls hl => ?_)
          exact w_X4_lowestBeside_b74 S hr hlk hR hdj hk23 _ _ _ _ _ _ _ _ _ hF hw hzz3_ hx1 hrr5_ (hzz3_.1 _ _ (by decide)) hx5 hx6 (lv_sub hl [4, 5, 1, 0, 6, 7, 8] rfl)
set_option maxRecDepth 100000 in
set_option maxHeartbeats 4000000 in
theorem c_X4_lowestBeside {l : Launch} {D : va_G} {cA : Nat → ClassId} {ad : Nat → Nat} (hdj : Zdj ad) {z z1 : ZI} {x1 : Int} {r : Int} (hzz : Zok z) (hx1 : InR x1) (hF : F_X4_lowestBeside z x1 = some (r, z1)) : YMi l D cA ad (1) yX4_lowestBeside cX4_lowestBeside 9 (some .int) [.ref (ad 2), .int (i32 x1)] z r z1 :=
  Zmet hdj (by decide) rfl (Nat.le_of_ble_eq_true rfl) (lv := [(0, .ref (ad 2)), (1, .int (i32 (x1)))]) rfl (fun p e s m args below meth c ls S hr hlk hw hl => by
    have hR : 1 ≤ (Zrm (1)).frames ∧ 60 * (1) ≤ (Zrm (1)).locals := ⟨Nat.le_refl _, Nat.le_refl _⟩
    unfold F_X4_lowestBeside at hF
    revert hR
    generalize Zrm (1) = R
    intro hR
    refine lv_bipush (v := i32 (-9)) S.1 S.2.1 dX4_lowestBeside_0 bp_m9 ?_
    refine lv_istore_n (lv' := [(2, .int (i32 ((-9)))), (0, .ref (ad 2)), (1, .int (i32 (x1)))]) S.1 S.2.1 dX4_lowestBeside_2 rfl hl (by decide) rfl (fun ls hl => ?_)
    refine lv_aload_n S.1 S.2.1 dX4_lowestBeside_3 rfl (lv_at hl 1 rfl) ?_
    refine gf_X4_9 S hw dX4_lowestBeside_4 ?_
    refine lv_iload_n S.1 S.2.1 dX4_lowestBeside_7 rfl (lv_at hl 2 rfl) ?_
    obtain ⟨b1_, hF⟩ := Zgs hF
    refine Yiald S hw zd_3 (by decide) hx1 b1_ dX4_lowestBeside_8 ?_
    refine lv_istore_n (lv' := [(3, .int (i32 (z 3 x1))), (2, .int (i32 ((-9)))), (0, .ref (ad 2)), (1, .int (i32 (x1)))]) S.1 S.2.1 dX4_lowestBeside_9 rfl hl (by decide) rfl (fun ls hl => ?_)
    refine va_gets S.1 S.2.1 hw.1.2.2.1 hw.2.2.2 S.2.2.2.1 (S.2.2.2.2 _ (Ztb 440 (by decide +kernel) rfl : Cond.fieldLink RX4 53 RX4 "SIDES_BY_CELL" "[I" ∈ Ztbl)) (fun _ h9 => h9) dX4_lowestBeside_10 ?_
    refine lv_astore (lv' := [(4, .ref (ad 300)), (3, .int (i32 (z 3 x1))), (2, .int (i32 ((-9)))), (0, .ref (ad 2)), (1, .int (i32 (x1)))]) S.1 S.2.1 dX4_lowestBeside_13 hl (by decide) rfl (fun ls hl => ?_)
    refine lv_aload S.1 S.2.1 dX4_lowestBeside_15 (lv_at hl 0 rfl) ?_
    refine va_tlen S.1 S.2.1 hw.1.2.2.2.1 hw.2.2.2 (v := i32 4) rfl dX4_lowestBeside_17 ?_
    refine lv_istore (lv' := [(5, .int (i32 (4))), (4, .ref (ad 300)), (3, .int (i32 (z 3 x1))), (2, .int (i32 ((-9)))), (0, .ref (ad 2)), (1, .int (i32 (x1)))]) S.1 S.2.1 dX4_lowestBeside_18 hl (by decide) rfl (fun ls hl => ?_)
    refine lv_iconst (v := i32 0) S.1 S.2.1 dX4_lowestBeside_20 ic_0 ?_
    refine lv_istore (lv' := [(6, .int (i32 (0))), (5, .int (i32 (4))), (4, .ref (ad 300)), (3, .int (i32 (z 3 x1))), (2, .int (i32 ((-9)))), (0, .ref (ad 2)), (1, .int (i32 (x1)))]) S.1 S.2.1 dX4_lowestBeside_21 hl (by decide) rfl (fun ls hl => ?_)
    exact w_X4_lowestBeside_L23 S hr hlk hR hdj Zfuel _ _ _ _ _ _ _ _ _ hF hw hzz hx1 r_m9 (hzz.1 _ _ (by decide)) r_4 r_0 (lv_sub hl [5, 6, 4, 3, 2, 1, 0] rfl))
set_option maxRecDepth 100000 in
set_option maxHeartbeats 4000000 in
theorem w_X10_down_b23 {RR : Int × ZI} (S : CallFix p m c cX10_down 2 s args Ztbl RX10) (hr : meth.sig.returnType = some .int) (hlk : meth.locks = false) (hR : 2 ≤ R.frames ∧ 60 * (2) ≤ R.locals) (hdj : Zdj ad) : ∀ (z : ZI) (y0 : Int) (H : Heap) (locs : List Loc) (ls : Array Slot), X10_down_b23 z y0 = some RR → ZW D cA ad (ZA ad) (Zc z) s H locs → Zok z → InR y0 → lv_has ls 2 [] → W p l e R s m args below meth c H locs 0 0 (MQ below (YQi D cA ad RR.1 RR.2) args s 0 0 (ZA ad)) (F0 m 23 ls [.int (i32 (y0))]) := by
  intro z y0 H locs ls hF hw hzz hy0 hl
  unfold X10_down_b23 at hF
  exact Yireti S hw hzz hy0 hr hlk hF dX10_down_23
set_option maxRecDepth 100000 in
set_option maxHeartbeats 4000000 in
theorem c_X10_down {l : Launch} {D : va_G} {cA : Nat → ClassId} {ad : Nat → Nat} (hdj : Zdj ad) {z z1 : ZI} {x1 : Int} {r : Int} (hzz : Zok z) (hx1 : InR x1) (hF : F_X10_down z x1 = some (r, z1)) : YMi l D cA ad (2) yX10_down cX10_down 2 (some .int) [.ref (ad 0), .int (i32 x1)] z r z1 :=
  Zmet hdj (by decide) rfl (Nat.le_of_ble_eq_true rfl) (lv := [(0, .ref (ad 0)), (1, .int (i32 (x1)))]) rfl (fun p e s m args below meth c ls S hr hlk hw hl => by
    have hR : 2 ≤ (Zrm (2)).frames ∧ 60 * (2) ≤ (Zrm (2)).locals := ⟨Nat.le_refl _, Nat.le_refl _⟩
    unfold F_X10_down at hF
    revert hR
    generalize Zrm (2) = R
    intro hR
    refine lv_iload_n S.1 S.2.1 dX10_down_0 rfl (lv_at hl 1 rfl) ?_
    obtain ⟨r3_, z1_, h2_, hF⟩ := Ybs hF
    refine YcallSi (rest := []) S hw (c_X10_isCell hdj hzz hx1 h2_) my_X10_isCell ms_X10_isCell ml_X10_89 (Zrr hR (by decide)) ⟨Nat.zero_le _, Nat.zero_le _⟩ hl.1 rfl rfl (Nat.le_of_ble_eq_true rfl) dX10_down_1 (fun hrr3_ hzz1_ H locs hw => ?_)
    refine Yif_eq (tgt := 18) S hrr3_ dX10_down_4 (by decide) (fun c4_ => ?_) (fun c4_ => ?_)
    · replace hF := ZtP c4_ hF
      refine lv_aload_n S.1 S.2.1 dX10_down_18 rfl (lv_at hl 0 rfl) ?_
      refine lv_iconst (v := i32 (-1)) S.1 S.2.1 dX10_down_19 ic_m1 ?_
      obtain ⟨r7_, z5_, h6_, hF⟩ := Ybs hF
      refine YcallVi (rest := []) S hw (c_X10_refuse hdj hzz1_ r_m1 h6_) my_X10_refuse mi_X10_refuse ml_X10_81 zd_0 zc_X10 rfl (Zrr hR (by decide)) ⟨Nat.zero_le _, Nat.zero_le _⟩ hl.1 rfl rfl (Nat.le_of_ble_eq_true rfl) dX10_down_20 (fun hrr7_ hzz5_ H locs hw => ?_)
      exact w_X10_down_b23 S hr hlk hR hdj _ _ _ _ _ hF hw hzz5_ hrr7_ (lv_sub hl [] rfl)
    · replace hF := ZtN c4_ hF
      refine lv_aload_n S.1 S.2.1 dX10_down_7 rfl (lv_at hl 0 rfl) ?_
      refine gf_X10_20 S hw dX10_down_8 ?_
      refine lv_iload_n S.1 S.2.1 dX10_down_11 rfl (lv_at hl 1 rfl) ?_
      obtain ⟨r10_, z8_, h9_, hF⟩ := Ybs hF
      refine YcallVi (rest := []) S hw (c_X4_lowestBeside hdj hzz1_ hx1 h9_) my_X4_lowestBeside mi_X4_lowestBeside ml_X10_97 zd_2 zc_X4 rfl (Zrr hR (by decide)) ⟨Nat.zero_le _, Nat.zero_le _⟩ hl.1 rfl rfl (Nat.le_of_ble_eq_true rfl) dX10_down_12 (fun hrr10_ hzz8_ H locs hw => ?_)
      refine lv_goto (tgt := 23) S.1 S.2.1 dX10_down_15 (by decide) ?_
      exact w_X10_down_b23 S hr hlk hR hdj _ _ _ _ _ hF hw hzz8_ hrr10_ (lv_sub hl [] rfl))
set_option maxRecDepth 100000 in
set_option maxHeartbeats 4000000 in
theorem c_X4_addDrain {l : Launch} {D : va_G} {cA : Nat → ClassId} {ad : Nat → Nat} (hdj : Zdj ad) {z z1 : ZI} {x1 : Int} {r : Int} (hzz : Zok z) (hx1 : InR x1) (hF : F_X4_addDrain z x1 = some (r, z1)) : YMi l D cA ad (0) yX4_addDrain cX4_addDrain 2 (some .int) [.ref (ad 2), .int (i32 x1)] z r z1 :=
  Zmet hdj (by decide) rfl (Nat.le_of_ble_eq_true rfl) (lv := [(0, .ref (ad 2)), (1, .int (i32 (x1)))]) rfl (fun p e s m args below meth c ls S hr hlk hw hl => by
    have hR : 0 ≤ (Zrm (0)).frames ∧ 60 * (0) ≤ (Zrm (0)).locals := ⟨Nat.le_refl _, Nat.le_refl _⟩
    unfold F_X4_addDrain at hF
    revert hR
    generalize Zrm (0) = R
    intro hR
    refine lv_aload_n S.1 S.2.1 dX4_addDrain_0 rfl (lv_at hl 0 rfl) ?_
    refine gf_X4_24 S hw dX4_addDrain_1 ?_
    refine lv_iload_n S.1 S.2.1 dX4_addDrain_4 rfl (lv_at hl 1 rfl) ?_
    refine lv_aload_n S.1 S.2.1 dX4_addDrain_5 rfl (lv_at hl 0 rfl) ?_
    refine gg_X4_64 S hw dX4_addDrain_6 ?_
    obtain ⟨b1_, hF⟩ := Zgs hF
    refine Yiast S hw hzz zd_5 (by decide) hx1 (hzz.1 2 4 (by decide)) b1_ dX4_addDrain_9 (fun z2_ H locs ez hzz2_ hw => ?_)
    replace hF := Zle ez hF; clear ez
    refine lv_aload_n S.1 S.2.1 dX4_addDrain_10 rfl (lv_at hl 0 rfl) ?_
    refine lv_dup S.1 S.2.1 dX4_addDrain_11 rfl ?_
    refine gg_X4_64 S hw dX4_addDrain_12 ?_
    refine lv_dup_x1 S.1 S.2.1 dX4_addDrain_15 rfl rfl ?_
    refine lv_iconst (v := i32 1) S.1 S.2.1 dX4_addDrain_16 ic_1 ?_
    obtain ⟨g3_, hF⟩ := Zgs hF
    refine Yiadd S dX4_addDrain_17 ?_
    refine pp_X4_64 S hw hzz2_ g3_ dX4_addDrain_18 (fun z4_ H locs ez hzz4_ hw => ?_)
    replace hF := Zle ez hF; clear ez
    exact Yireti S hw hzz4_ (hzz2_.1 2 4 (by decide)) hr hlk hF dX4_addDrain_21)
set_option maxRecDepth 100000 in
set_option maxHeartbeats 4000000 in
theorem w_X4_isDrain_b16 {RR : Int × ZI} (S : CallFix p m c cX4_isDrain 2 s args Ztbl RX4) (hr : meth.sig.returnType = some .boolean) (hlk : meth.locks = false) (hR : 0 ≤ R.frames ∧ 60 * (0) ≤ R.locals) (hdj : Zdj ad) : ∀ (z : ZI) (y0 : Int) (H : Heap) (locs : List Loc) (ls : Array Slot), X4_isDrain_b16 z y0 = some RR → ZW D cA ad (ZA ad) (Zc z) s H locs → Zok z → InR y0 → lv_has ls 2 [] → W p l e R s m args below meth c H locs 0 0 (MQ below (YQi D cA ad RR.1 RR.2) args s 0 0 (ZA ad)) (F0 m 16 ls [.int (i32 (y0))]) := by
  intro z y0 H locs ls hF hw hzz hy0 hl
  unfold X4_isDrain_b16 at hF
  obtain ⟨b1_, hF⟩ := Zgs hF
  exact Yiretz S hw hzz hy0 hr hlk b1_ hF dX4_isDrain_16
set_option maxRecDepth 100000 in
set_option maxHeartbeats 4000000 in
theorem c_X4_isDrain {l : Launch} {D : va_G} {cA : Nat → ClassId} {ad : Nat → Nat} (hdj : Zdj ad) {z z1 : ZI} {x1 : Int} {r : Int} (hzz : Zok z) (hx1 : InR x1) (hF : F_X4_isDrain z x1 = some (r, z1)) : YMi l D cA ad (0) yX4_isDrain cX4_isDrain 2 (some .boolean) [.ref (ad 2), .int (i32 x1)] z r z1 :=
  Zmet hdj (by decide) rfl (Nat.le_of_ble_eq_true rfl) (lv := [(0, .ref (ad 2)), (1, .int (i32 (x1)))]) rfl (fun p e s m args below meth c ls S hr hlk hw hl => by
    have hR : 0 ≤ (Zrm (0)).frames ∧ 60 * (0) ≤ (Zrm (0)).locals := ⟨Nat.le_refl _, Nat.le_refl _⟩
    unfold F_X4_isDrain at hF
    revert hR
    generalize Zrm (0) = R
    intro hR
    refine lv_aload_n S.1 S.2.1 dX4_isDrain_0 rfl (lv_at hl 0 rfl) ?_
    refine gf_X4_24 S hw dX4_isDrain_1 ?_
    refine lv_iload_n S.1 S.2.1 dX4_isDrain_4 rfl (lv_at hl 1 rfl) ?_
    obtain ⟨b1_, hF⟩ := Zgs hF
    refine Yiald S hw zd_5 (by decide) hx1 b1_ dX4_isDrain_5 ?_
    refine lv_bipush (v := i32 (-9)) S.1 S.2.1 dX4_isDrain_6 bp_m9 ?_
    refine Yicmp_eq (tgt := 15) S (hzz.1 _ _ (by decide)) r_m9 dX4_isDrain_8 (by decide) (fun c2_ => ?_) (fun c2_ => ?_)
    · replace hF := ZtP c2_ hF
      refine lv_iconst (v := i32 0) S.1 S.2.1 dX4_isDrain_15 ic_0 ?_
      exact w_X4_isDrain_b16 S hr hlk hR hdj _ _ _ _ _ hF hw hzz r_0 (lv_sub hl [] rfl)
    · replace hF := ZtN c2_ hF
      refine lv_iconst (v := i32 1) S.1 S.2.1 dX4_isDrain_11 ic_1 ?_
      refine lv_goto (tgt := 16) S.1 S.2.1 dX4_isDrain_12 (by decide) ?_
      exact w_X4_isDrain_b16 S hr hlk hR hdj _ _ _ _ _ hF hw hzz r_1 (lv_sub hl [] rfl))
set_option maxRecDepth 100000 in
set_option maxHeartbeats 4000000 in
theorem c_X10_drain {l : Launch} {D : va_G} {cA : Nat → ClassId} {ad : Nat → Nat} (hdj : Zdj ad) {z z1 : ZI} {x1 : Int} {r : Int} (hzz : Zok z) (hx1 : InR x1) (hF : F_X10_drain z x1 = some (r, z1)) : YMi l D cA ad (1) yX10_drain cX10_drain 2 (some .int) [.ref (ad 0), .int (i32 x1)] z r z1 :=
  Zmet hdj (by decide) rfl (Nat.le_of_ble_eq_true rfl) (lv := [(0, .ref (ad 0)), (1, .int (i32 (x1)))]) rfl (fun p e s m args below meth c ls S hr hlk hw hl => by
    have hR : 1 ≤ (Zrm (1)).frames ∧ 60 * (1) ≤ (Zrm (1)).locals := ⟨Nat.le_refl _, Nat.le_refl _⟩
    unfold F_X10_drain at hF
    revert hR
    generalize Zrm (1) = R
    intro hR
    refine lv_iload_n S.1 S.2.1 dX10_drain_0 rfl (lv_at hl 1 rfl) ?_
    obtain ⟨r3_, z1_, h2_, hF⟩ := Ybs hF
    refine YcallSi (rest := []) S hw (c_X10_isCell hdj hzz hx1 h2_) my_X10_isCell ms_X10_isCell ml_X10_89 (Zrr hR (by decide)) ⟨Nat.zero_le _, Nat.zero_le _⟩ hl.1 rfl rfl (Nat.le_of_ble_eq_true rfl) dX10_drain_1 (fun hrr3_ hzz1_ H locs hw => ?_)
    refine Yif_ne (tgt := 13) S hrr3_ dX10_drain_4 (by decide) (fun c4_ => ?_) (fun c4_ => ?_)
    · replace hF := ZtN c4_ hF
      refine lv_aload_n S.1 S.2.1 dX10_drain_13 rfl (lv_at hl 0 rfl) ?_
      refine gf_X10_20 S hw dX10_drain_14 ?_
      refine lv_iload_n S.1 S.2.1 dX10_drain_17 rfl (lv_at hl 1 rfl) ?_
      obtain ⟨r7_, z5_, h6_, hF⟩ := Ybs hF
      refine YcallVi (rest := []) S hw (c_X4_isDrain hdj hzz1_ hx1 h6_) my_X4_isDrain mi_X4_isDrain ml_X10_246 zd_2 zc_X4 rfl (Zrr hR (by decide)) ⟨Nat.zero_le _, Nat.zero_le _⟩ hl.1 rfl rfl (Nat.le_of_ble_eq_true rfl) dX10_drain_18 (fun hrr7_ hzz5_ H locs hw => ?_)
      refine Yif_eq (tgt := 31) S hrr7_ dX10_drain_21 (by decide) (fun c8_ => ?_) (fun c8_ => ?_)
      · replace hF := ZtP c8_ hF
        refine lv_aload_n S.1 S.2.1 dX10_drain_31 rfl (lv_at hl 0 rfl) ?_
        refine gf_X10_20 S hw dX10_drain_32 ?_
        refine gg_X10_249 S hw dX10_drain_35 ?_
        refine lv_bipush (v := i32 10) S.1 S.2.1 dX10_drain_38 bp_10 ?_
        refine Yicmp_lt (tgt := 50) S (hzz5_.1 2 4 (by decide)) r_10 dX10_drain_40 (by decide) (fun c9_ => ?_) (fun c9_ => ?_)
        · replace hF := ZtP c9_ hF
          refine lv_aload_n S.1 S.2.1 dX10_drain_50 rfl (lv_at hl 0 rfl) ?_
          refine gf_X10_20 S hw dX10_drain_51 ?_
          refine lv_iload_n S.1 S.2.1 dX10_drain_54 rfl (lv_at hl 1 rfl) ?_
          obtain ⟨r12_, z10_, h11_, hF⟩ := Ybs hF
          refine YcallVi (rest := []) S hw (c_X4_addDrain hdj hzz5_ hx1 h11_) my_X4_addDrain mi_X4_addDrain ml_X10_252 zd_2 zc_X4 rfl (Zrr hR (by decide)) ⟨Nat.zero_le _, Nat.zero_le _⟩ hl.1 rfl rfl (Nat.le_of_ble_eq_true rfl) dX10_drain_55 (fun hrr12_ hzz10_ H locs hw => ?_)
          exact Yireti S hw hzz10_ hrr12_ hr hlk hF dX10_drain_58
        · replace hF := ZtN c9_ hF
          refine lv_aload_n S.1 S.2.1 dX10_drain_43 rfl (lv_at hl 0 rfl) ?_
          refine lv_bipush (v := i32 (-6)) S.1 S.2.1 dX10_drain_44 bp_m6 ?_
          obtain ⟨r15_, z13_, h14_, hF⟩ := Ybs hF
          refine YcallVi (rest := []) S hw (c_X10_refuse hdj hzz5_ r_m6 h14_) my_X10_refuse mi_X10_refuse ml_X10_81 zd_0 zc_X10 rfl (Zrr hR (by decide)) ⟨Nat.zero_le _, Nat.zero_le _⟩ hl.1 rfl rfl (Nat.le_of_ble_eq_true rfl) dX10_drain_46 (fun hrr15_ hzz13_ H locs hw => ?_)
          exact Yireti S hw hzz13_ hrr15_ hr hlk hF dX10_drain_49
      · replace hF := ZtN c8_ hF
        refine lv_aload_n S.1 S.2.1 dX10_drain_24 rfl (lv_at hl 0 rfl) ?_
        refine lv_bipush (v := i32 (-3)) S.1 S.2.1 dX10_drain_25 bp_m3 ?_
        obtain ⟨r18_, z16_, h17_, hF⟩ := Ybs hF
        refine YcallVi (rest := []) S hw (c_X10_refuse hdj hzz5_ r_m3 h17_) my_X10_refuse mi_X10_refuse ml_X10_81 zd_0 zc_X10 rfl (Zrr hR (by decide)) ⟨Nat.zero_le _, Nat.zero_le _⟩ hl.1 rfl rfl (Nat.le_of_ble_eq_true rfl) dX10_drain_27 (fun hrr18_ hzz16_ H locs hw => ?_)
        exact Yireti S hw hzz16_ hrr18_ hr hlk hF dX10_drain_30
    · replace hF := ZtP c4_ hF
      refine lv_aload_n S.1 S.2.1 dX10_drain_7 rfl (lv_at hl 0 rfl) ?_
      refine lv_iconst (v := i32 (-1)) S.1 S.2.1 dX10_drain_8 ic_m1 ?_
      obtain ⟨r21_, z19_, h20_, hF⟩ := Ybs hF
      refine YcallVi (rest := []) S hw (c_X10_refuse hdj hzz1_ r_m1 h20_) my_X10_refuse mi_X10_refuse ml_X10_81 zd_0 zc_X10 rfl (Zrr hR (by decide)) ⟨Nat.zero_le _, Nat.zero_le _⟩ hl.1 rfl rfl (Nat.le_of_ble_eq_true rfl) dX10_drain_9 (fun hrr21_ hzz19_ H locs hw => ?_)
      exact Yireti S hw hzz19_ hrr21_ hr hlk hF dX10_drain_12)
set_option maxRecDepth 100000 in
set_option maxHeartbeats 4000000 in
theorem c_J6_bitCount_0f7a4 {l : Launch} {D : va_G} {cA : Nat → ClassId} {ad : Nat → Nat} (hdj : Zdj ad) {z z1 : ZI} {x0 : Int} {r : Int} (hzz : Zok z) (hx0 : InR x0) (hF : F_J6_bitCount_0f7a4 z x0 = some (r, z1)) : YMi l D cA ad (0) yJ6_bitCount_0f7a4 cJ6_bitCount_0f7a4 1 (some .int) [.int (i32 x0)] z r z1 :=
  Zmet hdj (by decide) rfl (Nat.le_of_ble_eq_true rfl) (lv := [(0, .int (i32 (x0)))]) rfl (fun p e s m args below meth c ls S hr hlk hw hl => by
    have hR : 0 ≤ (Zrm (0)).frames ∧ 60 * (0) ≤ (Zrm (0)).locals := ⟨Nat.le_refl _, Nat.le_refl _⟩
    unfold F_J6_bitCount_0f7a4 at hF
    revert hR
    generalize Zrm (0) = R
    intro hR
    refine lv_iload_n S.1 S.2.1 dJ6_bitCount_0f7a4_0 rfl (lv_at hl 0 rfl) ?_
    refine lv_iload_n S.1 S.2.1 dJ6_bitCount_0f7a4_1 rfl (lv_at hl 0 rfl) ?_
    refine lv_iconst (v := i32 1) S.1 S.2.1 dJ6_bitCount_0f7a4_2 ic_1 ?_
    refine Yiushr S dJ6_bitCount_0f7a4_3 ?_
    refine lv_ldcw (own := RJ6) (v := i32 1431655765) S.1 S.2.1 S.2.2.2.1 (S.2.2.2.2 _ yc_J6_265) dJ6_bitCount_0f7a4_4 ?_
    refine Yiand S dJ6_bitCount_0f7a4_7 ?_
    obtain ⟨g1_, hF⟩ := Zgs hF
    refine Yisub S dJ6_bitCount_0f7a4_8 ?_
    refine lv_istore_n (lv' := [(0, .int (i32 (x0 - (jand (jushr x0 1) 1431655765))))]) S.1 S.2.1 dJ6_bitCount_0f7a4_9 rfl hl (by decide) rfl (fun ls hl => ?_)
    refine lv_iload_n S.1 S.2.1 dJ6_bitCount_0f7a4_10 rfl (lv_at hl 0 rfl) ?_
    refine lv_ldcw (own := RJ6) (v := i32 858993459) S.1 S.2.1 S.2.2.2.1 (S.2.2.2.2 _ yc_J6_266) dJ6_bitCount_0f7a4_11 ?_
    refine Yiand S dJ6_bitCount_0f7a4_14 ?_
    refine lv_iload_n S.1 S.2.1 dJ6_bitCount_0f7a4_15 rfl (lv_at hl 0 rfl) ?_
    refine lv_iconst (v := i32 2) S.1 S.2.1 dJ6_bitCount_0f7a4_16 ic_2 ?_
    refine Yiushr S dJ6_bitCount_0f7a4_17 ?_
    refine lv_ldcw (own := RJ6) (v := i32 858993459) S.1 S.2.1 S.2.2.2.1 (S.2.2.2.2 _ yc_J6_266) dJ6_bitCount_0f7a4_18 ?_
    refine Yiand S dJ6_bitCount_0f7a4_21 ?_
    obtain ⟨g2_, hF⟩ := Zgs hF
    refine Yiadd S dJ6_bitCount_0f7a4_22 ?_
    refine lv_istore_n (lv' := [(0, .int (i32 ((jand (x0 - (jand (jushr x0 1) 1431655765)) 858993459) + (jand (jushr (x0 - (jand (jushr x0 1) 1431655765)) 2) 858993459))))]) S.1 S.2.1 dJ6_bitCount_0f7a4_23 rfl hl (by decide) rfl (fun ls hl => ?_)
    refine lv_iload_n S.1 S.2.1 dJ6_bitCount_0f7a4_24 rfl (lv_at hl 0 rfl) ?_
    refine lv_iload_n S.1 S.2.1 dJ6_bitCount_0f7a4_25 rfl (lv_at hl 0 rfl) ?_
    refine lv_iconst (v := i32 4) S.1 S.2.1 dJ6_bitCount_0f7a4_26 ic_4 ?_
    refine Yiushr S dJ6_bitCount_0f7a4_27 ?_
    obtain ⟨g3_, hF⟩ := Zgs hF
    refine Yiadd S dJ6_bitCount_0f7a4_28 ?_
    refine lv_ldcw (own := RJ6) (v := i32 252645135) S.1 S.2.1 S.2.2.2.1 (S.2.2.2.2 _ yc_J6_267) dJ6_bitCount_0f7a4_29 ?_
    refine Yiand S dJ6_bitCount_0f7a4_32 ?_
    refine lv_istore_n (lv' := [(0, .int (i32 (jand (((jand (x0 - (jand (jushr x0 1) 1431655765)) 858993459) + (jand (jushr (x0 - (jand (jushr x0 1) 1431655765)) 2) 858993459)) + (jushr ((jand (x0 - (jand (jushr x0 1) 1431655765)) 858993459) + (jand (jushr (x0 - (jand (jushr x0 1) 1431655765)) 2) 858993459)) 4)) 252645135)))]) S.1 S.2.1 dJ6_bitCount_0f7a4_33 rfl hl (by decide) rfl (fun ls hl => ?_)
    refine lv_iload_n S.1 S.2.1 dJ6_bitCount_0f7a4_34 rfl (lv_at hl 0 rfl) ?_
    refine lv_iload_n S.1 S.2.1 dJ6_bitCount_0f7a4_35 rfl (lv_at hl 0 rfl) ?_
    refine lv_bipush (v := i32 8) S.1 S.2.1 dJ6_bitCount_0f7a4_36 bp_8 ?_
    refine Yiushr S dJ6_bitCount_0f7a4_38 ?_
    obtain ⟨g4_, hF⟩ := Zgs hF
    refine Yiadd S dJ6_bitCount_0f7a4_39 ?_
    refine lv_istore_n (lv' := [(0, .int (i32 ((jand (((jand (x0 - (jand (jushr x0 1) 1431655765)) 858993459) + (jand (jushr (x0 - (jand (jushr x0 1) 1431655765)) 2) 858993459)) + (jushr ((jand (x0 - (jand (jushr x0 1) 1431655765)) 858993459) + (jand (jushr (x0 - (jand (jushr x0 1) 1431655765)) 2) 858993459)) 4)) 252645135) + (jushr (jand (((jand (x0 - (jand (jushr x0 1) 1431655765)) 858993459) + (jand (jushr (x0 - (jand (jushr x0 1) 1431655765)) 2) 858993459)) + (jushr ((jand (x0 - (jand (jushr x0 1) 1431655765)) 858993459) + (jand (jushr (x0 - (jand (jushr x0 1) 1431655765)) 2) 858993459)) 4)) 252645135) 8))))]) S.1 S.2.1 dJ6_bitCount_0f7a4_40 rfl hl (by decide) rfl (fun ls hl => ?_)
    refine lv_iload_n S.1 S.2.1 dJ6_bitCount_0f7a4_41 rfl (lv_at hl 0 rfl) ?_
    refine lv_iload_n S.1 S.2.1 dJ6_bitCount_0f7a4_42 rfl (lv_at hl 0 rfl) ?_
    refine lv_bipush (v := i32 16) S.1 S.2.1 dJ6_bitCount_0f7a4_43 bp_16 ?_
    refine Yiushr S dJ6_bitCount_0f7a4_45 ?_
    obtain ⟨g5_, hF⟩ := Zgs hF
    refine Yiadd S dJ6_bitCount_0f7a4_46 ?_
    refine lv_istore_n (lv' := [(0, .int (i32 (((jand (((jand (x0 - (jand (jushr x0 1) 1431655765)) 858993459) + (jand (jushr (x0 - (jand (jushr x0 1) 1431655765)) 2) 858993459)) + (jushr ((jand (x0 - (jand (jushr x0 1) 1431655765)) 858993459) + (jand (jushr (x0 - (jand (jushr x0 1) 1431655765)) 2) 858993459)) 4)) 252645135) + (jushr (jand (((jand (x0 - (jand (jushr x0 1) 1431655765)) 858993459) + (jand (jushr (x0 - (jand (jushr x0 1) 1431655765)) 2) 858993459)) + (jushr ((jand (x0 - (jand (jushr x0 1) 1431655765)) 858993459) + (jand (jushr (x0 - (jand (jushr x0 1) 1431655765)) 2) 858993459)) 4)) 252645135) 8)) + (jushr ((jand (((jand (x0 - (jand (jushr x0 1) 1431655765)) 858993459) + (jand (jushr (x0 - (jand (jushr x0 1) 1431655765)) 2) 858993459)) + (jushr ((jand (x0 - (jand (jushr x0 1) 1431655765)) 858993459) + (jand (jushr (x0 - (jand (jushr x0 1) 1431655765)) 2) 858993459)) 4)) 252645135) + (jushr (jand (((jand (x0 - (jand (jushr x0 1) 1431655765)) 858993459) + (jand (jushr (x0 - (jand (jushr x0 1) 1431655765)) 2) 858993459)) + (jushr ((jand (x0 - (jand (jushr x0 1) 1431655765)) 858993459) + (jand (jushr (x0 - (jand (jushr x0 1) 1431655765)) 2) 858993459)) 4)) 252645135) 8)) 16))))]) S.1 S.2.1 dJ6_bitCount_0f7a4_47 rfl hl (by decide) rfl (fun ls hl => ?_)
    refine lv_iload_n S.1 S.2.1 dJ6_bitCount_0f7a4_48 rfl (lv_at hl 0 rfl) ?_
    refine lv_bipush (v := i32 63) S.1 S.2.1 dJ6_bitCount_0f7a4_49 bp_63 ?_
    refine Yiand S dJ6_bitCount_0f7a4_51 ?_
    exact Yireti S hw hzz (InR_of _) hr hlk hF dJ6_bitCount_0f7a4_52)
set_option maxRecDepth 100000 in
set_option maxHeartbeats 4000000 in
theorem c_X4_isFoul {l : Launch} {D : va_G} {cA : Nat → ClassId} {ad : Nat → Nat} (hdj : Zdj ad) {z z1 : ZI} {x1 : Int} {r : Int} (hzz : Zok z) (hx1 : InR x1) (hF : F_X4_isFoul z x1 = some (r, z1)) : YMi l D cA ad (0) yX4_isFoul cX4_isFoul 2 (some .boolean) [.ref (ad 2), .int (i32 x1)] z r z1 :=
  Zmet hdj (by decide) rfl (Nat.le_of_ble_eq_true rfl) (lv := [(0, .ref (ad 2)), (1, .int (i32 (x1)))]) rfl (fun p e s m args below meth c ls S hr hlk hw hl => by
    have hR : 0 ≤ (Zrm (0)).frames ∧ 60 * (0) ≤ (Zrm (0)).locals := ⟨Nat.le_refl _, Nat.le_refl _⟩
    unfold F_X4_isFoul at hF
    revert hR
    generalize Zrm (0) = R
    intro hR
    refine lv_aload_n S.1 S.2.1 dX4_isFoul_0 rfl (lv_at hl 0 rfl) ?_
    refine gf_X4_39 S hw dX4_isFoul_1 ?_
    refine lv_iload_n S.1 S.2.1 dX4_isFoul_4 rfl (lv_at hl 1 rfl) ?_
    obtain ⟨b1_, hF⟩ := Zgs hF
    refine Yzald S hw zd_10 (by decide) hx1 b1_ dX4_isFoul_5 ?_
    obtain ⟨b2_, hF⟩ := Zgs hF
    exact Yiretz S hw hzz (hzz.1 _ _ (by decide)) hr hlk b2_ hF dX4_isFoul_6)
set_option maxRecDepth 100000 in
set_option maxHeartbeats 4000000 in
theorem w_X4_level_L100 {RR : Unit × ZI} (S : CallFix p m c cX4_level 2 s args Ztbl RX4) (hr : meth.sig.returnType = none) (hlk : meth.locks = false) (hR : 2 ≤ R.frames ∧ 60 * (2) ≤ R.locals) (hdj : Zdj ad) : ∀ (n : Nat) (z : ZI) (x1 : Int) (H : Heap) (locs : List Loc) (ls : Array Slot), X4_level_L100 n z x1 = some RR → ZW D cA ad (ZA ad) (Zc z) s H locs → Zok z → InR x1 → lv_has ls 2 [(0, .ref (ad 2)), (1, .int (i32 (x1)))] → W p l e R s m args below meth c H locs 0 0 (MQ below (YQv D cA ad RR.2) args s 0 0 (ZA ad)) (F0 m 100 ls []) := by
  intro n
  induction n with
  | zero => intro z x1 H locs ls hF; exact nomatch hF
  | succ n hk100 =>
    intro z x1 H locs ls hF hw hzz hx1 hl
    replace hF : X4_level_L100b (X4_level_L100 n) z x1 = some RR := hF
    unfold X4_level_L100b at hF
    refine lv_iload_n S.1 S.2.1 dX4_level_100 rfl (lv_at hl 1 rfl) ?_
    refine lv_sipush (v := i32 144) S.1 S.2.1 dX4_level_101 sp_144 ?_
    refine Yicmp_ge (tgt := 135) S hx1 r_144 dX4_level_104 (by decide) (fun c1_ => ?_) (fun c1_ => ?_)
    · replace hF := ZtP c1_ hF
      refine lv_aload_n S.1 S.2.1 dX4_level_135 rfl (lv_at hl 0 rfl) ?_
      refine lv_iconst (v := i32 1) S.1 S.2.1 dX4_level_136 ic_1 ?_
      refine pp_X4_49 S hw hzz r_1 (Or.inr rfl) dX4_level_137 (fun z2_ H locs ez hzz2_ hw => ?_)
      replace hF := Zle ez hF; clear ez
      exact Yvret S hw hzz2_ hr hlk hF dX4_level_140
    · replace hF := ZtN c1_ hF
      refine lv_aload_n S.1 S.2.1 dX4_level_107 rfl (lv_at hl 0 rfl) ?_
      refine gf_X4_30 S hw dX4_level_108 ?_
      refine lv_aload_n S.1 S.2.1 dX4_level_111 rfl (lv_at hl 0 rfl) ?_
      refine gf_X4_33 S hw dX4_level_112 ?_
      refine lv_aload_n S.1 S.2.1 dX4_level_115 rfl (lv_at hl 0 rfl) ?_
      refine gf_X4_9 S hw dX4_level_116 ?_
      refine lv_iload_n S.1 S.2.1 dX4_level_119 rfl (lv_at hl 1 rfl) ?_
      obtain ⟨b3_, hF⟩ := Zgs hF
      refine Yiald S hw zd_3 (by decide) hx1 b3_ dX4_level_120 ?_
      refine lv_dup2_11 S.1 S.2.1 dX4_level_121 rfl rfl ?_
      obtain ⟨b4_, hF⟩ := Zgs hF
      refine Yiald S hw zd_8 (by decide) (hzz.1 _ _ (by decide)) b4_ dX4_level_122 ?_
      refine lv_dup_x2 S.1 S.2.1 dX4_level_123 rfl rfl rfl ?_
      refine lv_iconst (v := i32 1) S.1 S.2.1 dX4_level_124 ic_1 ?_
      obtain ⟨g5_, hF⟩ := Zgs hF
      refine Yiadd S dX4_level_125 ?_
      obtain ⟨b6_, hF⟩ := Zgs hF
      refine Yiast S hw hzz zd_8 (by decide) (hzz.1 _ _ (by decide)) g5_ b6_ dX4_level_126 (fun z7_ H locs ez hzz7_ hw => ?_)
      replace hF := Zle ez hF; clear ez
      refine lv_iload_n S.1 S.2.1 dX4_level_127 rfl (lv_at hl 1 rfl) ?_
      obtain ⟨b8_, hF⟩ := Zgs hF
      refine Yiast S hw hzz7_ zd_7 (by decide) (hzz.1 _ _ (by decide)) hx1 b8_ dX4_level_128 (fun z9_ H locs ez hzz9_ hw => ?_)
      replace hF := Zle ez hF; clear ez
      obtain ⟨g10_, hF⟩ := Zgs hF
      refine lv_iinc (v := i32 (x1 + 1)) (lv' := [(1, .int (i32 (x1 + 1))), (0, .ref (ad 2))]) S.1 S.2.1 dX4_level_129 hl (k := 1) rfl Yiinc (by decide) rfl (fun ls hl => ?_)
      refine lv_goto (tgt := 100) S.1 S.2.1 dX4_level_132 (by decide) ?_
      exact hk100 _ _ _ _ _ hF hw hzz9_ g10_ (lv_sub hl [1, 0] rfl)
set_option maxRecDepth 100000 in
set_option maxHeartbeats 4000000 in
theorem w_X4_level_b98 {RR : Unit × ZI} (S : CallFix p m c cX4_level 2 s args Ztbl RX4) (hr : meth.sig.returnType = none) (hlk : meth.locks = false) (hR : 2 ≤ R.frames ∧ 60 * (2) ≤ R.locals) (hdj : Zdj ad) : ∀ (z : ZI) (H : Heap) (locs : List Loc) (ls : Array Slot), X4_level_b98 z  = some RR → ZW D cA ad (ZA ad) (Zc z) s H locs → Zok z → lv_has ls 2 [(0, .ref (ad 2))] → W p l e R s m args below meth c H locs 0 0 (MQ below (YQv D cA ad RR.2) args s 0 0 (ZA ad)) (F0 m 98 ls []) := by
  intro z  H locs ls hF hw hzz  hl
  unfold X4_level_b98 at hF
  refine lv_iconst (v := i32 0) S.1 S.2.1 dX4_level_98 ic_0 ?_
  refine lv_istore_n (lv' := [(1, .int (i32 (0))), (0, .ref (ad 2))]) S.1 S.2.1 dX4_level_99 rfl hl (by decide) rfl (fun ls hl => ?_)
  exact w_X4_level_L100 S hr hlk hR hdj Zfuel _ _ _ _ _ hF hw hzz r_0 (lv_sub hl [1, 0] rfl)
set_option maxRecDepth 100000 in
set_option maxHeartbeats 4000000 in
theorem w_X4_level_L71 {RR : Unit × ZI} (S : CallFix p m c cX4_level 2 s args Ztbl RX4) (hr : meth.sig.returnType = none) (hlk : meth.locks = false) (hR : 2 ≤ R.frames ∧ 60 * (2) ≤ R.locals) (hdj : Zdj ad) : ∀ (n : Nat) (z : ZI) (x1 : Int) (H : Heap) (locs : List Loc) (ls : Array Slot), X4_level_L71 n z x1 = some RR → ZW D cA ad (ZA ad) (Zc z) s H locs → Zok z → InR x1 → lv_has ls 2 [(0, .ref (ad 2)), (1, .int (i32 (x1)))] → W p l e R s m args below meth c H locs 0 0 (MQ below (YQv D cA ad RR.2) args s 0 0 (ZA ad)) (F0 m 71 ls []) := by
  intro n
  induction n with
  | zero => intro z x1 H locs ls hF; exact nomatch hF
  | succ n hk71 =>
    intro z x1 H locs ls hF hw hzz hx1 hl
    replace hF : X4_level_L71b (X4_level_L71 n) z x1 = some RR := hF
    unfold X4_level_L71b at hF
    refine lv_iload_n S.1 S.2.1 dX4_level_71 rfl (lv_at hl 1 rfl) ?_
    refine Yif_lt (tgt := 98) S hx1 dX4_level_72 (by decide) (fun c1_ => ?_) (fun c1_ => ?_)
    · replace hF := ZtP c1_ hF
      exact w_X4_level_b98 S hr hlk hR hdj _ _ _ _ hF hw hzz  (lv_sub hl [0] rfl)
    · replace hF := ZtN c1_ hF
      refine lv_aload_n S.1 S.2.1 dX4_level_75 rfl (lv_at hl 0 rfl) ?_
      refine gf_X4_33 S hw dX4_level_76 ?_
      refine lv_iload_n S.1 S.2.1 dX4_level_79 rfl (lv_at hl 1 rfl) ?_
      refine lv_dup2_11 S.1 S.2.1 dX4_level_80 rfl rfl ?_
      obtain ⟨b2_, hF⟩ := Zgs hF
      refine Yiald S hw zd_8 (by decide) hx1 b2_ dX4_level_81 ?_
      refine lv_aload_n S.1 S.2.1 dX4_level_82 rfl (lv_at hl 0 rfl) ?_
      refine gf_X4_33 S hw dX4_level_83 ?_
      refine lv_iload_n S.1 S.2.1 dX4_level_86 rfl (lv_at hl 1 rfl) ?_
      refine lv_iconst (v := i32 1) S.1 S.2.1 dX4_level_87 ic_1 ?_
      obtain ⟨g3_, hF⟩ := Zgs hF
      refine Yiadd S dX4_level_88 ?_
      obtain ⟨b4_, hF⟩ := Zgs hF
      refine Yiald S hw zd_8 (by decide) g3_ b4_ dX4_level_89 ?_
      obtain ⟨g5_, hF⟩ := Zgs hF
      refine Yiadd S dX4_level_90 ?_
      obtain ⟨b6_, hF⟩ := Zgs hF
      refine Yiast S hw hzz zd_8 (by decide) hx1 g5_ b6_ dX4_level_91 (fun z7_ H locs ez hzz7_ hw => ?_)
      replace hF := Zle ez hF; clear ez
      obtain ⟨g8_, hF⟩ := Zgs hF
      refine lv_iinc (v := i32 (x1 + (-1))) (lv' := [(1, .int (i32 (x1 + (-1)))), (0, .ref (ad 2))]) S.1 S.2.1 dX4_level_92 hl (k := 1) rfl Yiinc (by decide) rfl (fun ls hl => ?_)
      refine lv_goto (tgt := 71) S.1 S.2.1 dX4_level_95 (by decide) ?_
      exact hk71 _ _ _ _ _ hF hw hzz7_ g8_ (lv_sub hl [1, 0] rfl)
set_option maxRecDepth 100000 in
set_option maxHeartbeats 4000000 in
theorem w_X4_level_b68 {RR : Unit × ZI} (S : CallFix p m c cX4_level 2 s args Ztbl RX4) (hr : meth.sig.returnType = none) (hlk : meth.locks = false) (hR : 2 ≤ R.frames ∧ 60 * (2) ≤ R.locals) (hdj : Zdj ad) : ∀ (z : ZI) (H : Heap) (locs : List Loc) (ls : Array Slot), X4_level_b68 z  = some RR → ZW D cA ad (ZA ad) (Zc z) s H locs → Zok z → lv_has ls 2 [(0, .ref (ad 2))] → W p l e R s m args below meth c H locs 0 0 (MQ below (YQv D cA ad RR.2) args s 0 0 (ZA ad)) (F0 m 68 ls []) := by
  intro z  H locs ls hF hw hzz  hl
  unfold X4_level_b68 at hF
  refine lv_bipush (v := i32 98) S.1 S.2.1 dX4_level_68 bp_98 ?_
  refine lv_istore_n (lv' := [(1, .int (i32 (98))), (0, .ref (ad 2))]) S.1 S.2.1 dX4_level_70 rfl hl (by decide) rfl (fun ls hl => ?_)
  exact w_X4_level_L71 S hr hlk hR hdj Zfuel _ _ _ _ _ hF hw hzz r_98 (lv_sub hl [1, 0] rfl)
set_option maxRecDepth 100000 in
set_option maxHeartbeats 4000000 in
theorem w_X4_level_b62 {RR : Unit × ZI} (S : CallFix p m c cX4_level 2 s args Ztbl RX4) (hr : meth.sig.returnType = none) (hlk : meth.locks = false) (hR : 2 ≤ R.frames ∧ 60 * (2) ≤ R.locals) (hdj : Zdj ad) {k18 : ZI → Int → Option (Unit × ZI)} (hk18 : ∀ (z : ZI) (x1 : Int) (H : Heap) (locs : List Loc) (ls : Array Slot), k18 z x1 = some RR → ZW D cA ad (ZA ad) (Zc z) s H locs → Zok z → InR x1 → lv_has ls 2 [(0, .ref (ad 2)), (1, .int (i32 (x1)))] → W p l e R s m args below meth c H locs 0 0 (MQ below (YQv D cA ad RR.2) args s 0 0 (ZA ad)) (F0 m 18 ls [])) : ∀ (z : ZI) (x1 : Int) (H : Heap) (locs : List Loc) (ls : Array Slot), X4_level_b62 k18 z x1 = some RR → ZW D cA ad (ZA ad) (Zc z) s H locs → Zok z → InR x1 → lv_has ls 2 [(0, .ref (ad 2)), (1, .int (i32 (x1)))] → W p l e R s m args below meth c H locs 0 0 (MQ below (YQv D cA ad RR.2) args s 0 0 (ZA ad)) (F0 m 62 ls []) := by
  intro z x1 H locs ls hF hw hzz hx1 hl
  unfold X4_level_b62 at hF
  obtain ⟨g1_, hF⟩ := Zgs hF
  refine lv_iinc (v := i32 (x1 + 1)) (lv' := [(1, .int (i32 (x1 + 1))), (0, .ref (ad 2))]) S.1 S.2.1 dX4_level_62 hl (k := 1) rfl Yiinc (by decide) rfl (fun ls hl => ?_)
  refine lv_goto (tgt := 18) S.1 S.2.1 dX4_level_65 (by decide) ?_
  exact hk18 _ _ _ _ _ hF hw hzz g1_ (lv_sub hl [1, 0] rfl)
set_option maxRecDepth 100000 in
set_option maxHeartbeats 4000000 in
theorem w_X4_level_L18 {RR : Unit × ZI} (S : CallFix p m c cX4_level 2 s args Ztbl RX4) (hr : meth.sig.returnType = none) (hlk : meth.locks = false) (hR : 2 ≤ R.frames ∧ 60 * (2) ≤ R.locals) (hdj : Zdj ad) : ∀ (n : Nat) (z : ZI) (x1 : Int) (H : Heap) (locs : List Loc) (ls : Array Slot), X4_level_L18 n z x1 = some RR → ZW D cA ad (ZA ad) (Zc z) s H locs → Zok z → InR x1 → lv_has ls 2 [(0, .ref (ad 2)), (1, .int (i32 (x1)))] → W p l e R s m args below meth c H locs 0 0 (MQ below (YQv D cA ad RR.2) args s 0 0 (ZA ad)) (F0 m 18 ls []) := by
  intro n
  induction n with
  | zero => intro z x1 H locs ls hF; exact nomatch hF
  | succ n hk18 =>
    intro z x1 H locs ls hF hw hzz hx1 hl
    replace hF : X4_level_L18b (X4_level_L18 n) z x1 = some RR := hF
    unfold X4_level_L18b at hF
    refine lv_iload_n S.1 S.2.1 dX4_level_18 rfl (lv_at hl 1 rfl) ?_
    refine lv_sipush (v := i32 144) S.1 S.2.1 dX4_level_19 sp_144 ?_
    refine Yicmp_ge (tgt := 68) S hx1 r_144 dX4_level_22 (by decide) (fun c1_ => ?_) (fun c1_ => ?_)
    · replace hF := ZtP c1_ hF
      exact w_X4_level_b68 S hr hlk hR hdj _ _ _ _ hF hw hzz  (lv_sub hl [0] rfl)
    · replace hF := ZtN c1_ hF
      refine lv_aload_n S.1 S.2.1 dX4_level_25 rfl (lv_at hl 0 rfl) ?_
      refine gf_X4_27 S hw dX4_level_26 ?_
      refine lv_iload_n S.1 S.2.1 dX4_level_29 rfl (lv_at hl 1 rfl) ?_
      refine lv_aload_n S.1 S.2.1 dX4_level_30 rfl (lv_at hl 0 rfl) ?_
      refine lv_iload_n S.1 S.2.1 dX4_level_31 rfl (lv_at hl 1 rfl) ?_
      obtain ⟨r4_, z2_, h3_, hF⟩ := Ybs hF
      refine YcallVi (rest := [.int (i32 (x1)), .ref (ad 6)]) S hw (c_X4_lowestBeside hdj hzz hx1 h3_) my_X4_lowestBeside mi_X4_lowestBeside ml_X4_71 zd_2 zc_X4 rfl (Zrr hR (by decide)) ⟨Nat.zero_le _, Nat.zero_le _⟩ hl.1 rfl rfl (Nat.le_of_ble_eq_true rfl) dX4_level_32 (fun hrr4_ hzz2_ H locs hw => ?_)
      obtain ⟨b5_, hF⟩ := Zgs hF
      refine Yiast S hw hzz2_ zd_6 (by decide) hx1 hrr4_ b5_ dX4_level_35 (fun z6_ H locs ez hzz6_ hw => ?_)
      replace hF := Zle ez hF; clear ez
      refine lv_aload_n S.1 S.2.1 dX4_level_36 rfl (lv_at hl 0 rfl) ?_
      refine gf_X4_9 S hw dX4_level_37 ?_
      refine lv_iload_n S.1 S.2.1 dX4_level_40 rfl (lv_at hl 1 rfl) ?_
      obtain ⟨b7_, hF⟩ := Zgs hF
      refine Yiald S hw zd_3 (by decide) hx1 b7_ dX4_level_41 ?_
      refine Yif_le (tgt := 62) S (hzz6_.1 _ _ (by decide)) dX4_level_42 (by decide) (fun c8_ => ?_) (fun c8_ => ?_)
      · replace hF := ZtP c8_ hF
        exact w_X4_level_b62 S hr hlk hR hdj hk18 _ _ _ _ _ hF hw hzz6_ hx1 (lv_sub hl [0, 1] rfl)
      · replace hF := ZtN c8_ hF
        refine lv_aload_n S.1 S.2.1 dX4_level_45 rfl (lv_at hl 0 rfl) ?_
        refine gf_X4_33 S hw dX4_level_46 ?_
        refine lv_aload_n S.1 S.2.1 dX4_level_49 rfl (lv_at hl 0 rfl) ?_
        refine gf_X4_9 S hw dX4_level_50 ?_
        refine lv_iload_n S.1 S.2.1 dX4_level_53 rfl (lv_at hl 1 rfl) ?_
        obtain ⟨b9_, hF⟩ := Zgs hF
        refine Yiald S hw zd_3 (by decide) hx1 b9_ dX4_level_54 ?_
        refine lv_iconst (v := i32 1) S.1 S.2.1 dX4_level_55 ic_1 ?_
        obtain ⟨g10_, hF⟩ := Zgs hF
        refine Yisub S dX4_level_56 ?_
        refine lv_dup2_11 S.1 S.2.1 dX4_level_57 rfl rfl ?_
        obtain ⟨b11_, hF⟩ := Zgs hF
        refine Yiald S hw zd_8 (by decide) g10_ b11_ dX4_level_58 ?_
        refine lv_iconst (v := i32 1) S.1 S.2.1 dX4_level_59 ic_1 ?_
        obtain ⟨g12_, hF⟩ := Zgs hF
        refine Yiadd S dX4_level_60 ?_
        obtain ⟨b13_, hF⟩ := Zgs hF
        refine Yiast S hw hzz6_ zd_8 (by decide) g10_ g12_ b13_ dX4_level_61 (fun z14_ H locs ez hzz14_ hw => ?_)
        replace hF := Zle ez hF; clear ez
        exact w_X4_level_b62 S hr hlk hR hdj hk18 _ _ _ _ _ hF hw hzz14_ hx1 (lv_sub hl [0, 1] rfl)
set_option maxRecDepth 100000 in
set_option maxHeartbeats 4000000 in
theorem c_X4_level {l : Launch} {D : va_G} {cA : Nat → ClassId} {ad : Nat → Nat} (hdj : Zdj ad) {z z1 : ZI} (hzz : Zok z) (hF : F_X4_level z  = some ((), z1)) : YMv l D cA ad (2) yX4_level cX4_level 2 [.ref (ad 2)] z z1 :=
  Zmet hdj (by decide) rfl (Nat.le_of_ble_eq_true rfl) (lv := [(0, .ref (ad 2))]) rfl (fun p e s m args below meth c ls S hr hlk hw hl => by
    have hR : 2 ≤ (Zrm (2)).frames ∧ 60 * (2) ≤ (Zrm (2)).locals := ⟨Nat.le_refl _, Nat.le_refl _⟩
    unfold F_X4_level at hF
    revert hR
    generalize Zrm (2) = R
    intro hR
    refine lv_aload_n S.1 S.2.1 dX4_level_0 rfl (lv_at hl 0 rfl) ?_
    refine gg_X4_49 S hw dX4_level_1 ?_
    refine Yif_eq (tgt := 8) S (hzz.1 2 8 (by decide)) dX4_level_4 (by decide) (fun c1_ => ?_) (fun c1_ => ?_)
    · replace hF := ZtP c1_ hF
      refine lv_aload_n S.1 S.2.1 dX4_level_8 rfl (lv_at hl 0 rfl) ?_
      refine gf_X4_33 S hw dX4_level_9 ?_
      refine lv_iconst (v := i32 0) S.1 S.2.1 dX4_level_12 ic_0 ?_
      obtain ⟨r4_, z2_, h3_, hF⟩ := Ybs hF
      refine YcallSv (rest := []) S hw (c_J7_fill_53178 hdj zd_8 (by decide) (by decide) hzz r_0 h3_) my_J7_fill_53178 ms_J7_fill_53178 ml_X4_15 (Zrr hR (by decide)) ⟨Nat.zero_le _, Nat.zero_le _⟩ hl.1 rfl rfl (Nat.le_of_ble_eq_true rfl) dX4_level_13 (fun hzz2_ H locs hw => ?_)
      refine lv_iconst (v := i32 0) S.1 S.2.1 dX4_level_16 ic_0 ?_
      refine lv_istore_n (lv' := [(1, .int (i32 (0))), (0, .ref (ad 2))]) S.1 S.2.1 dX4_level_17 rfl hl (by decide) rfl (fun ls hl => ?_)
      exact w_X4_level_L18 S hr hlk hR hdj Zfuel _ _ _ _ _ hF hw hzz2_ r_0 (lv_sub hl [1, 0] rfl)
    · replace hF := ZtN c1_ hF
      exact Yvret S hw hzz hr hlk hF dX4_level_7)
set_option maxRecDepth 100000 in
set_option maxHeartbeats 4000000 in
theorem w_X4_pass_b81 {RR : Unit × ZI} (S : CallFix p m c cX4_pass 3 s args Ztbl RX4) (hr : meth.sig.returnType = none) (hlk : meth.locks = false) (hR : 0 ≤ R.frames ∧ 60 * (0) ≤ R.locals) (hdj : Zdj ad) : ∀ (z : ZI) (H : Heap) (locs : List Loc) (ls : Array Slot), X4_pass_b81 z  = some RR → ZW D cA ad (ZA ad) (Zc z) s H locs → Zok z → lv_has ls 3 [] → W p l e R s m args below meth c H locs 0 0 (MQ below (YQv D cA ad RR.2) args s 0 0 (ZA ad)) (F0 m 81 ls []) := by
  intro z  H locs ls hF hw hzz  hl
  unfold X4_pass_b81 at hF
  exact Yvret S hw hzz hr hlk hF dX4_pass_81
set_option maxRecDepth 100000 in
set_option maxHeartbeats 4000000 in
theorem w_X4_pass_b80 {RR : Unit × ZI} (S : CallFix p m c cX4_pass 3 s args Ztbl RX4) (hr : meth.sig.returnType = none) (hlk : meth.locks = false) (hR : 0 ≤ R.frames ∧ 60 * (0) ≤ R.locals) (hdj : Zdj ad) : ∀ (z : ZI) (y1 : Int) (y2 : Int) (H : Heap) (locs : List Loc) (ls : Array Slot), X4_pass_b80 z y1 y2 = some RR → ZW D cA ad (ZA ad) (Zc z) s H locs → Zok z → InR y1 → InR y2 → lv_has ls 3 [] → W p l e R s m args below meth c H locs 0 0 (MQ below (YQv D cA ad RR.2) args s 0 0 (ZA ad)) (F0 m 80 ls [.int (i32 (y2)), .int (i32 (y1)), .ref (ad 10)]) := by
  intro z y1 y2 H locs ls hF hw hzz hy1 hy2 hl
  unfold X4_pass_b80 at hF
  obtain ⟨b3_, hF⟩ := Zgs hF
  obtain ⟨b1_, hF⟩ := Zgs hF
  refine Yzast S hw hzz zd_10 (by decide) hy1 hy2 b3_ b1_ dX4_pass_80 (fun z2_ H locs ez hzz2_ hw => ?_)
  replace hF := Zle ez hF; clear ez
  exact w_X4_pass_b81 S hr hlk hR hdj _ _ _ _ hF hw hzz2_  (lv_sub hl [] rfl)
set_option maxRecDepth 100000 in
set_option maxHeartbeats 4000000 in
theorem w_X4_pass_b75 {RR : Unit × ZI} (S : CallFix p m c cX4_pass 3 s args Ztbl RX4) (hr : meth.sig.returnType = none) (hlk : meth.locks = false) (hR : 0 ≤ R.frames ∧ 60 * (0) ≤ R.locals) (hdj : Zdj ad) : ∀ (z : ZI) (y1 : Int) (H : Heap) (locs : List Loc) (ls : Array Slot), X4_pass_b75 z y1 = some RR → ZW D cA ad (ZA ad) (Zc z) s H locs → Zok z → InR y1 → lv_has ls 3 [] → W p l e R s m args below meth c H locs 0 0 (MQ below (YQv D cA ad RR.2) args s 0 0 (ZA ad)) (F0 m 75 ls [.int (i32 (y1)), .ref (ad 10)]) := by
  intro z y1 H locs ls hF hw hzz hy1 hl
  unfold X4_pass_b75 at hF
  refine lv_iconst (v := i32 1) S.1 S.2.1 dX4_pass_75 ic_1 ?_
  refine lv_goto (tgt := 80) S.1 S.2.1 dX4_pass_76 (by decide) ?_
  exact w_X4_pass_b80 S hr hlk hR hdj _ _ _ _ _ _ hF hw hzz hy1 r_1 (lv_sub hl [] rfl)
set_option maxRecDepth 100000 in
set_option maxHeartbeats 4000000 in
theorem w_X4_pass_b31 {RR : Unit × ZI} (S : CallFix p m c cX4_pass 3 s args Ztbl RX4) (hr : meth.sig.returnType = none) (hlk : meth.locks = false) (hR : 0 ≤ R.frames ∧ 60 * (0) ≤ R.locals) (hdj : Zdj ad) : ∀ (z : ZI) (x1 : Int) (x2 : Int) (H : Heap) (locs : List Loc) (ls : Array Slot), X4_pass_b31 z x1 x2 = some RR → ZW D cA ad (ZA ad) (Zc z) s H locs → Zok z → InR x1 → InR x2 → lv_has ls 3 [(0, .ref (ad 2)), (1, .int (i32 (x1))), (2, .int (i32 (x2)))] → W p l e R s m args below meth c H locs 0 0 (MQ below (YQv D cA ad RR.2) args s 0 0 (ZA ad)) (F0 m 31 ls []) := by
  intro z x1 x2 H locs ls hF hw hzz hx1 hx2 hl
  unfold X4_pass_b31 at hF
  refine lv_iload_n S.1 S.2.1 dX4_pass_31 rfl (lv_at hl 2 rfl) ?_
  refine lv_bipush (v := i32 (-9)) S.1 S.2.1 dX4_pass_32 bp_m9 ?_
  refine Yicmp_eq (tgt := 81) S hx2 r_m9 dX4_pass_34 (by decide) (fun c1_ => ?_) (fun c1_ => ?_)
  · replace hF := ZtP c1_ hF
    exact w_X4_pass_b81 S hr hlk hR hdj _ _ _ _ hF hw hzz  (lv_sub hl [] rfl)
  · replace hF := ZtN c1_ hF
    refine lv_aload_n S.1 S.2.1 dX4_pass_37 rfl (lv_at hl 0 rfl) ?_
    refine gf_X4_36 S hw dX4_pass_38 ?_
    refine lv_iload_n S.1 S.2.1 dX4_pass_41 rfl (lv_at hl 2 rfl) ?_
    refine lv_dup2_11 S.1 S.2.1 dX4_pass_42 rfl rfl ?_
    obtain ⟨b2_, hF⟩ := Zgs hF
    refine Yiald S hw zd_9 (by decide) hx2 b2_ dX4_pass_43 ?_
    refine lv_aload_n S.1 S.2.1 dX4_pass_44 rfl (lv_at hl 0 rfl) ?_
    refine gf_X4_36 S hw dX4_pass_45 ?_
    refine lv_iload_n S.1 S.2.1 dX4_pass_48 rfl (lv_at hl 1 rfl) ?_
    obtain ⟨b3_, hF⟩ := Zgs hF
    refine Yiald S hw zd_9 (by decide) hx1 b3_ dX4_pass_49 ?_
    obtain ⟨g4_, hF⟩ := Zgs hF
    refine Yiadd S dX4_pass_50 ?_
    obtain ⟨b5_, hF⟩ := Zgs hF
    refine Yiast S hw hzz zd_9 (by decide) hx2 g4_ b5_ dX4_pass_51 (fun z6_ H locs ez hzz6_ hw => ?_)
    replace hF := Zle ez hF; clear ez
    refine lv_aload_n S.1 S.2.1 dX4_pass_52 rfl (lv_at hl 0 rfl) ?_
    refine gf_X4_39 S hw dX4_pass_53 ?_
    refine lv_iload_n S.1 S.2.1 dX4_pass_56 rfl (lv_at hl 2 rfl) ?_
    refine lv_aload_n S.1 S.2.1 dX4_pass_57 rfl (lv_at hl 0 rfl) ?_
    refine gf_X4_39 S hw dX4_pass_58 ?_
    refine lv_iload_n S.1 S.2.1 dX4_pass_61 rfl (lv_at hl 2 rfl) ?_
    obtain ⟨b7_, hF⟩ := Zgs hF
    refine Yzald S hw zd_10 (by decide) hx2 b7_ dX4_pass_62 ?_
    refine Yif_ne (tgt := 75) S (hzz6_.1 _ _ (by decide)) dX4_pass_63 (by decide) (fun c8_ => ?_) (fun c8_ => ?_)
    · replace hF := ZtN c8_ hF
      exact w_X4_pass_b75 S hr hlk hR hdj _ _ _ _ _ hF hw hzz6_ hx2 (lv_sub hl [] rfl)
    · replace hF := ZtP c8_ hF
      refine lv_aload_n S.1 S.2.1 dX4_pass_66 rfl (lv_at hl 0 rfl) ?_
      refine gf_X4_39 S hw dX4_pass_67 ?_
      refine lv_iload_n S.1 S.2.1 dX4_pass_70 rfl (lv_at hl 1 rfl) ?_
      obtain ⟨b9_, hF⟩ := Zgs hF
      refine Yzald S hw zd_10 (by decide) hx1 b9_ dX4_pass_71 ?_
      refine Yif_eq (tgt := 79) S (hzz6_.1 _ _ (by decide)) dX4_pass_72 (by decide) (fun c10_ => ?_) (fun c10_ => ?_)
      · replace hF := ZtP c10_ hF
        refine lv_iconst (v := i32 0) S.1 S.2.1 dX4_pass_79 ic_0 ?_
        exact w_X4_pass_b80 S hr hlk hR hdj _ _ _ _ _ _ hF hw hzz6_ hx2 r_0 (lv_sub hl [] rfl)
      · replace hF := ZtN c10_ hF
        exact w_X4_pass_b75 S hr hlk hR hdj _ _ _ _ _ hF hw hzz6_ hx2 (lv_sub hl [] rfl)
set_option maxRecDepth 100000 in
set_option maxHeartbeats 4000000 in
theorem c_X4_pass {l : Launch} {D : va_G} {cA : Nat → ClassId} {ad : Nat → Nat} (hdj : Zdj ad) {z z1 : ZI} {x1 : Int} {x2 : Int} (hzz : Zok z) (hx1 : InR x1) (hx2 : InR x2) (hF : F_X4_pass z x1 x2 = some ((), z1)) : YMv l D cA ad (0) yX4_pass cX4_pass 3 [.ref (ad 2), .int (i32 x1), .int (i32 x2)] z z1 :=
  Zmet hdj (by decide) rfl (Nat.le_of_ble_eq_true rfl) (lv := [(0, .ref (ad 2)), (1, .int (i32 (x1))), (2, .int (i32 (x2)))]) rfl (fun p e s m args below meth c ls S hr hlk hw hl => by
    have hR : 0 ≤ (Zrm (0)).frames ∧ 60 * (0) ≤ (Zrm (0)).locals := ⟨Nat.le_refl _, Nat.le_refl _⟩
    unfold F_X4_pass at hF
    revert hR
    generalize Zrm (0) = R
    intro hR
    refine lv_aload_n S.1 S.2.1 dX4_pass_0 rfl (lv_at hl 0 rfl) ?_
    refine gf_X4_21 S hw dX4_pass_1 ?_
    refine lv_iload_n S.1 S.2.1 dX4_pass_4 rfl (lv_at hl 1 rfl) ?_
    obtain ⟨b1_, hF⟩ := Zgs hF
    refine Yiald S hw zd_4 (by decide) hx1 b1_ dX4_pass_5 ?_
    refine Yif_le (tgt := 31) S (hzz.1 _ _ (by decide)) dX4_pass_6 (by decide) (fun c2_ => ?_) (fun c2_ => ?_)
    · replace hF := ZtP c2_ hF
      exact w_X4_pass_b31 S hr hlk hR hdj _ _ _ _ _ _ hF hw hzz hx1 hx2 (lv_sub hl [0, 1, 2] rfl)
    · replace hF := ZtN c2_ hF
      refine lv_aload_n S.1 S.2.1 dX4_pass_9 rfl (lv_at hl 0 rfl) ?_
      refine gf_X4_36 S hw dX4_pass_10 ?_
      refine lv_iload_n S.1 S.2.1 dX4_pass_13 rfl (lv_at hl 1 rfl) ?_
      obtain ⟨b3_, hF⟩ := Zgs hF
      refine Yiald S hw zd_9 (by decide) hx1 b3_ dX4_pass_14 ?_
      refine lv_aload_n S.1 S.2.1 dX4_pass_15 rfl (lv_at hl 0 rfl) ?_
      refine gf_X4_21 S hw dX4_pass_16 ?_
      refine lv_iload_n S.1 S.2.1 dX4_pass_19 rfl (lv_at hl 1 rfl) ?_
      obtain ⟨b4_, hF⟩ := Zgs hF
      refine Yiald S hw zd_4 (by decide) hx1 b4_ dX4_pass_20 ?_
      refine Yicmp_lt (tgt := 31) S (hzz.1 _ _ (by decide)) (hzz.1 _ _ (by decide)) dX4_pass_21 (by decide) (fun c5_ => ?_) (fun c5_ => ?_)
      · replace hF := ZtP c5_ hF
        exact w_X4_pass_b31 S hr hlk hR hdj _ _ _ _ _ _ hF hw hzz hx1 hx2 (lv_sub hl [0, 1, 2] rfl)
      · replace hF := ZtN c5_ hF
        refine lv_aload_n S.1 S.2.1 dX4_pass_24 rfl (lv_at hl 0 rfl) ?_
        refine gf_X4_39 S hw dX4_pass_25 ?_
        refine lv_iload_n S.1 S.2.1 dX4_pass_28 rfl (lv_at hl 1 rfl) ?_
        refine lv_iconst (v := i32 1) S.1 S.2.1 dX4_pass_29 ic_1 ?_
        obtain ⟨b6_, hF⟩ := Zgs hF
        refine Yzast S hw hzz zd_10 (by decide) hx1 r_1 (Or.inr rfl) b6_ dX4_pass_30 (fun z7_ H locs ez hzz7_ hw => ?_)
        replace hF := Zle ez hF; clear ez
        exact w_X4_pass_b31 S hr hlk hR hdj _ _ _ _ _ _ hF hw hzz7_ hx1 hx2 (lv_sub hl [0, 1, 2] rfl))
set_option maxRecDepth 100000 in
set_option maxHeartbeats 4000000 in
theorem w_X4_pour_b102 {RR : Unit × ZI} (S : CallFix p m c cX4_pour 6 s args Ztbl RX4) (hr : meth.sig.returnType = none) (hlk : meth.locks = false) (hR : 3 ≤ R.frames ∧ 60 * (3) ≤ R.locals) (hdj : Zdj ad) {k35 : ZI → Int → Int → Option (Unit × ZI)} (hk35 : ∀ (z : ZI) (x2 : Int) (x3 : Int) (H : Heap) (locs : List Loc) (ls : Array Slot), k35 z x2 x3 = some RR → ZW D cA ad (ZA ad) (Zc z) s H locs → Zok z → InR x2 → InR x3 → lv_has ls 6 [(0, .ref (ad 2)), (2, .int (i32 (x2))), (3, .int (i32 (x3)))] → W p l e R s m args below meth c H locs 0 0 (MQ below (YQv D cA ad RR.2) args s 0 0 (ZA ad)) (F0 m 35 ls [])) : ∀ (z : ZI) (x2 : Int) (x3 : Int) (H : Heap) (locs : List Loc) (ls : Array Slot), X4_pour_b102 k35 z x2 x3 = some RR → ZW D cA ad (ZA ad) (Zc z) s H locs → Zok z → InR x2 → InR x3 → lv_has ls 6 [(0, .ref (ad 2)), (2, .int (i32 (x2))), (3, .int (i32 (x3)))] → W p l e R s m args below meth c H locs 0 0 (MQ below (YQv D cA ad RR.2) args s 0 0 (ZA ad)) (F0 m 102 ls []) := by
  intro z x2 x3 H locs ls hF hw hzz hx2 hx3 hl
  unfold X4_pour_b102 at hF
  obtain ⟨g1_, hF⟩ := Zgs hF
  refine lv_iinc (v := i32 (x3 + 1)) (lv' := [(3, .int (i32 (x3 + 1))), (0, .ref (ad 2)), (2, .int (i32 (x2)))]) S.1 S.2.1 dX4_pour_102 hl (k := 2) rfl Yiinc (by decide) rfl (fun ls hl => ?_)
  refine lv_goto (tgt := 35) S.1 S.2.1 dX4_pour_105 (by decide) ?_
  exact hk35 _ _ _ _ _ _ hF hw hzz hx2 g1_ (lv_sub hl [1, 2, 0] rfl)
set_option maxRecDepth 100000 in
set_option maxHeartbeats 4000000 in
theorem w_X4_pour_b82 {RR : Unit × ZI} (S : CallFix p m c cX4_pour 6 s args Ztbl RX4) (hr : meth.sig.returnType = none) (hlk : meth.locks = false) (hR : 3 ≤ R.frames ∧ 60 * (3) ≤ R.locals) (hdj : Zdj ad) {k35 : ZI → Int → Int → Option (Unit × ZI)} (hk35 : ∀ (z : ZI) (x2 : Int) (x3 : Int) (H : Heap) (locs : List Loc) (ls : Array Slot), k35 z x2 x3 = some RR → ZW D cA ad (ZA ad) (Zc z) s H locs → Zok z → InR x2 → InR x3 → lv_has ls 6 [(0, .ref (ad 2)), (2, .int (i32 (x2))), (3, .int (i32 (x3)))] → W p l e R s m args below meth c H locs 0 0 (MQ below (YQv D cA ad RR.2) args s 0 0 (ZA ad)) (F0 m 35 ls [])) : ∀ (z : ZI) (x2 : Int) (x3 : Int) (x4 : Int) (y0 : Int) (H : Heap) (locs : List Loc) (ls : Array Slot), X4_pour_b82 k35 z x2 x3 x4 y0 = some RR → ZW D cA ad (ZA ad) (Zc z) s H locs → Zok z → InR x2 → InR x3 → InR x4 → InR y0 → lv_has ls 6 [(0, .ref (ad 2)), (2, .int (i32 (x2))), (3, .int (i32 (x3))), (4, .int (i32 (x4)))] → W p l e R s m args below meth c H locs 0 0 (MQ below (YQv D cA ad RR.2) args s 0 0 (ZA ad)) (F0 m 82 ls [.int (i32 (y0))]) := by
  intro z x2 x3 x4 y0 H locs ls hF hw hzz hx2 hx3 hx4 hy0 hl
  unfold X4_pour_b82 at hF
  refine lv_istore (lv' := [(5, .int (i32 (y0))), (0, .ref (ad 2)), (2, .int (i32 (x2))), (3, .int (i32 (x3))), (4, .int (i32 (x4)))]) S.1 S.2.1 dX4_pour_82 hl (by decide) rfl (fun ls hl => ?_)
  refine lv_iload S.1 S.2.1 dX4_pour_84 (lv_at hl 0 rfl) ?_
  refine Yif_ne (tgt := 102) S hy0 dX4_pour_86 (by decide) (fun c1_ => ?_) (fun c1_ => ?_)
  · replace hF := ZtN c1_ hF
    exact w_X4_pour_b102 S hr hlk hR hdj hk35 _ _ _ _ _ _ hF hw hzz hx2 hx3 (lv_sub hl [1, 2, 3] rfl)
  · replace hF := ZtP c1_ hF
    refine lv_aload_n S.1 S.2.1 dX4_pour_89 rfl (lv_at hl 1 rfl) ?_
    refine lv_iload S.1 S.2.1 dX4_pour_90 (lv_at hl 4 rfl) ?_
    refine lv_aload_n S.1 S.2.1 dX4_pour_92 rfl (lv_at hl 1 rfl) ?_
    refine gf_X4_27 S hw dX4_pour_93 ?_
    refine lv_iload S.1 S.2.1 dX4_pour_96 (lv_at hl 4 rfl) ?_
    obtain ⟨b2_, hF⟩ := Zgs hF
    refine Yiald S hw zd_6 (by decide) hx4 b2_ dX4_pour_98 ?_
    obtain ⟨r5_, z3_, h4_, hF⟩ := Ybs hF
    refine YcallVv (rest := []) S hw (c_X4_pass hdj hzz hx4 (hzz.1 _ _ (by decide)) h4_) my_X4_pass mi_X4_pass ml_X4_77 zd_2 zc_X4 rfl (Zrr hR (by decide)) ⟨Nat.zero_le _, Nat.zero_le _⟩ hl.1 rfl rfl (Nat.le_of_ble_eq_true rfl) dX4_pour_99 (fun hzz3_ H locs hw => ?_)
    exact w_X4_pour_b102 S hr hlk hR hdj hk35 _ _ _ _ _ _ hF hw hzz3_ hx2 hx3 (lv_sub hl [1, 2, 3] rfl)
set_option maxRecDepth 100000 in
set_option maxHeartbeats 4000000 in
theorem w_X4_pour_b81 {RR : Unit × ZI} (S : CallFix p m c cX4_pour 6 s args Ztbl RX4) (hr : meth.sig.returnType = none) (hlk : meth.locks = false) (hR : 3 ≤ R.frames ∧ 60 * (3) ≤ R.locals) (hdj : Zdj ad) {k35 : ZI → Int → Int → Option (Unit × ZI)} (hk35 : ∀ (z : ZI) (x2 : Int) (x3 : Int) (H : Heap) (locs : List Loc) (ls : Array Slot), k35 z x2 x3 = some RR → ZW D cA ad (ZA ad) (Zc z) s H locs → Zok z → InR x2 → InR x3 → lv_has ls 6 [(0, .ref (ad 2)), (2, .int (i32 (x2))), (3, .int (i32 (x3)))] → W p l e R s m args below meth c H locs 0 0 (MQ below (YQv D cA ad RR.2) args s 0 0 (ZA ad)) (F0 m 35 ls [])) : ∀ (z : ZI) (x2 : Int) (x3 : Int) (x4 : Int) (H : Heap) (locs : List Loc) (ls : Array Slot), X4_pour_b81 k35 z x2 x3 x4 = some RR → ZW D cA ad (ZA ad) (Zc z) s H locs → Zok z → InR x2 → InR x3 → InR x4 → lv_has ls 6 [(0, .ref (ad 2)), (2, .int (i32 (x2))), (3, .int (i32 (x3))), (4, .int (i32 (x4)))] → W p l e R s m args below meth c H locs 0 0 (MQ below (YQv D cA ad RR.2) args s 0 0 (ZA ad)) (F0 m 81 ls []) := by
  intro z x2 x3 x4 H locs ls hF hw hzz hx2 hx3 hx4 hl
  unfold X4_pour_b81 at hF
  refine lv_iconst (v := i32 0) S.1 S.2.1 dX4_pour_81 ic_0 ?_
  exact w_X4_pour_b82 S hr hlk hR hdj hk35 _ _ _ _ _ _ _ _ hF hw hzz hx2 hx3 hx4 r_0 (lv_sub hl [0, 1, 2, 3] rfl)
set_option maxRecDepth 100000 in
set_option maxHeartbeats 4000000 in
theorem w_X4_pour_L35 {RR : Unit × ZI} (S : CallFix p m c cX4_pour 6 s args Ztbl RX4) (hr : meth.sig.returnType = none) (hlk : meth.locks = false) (hR : 3 ≤ R.frames ∧ 60 * (3) ≤ R.locals) (hdj : Zdj ad) : ∀ (n : Nat) (z : ZI) (x2 : Int) (x3 : Int) (H : Heap) (locs : List Loc) (ls : Array Slot), X4_pour_L35 n z x2 x3 = some RR → ZW D cA ad (ZA ad) (Zc z) s H locs → Zok z → InR x2 → InR x3 → lv_has ls 6 [(0, .ref (ad 2)), (2, .int (i32 (x2))), (3, .int (i32 (x3)))] → W p l e R s m args below meth c H locs 0 0 (MQ below (YQv D cA ad RR.2) args s 0 0 (ZA ad)) (F0 m 35 ls []) := by
  intro n
  induction n with
  | zero => intro z x2 x3 H locs ls hF; exact nomatch hF
  | succ n hk35 =>
    intro z x2 x3 H locs ls hF hw hzz hx2 hx3 hl
    replace hF : X4_pour_L35b (X4_pour_L35 n) z x2 x3 = some RR := hF
    unfold X4_pour_L35b at hF
    refine lv_iload_n S.1 S.2.1 dX4_pour_35 rfl (lv_at hl 2 rfl) ?_
    refine lv_sipush (v := i32 144) S.1 S.2.1 dX4_pour_36 sp_144 ?_
    refine Yicmp_ge (tgt := 108) S hx3 r_144 dX4_pour_39 (by decide) (fun c1_ => ?_) (fun c1_ => ?_)
    · replace hF := ZtP c1_ hF
      exact Yvret S hw hzz hr hlk hF dX4_pour_108
    · replace hF := ZtN c1_ hF
      refine lv_aload_n S.1 S.2.1 dX4_pour_42 rfl (lv_at hl 0 rfl) ?_
      refine gf_X4_30 S hw dX4_pour_43 ?_
      refine lv_iload_n S.1 S.2.1 dX4_pour_46 rfl (lv_at hl 2 rfl) ?_
      obtain ⟨b2_, hF⟩ := Zgs hF
      refine Yiald S hw zd_7 (by decide) hx3 b2_ dX4_pour_47 ?_
      refine lv_istore (lv' := [(4, .int (i32 (z 7 x3))), (0, .ref (ad 2)), (2, .int (i32 (x2))), (3, .int (i32 (x3)))]) S.1 S.2.1 dX4_pour_48 hl (by decide) rfl (fun ls hl => ?_)
      refine lv_aload_n S.1 S.2.1 dX4_pour_50 rfl (lv_at hl 1 rfl) ?_
      refine gf_X4_24 S hw dX4_pour_51 ?_
      refine lv_iload S.1 S.2.1 dX4_pour_54 (lv_at hl 0 rfl) ?_
      obtain ⟨b3_, hF⟩ := Zgs hF
      refine Yiald S hw zd_5 (by decide) (hzz.1 _ _ (by decide)) b3_ dX4_pour_56 ?_
      refine lv_bipush (v := i32 (-9)) S.1 S.2.1 dX4_pour_57 bp_m9 ?_
      refine Yicmp_eq (tgt := 81) S (hzz.1 _ _ (by decide)) r_m9 dX4_pour_59 (by decide) (fun c4_ => ?_) (fun c4_ => ?_)
      · replace hF := ZtP c4_ hF
        exact w_X4_pour_b81 S hr hlk hR hdj hk35 _ _ _ _ _ _ _ hF hw hzz hx2 hx3 (hzz.1 _ _ (by decide)) (lv_sub hl [1, 2, 3, 0] rfl)
      · replace hF := ZtN c4_ hF
        refine lv_iload_n S.1 S.2.1 dX4_pour_62 rfl (lv_at hl 2 rfl) ?_
        refine lv_aload_n S.1 S.2.1 dX4_pour_63 rfl (lv_at hl 1 rfl) ?_
        refine gf_X4_24 S hw dX4_pour_64 ?_
        refine lv_iload S.1 S.2.1 dX4_pour_67 (lv_at hl 0 rfl) ?_
        obtain ⟨b5_, hF⟩ := Zgs hF
        refine Yiald S hw zd_5 (by decide) (hzz.1 _ _ (by decide)) b5_ dX4_pour_69 ?_
        refine Yishr S dX4_pour_70 ?_
        refine lv_iconst (v := i32 1) S.1 S.2.1 dX4_pour_71 ic_1 ?_
        refine Yiand S dX4_pour_72 ?_
        refine lv_iconst (v := i32 1) S.1 S.2.1 dX4_pour_73 ic_1 ?_
        refine Yicmp_ne (tgt := 81) S (InR_of _) r_1 dX4_pour_74 (by decide) (fun c6_ => ?_) (fun c6_ => ?_)
        · replace hF := ZtN c6_ hF
          exact w_X4_pour_b81 S hr hlk hR hdj hk35 _ _ _ _ _ _ _ hF hw hzz hx2 hx3 (hzz.1 _ _ (by decide)) (lv_sub hl [1, 2, 3, 0] rfl)
        · replace hF := ZtP c6_ hF
          refine lv_iconst (v := i32 1) S.1 S.2.1 dX4_pour_77 ic_1 ?_
          refine lv_goto (tgt := 82) S.1 S.2.1 dX4_pour_78 (by decide) ?_
          exact w_X4_pour_b82 S hr hlk hR hdj hk35 _ _ _ _ _ _ _ _ hF hw hzz hx2 hx3 (hzz.1 _ _ (by decide)) r_1 (lv_sub hl [1, 2, 3, 0] rfl)
set_option maxRecDepth 100000 in
set_option maxHeartbeats 4000000 in
theorem w_X4_pour_b33 {RR : Unit × ZI} (S : CallFix p m c cX4_pour 6 s args Ztbl RX4) (hr : meth.sig.returnType = none) (hlk : meth.locks = false) (hR : 3 ≤ R.frames ∧ 60 * (3) ≤ R.locals) (hdj : Zdj ad) : ∀ (z : ZI) (x2 : Int) (H : Heap) (locs : List Loc) (ls : Array Slot), X4_pour_b33 z x2 = some RR → ZW D cA ad (ZA ad) (Zc z) s H locs → Zok z → InR x2 → lv_has ls 6 [(0, .ref (ad 2)), (2, .int (i32 (x2)))] → W p l e R s m args below meth c H locs 0 0 (MQ below (YQv D cA ad RR.2) args s 0 0 (ZA ad)) (F0 m 33 ls []) := by
  intro z x2 H locs ls hF hw hzz hx2 hl
  unfold X4_pour_b33 at hF
  refine lv_iconst (v := i32 0) S.1 S.2.1 dX4_pour_33 ic_0 ?_
  refine lv_istore_n (lv' := [(3, .int (i32 (0))), (0, .ref (ad 2)), (2, .int (i32 (x2)))]) S.1 S.2.1 dX4_pour_34 rfl hl (by decide) rfl (fun ls hl => ?_)
  exact w_X4_pour_L35 S hr hlk hR hdj Zfuel _ _ _ _ _ _ hF hw hzz hx2 r_0 (lv_sub hl [1, 2, 0] rfl)
set_option maxRecDepth 100000 in
set_option maxHeartbeats 4000000 in
theorem w_X4_pour_L6 {RR : Unit × ZI} (S : CallFix p m c cX4_pour 6 s args Ztbl RX4) (hr : meth.sig.returnType = none) (hlk : meth.locks = false) (hR : 3 ≤ R.frames ∧ 60 * (3) ≤ R.locals) (hdj : Zdj ad) : ∀ (n : Nat) (z : ZI) (x1 : Int) (x2 : Int) (x3 : Int) (H : Heap) (locs : List Loc) (ls : Array Slot), X4_pour_L6 n z x1 x2 x3 = some RR → ZW D cA ad (ZA ad) (Zc z) s H locs → Zok z → InR x1 → InR x2 → InR x3 → lv_has ls 6 [(0, .ref (ad 2)), (1, .int (i32 (x1))), (2, .int (i32 (x2))), (3, .int (i32 (x3)))] → W p l e R s m args below meth c H locs 0 0 (MQ below (YQv D cA ad RR.2) args s 0 0 (ZA ad)) (F0 m 6 ls []) := by
  intro n
  induction n with
  | zero => intro z x1 x2 x3 H locs ls hF; exact nomatch hF
  | succ n hk6 =>
    intro z x1 x2 x3 H locs ls hF hw hzz hx1 hx2 hx3 hl
    replace hF : X4_pour_L6b (X4_pour_L6 n) z x1 x2 x3 = some RR := hF
    unfold X4_pour_L6b at hF
    refine lv_iload_n S.1 S.2.1 dX4_pour_6 rfl (lv_at hl 3 rfl) ?_
    refine lv_sipush (v := i32 144) S.1 S.2.1 dX4_pour_7 sp_144 ?_
    refine Yicmp_ge (tgt := 33) S hx3 r_144 dX4_pour_10 (by decide) (fun c1_ => ?_) (fun c1_ => ?_)
    · replace hF := ZtP c1_ hF
      exact w_X4_pour_b33 S hr hlk hR hdj _ _ _ _ _ hF hw hzz hx2 (lv_sub hl [0, 2] rfl)
    · replace hF := ZtN c1_ hF
      refine lv_aload_n S.1 S.2.1 dX4_pour_13 rfl (lv_at hl 0 rfl) ?_
      refine gf_X4_36 S hw dX4_pour_14 ?_
      refine lv_iload_n S.1 S.2.1 dX4_pour_17 rfl (lv_at hl 3 rfl) ?_
      refine lv_iload_n S.1 S.2.1 dX4_pour_18 rfl (lv_at hl 1 rfl) ?_
      obtain ⟨b2_, hF⟩ := Zgs hF
      refine Yiast S hw hzz zd_9 (by decide) hx3 hx1 b2_ dX4_pour_19 (fun z3_ H locs ez hzz3_ hw => ?_)
      replace hF := Zle ez hF; clear ez
      refine lv_aload_n S.1 S.2.1 dX4_pour_20 rfl (lv_at hl 0 rfl) ?_
      refine gf_X4_39 S hw dX4_pour_21 ?_
      refine lv_iload_n S.1 S.2.1 dX4_pour_24 rfl (lv_at hl 3 rfl) ?_
      refine lv_iconst (v := i32 0) S.1 S.2.1 dX4_pour_25 ic_0 ?_
      obtain ⟨b4_, hF⟩ := Zgs hF
      refine Yzast S hw hzz3_ zd_10 (by decide) hx3 r_0 (Or.inl rfl) b4_ dX4_pour_26 (fun z5_ H locs ez hzz5_ hw => ?_)
      replace hF := Zle ez hF; clear ez
      obtain ⟨g6_, hF⟩ := Zgs hF
      refine lv_iinc (v := i32 (x3 + 1)) (lv' := [(3, .int (i32 (x3 + 1))), (0, .ref (ad 2)), (1, .int (i32 (x1))), (2, .int (i32 (x2)))]) S.1 S.2.1 dX4_pour_27 hl (k := 3) rfl Yiinc (by decide) rfl (fun ls hl => ?_)
      refine lv_goto (tgt := 6) S.1 S.2.1 dX4_pour_30 (by decide) ?_
      exact hk6 _ _ _ _ _ _ _ hF hw hzz5_ hx1 hx2 g6_ (lv_sub hl [1, 2, 3, 0] rfl)
set_option maxRecDepth 100000 in
set_option maxHeartbeats 4000000 in
theorem c_X4_pour {l : Launch} {D : va_G} {cA : Nat → ClassId} {ad : Nat → Nat} (hdj : Zdj ad) {z z1 : ZI} {x1 : Int} {x2 : Int} (hzz : Zok z) (hx1 : InR x1) (hx2 : InR x2) (hF : F_X4_pour z x1 x2 = some ((), z1)) : YMv l D cA ad (3) yX4_pour cX4_pour 6 [.ref (ad 2), .int (i32 x1), .int (i32 x2)] z z1 :=
  Zmet hdj (by decide) rfl (Nat.le_of_ble_eq_true rfl) (lv := [(0, .ref (ad 2)), (1, .int (i32 (x1))), (2, .int (i32 (x2)))]) rfl (fun p e s m args below meth c ls S hr hlk hw hl => by
    have hR : 3 ≤ (Zrm (3)).frames ∧ 60 * (3) ≤ (Zrm (3)).locals := ⟨Nat.le_refl _, Nat.le_refl _⟩
    unfold F_X4_pour at hF
    revert hR
    generalize Zrm (3) = R
    intro hR
    refine lv_aload_n S.1 S.2.1 dX4_pour_0 rfl (lv_at hl 0 rfl) ?_
    obtain ⟨r3_, z1_, h2_, hF⟩ := Ybs hF
    refine YcallVv (rest := []) S hw (c_X4_level hdj hzz  h2_) my_X4_level mi_X4_level ml_X4_74 zd_2 zc_X4 rfl (Zrr hR (by decide)) ⟨Nat.zero_le _, Nat.zero_le _⟩ hl.1 rfl rfl (Nat.le_of_ble_eq_true rfl) dX4_pour_1 (fun hzz1_ H locs hw => ?_)
    refine lv_iconst (v := i32 0) S.1 S.2.1 dX4_pour_4 ic_0 ?_
    refine lv_istore_n (lv' := [(3, .int (i32 (0))), (0, .ref (ad 2)), (1, .int (i32 (x1))), (2, .int (i32 (x2)))]) S.1 S.2.1 dX4_pour_5 rfl hl (by decide) rfl (fun ls hl => ?_)
    exact w_X4_pour_L6 S hr hlk hR hdj Zfuel _ _ _ _ _ _ _ hF hw hzz1_ hx1 hx2 r_0 (lv_sub hl [1, 2, 3, 0] rfl))
set_option maxRecDepth 100000 in
set_option maxHeartbeats 4000000 in
theorem w_X9_foulOnes_b44 {RR : Int × ZI} (S : CallFix p m c cX9_foulOnes 6 s args Ztbl RX9) (hr : meth.sig.returnType = some .int) (hlk : meth.locks = false) (hR : 4 ≤ R.frames ∧ 60 * (4) ≤ R.locals) (hdj : Zdj ad) {k12 : ZI → Int → Int → Option (Int × ZI)} (hk12 : ∀ (z : ZI) (x4 : Int) (x5 : Int) (H : Heap) (locs : List Loc) (ls : Array Slot), k12 z x4 x5 = some RR → ZW D cA ad (ZA ad) (Zc z) s H locs → Zok z → InR x4 → InR x5 → lv_has ls 6 [(0, .ref (ad 41)), (1, .ref (ad 2)), (4, .int (i32 (x4))), (5, .int (i32 (x5)))] → W p l e R s m args below meth c H locs 0 0 (MQ below (YQi D cA ad RR.1 RR.2) args s 0 0 (ZA ad)) (F0 m 12 ls [])) : ∀ (z : ZI) (x4 : Int) (x5 : Int) (H : Heap) (locs : List Loc) (ls : Array Slot), X9_foulOnes_b44 k12 z x4 x5 = some RR → ZW D cA ad (ZA ad) (Zc z) s H locs → Zok z → InR x4 → InR x5 → lv_has ls 6 [(0, .ref (ad 41)), (1, .ref (ad 2)), (4, .int (i32 (x4))), (5, .int (i32 (x5)))] → W p l e R s m args below meth c H locs 0 0 (MQ below (YQi D cA ad RR.1 RR.2) args s 0 0 (ZA ad)) (F0 m 44 ls []) := by
  intro z x4 x5 H locs ls hF hw hzz hx4 hx5 hl
  unfold X9_foulOnes_b44 at hF
  obtain ⟨g1_, hF⟩ := Zgs hF
  refine lv_iinc (v := i32 (x5 + 1)) (lv' := [(5, .int (i32 (x5 + 1))), (0, .ref (ad 41)), (1, .ref (ad 2)), (4, .int (i32 (x4)))]) S.1 S.2.1 dX9_foulOnes_44 hl (k := 3) rfl Yiinc (by decide) rfl (fun ls hl => ?_)
  refine lv_goto (tgt := 12) S.1 S.2.1 dX9_foulOnes_47 (by decide) ?_
  exact hk12 _ _ _ _ _ _ hF hw hzz hx4 g1_ (lv_sub hl [1, 2, 3, 0] rfl)
set_option maxRecDepth 100000 in
set_option maxHeartbeats 4000000 in
theorem w_X9_foulOnes_L12 {RR : Int × ZI} (S : CallFix p m c cX9_foulOnes 6 s args Ztbl RX9) (hr : meth.sig.returnType = some .int) (hlk : meth.locks = false) (hR : 4 ≤ R.frames ∧ 60 * (4) ≤ R.locals) (hdj : Zdj ad) : ∀ (n : Nat) (z : ZI) (x4 : Int) (x5 : Int) (H : Heap) (locs : List Loc) (ls : Array Slot), X9_foulOnes_L12 n z x4 x5 = some RR → ZW D cA ad (ZA ad) (Zc z) s H locs → Zok z → InR x4 → InR x5 → lv_has ls 6 [(0, .ref (ad 41)), (1, .ref (ad 2)), (4, .int (i32 (x4))), (5, .int (i32 (x5)))] → W p l e R s m args below meth c H locs 0 0 (MQ below (YQi D cA ad RR.1 RR.2) args s 0 0 (ZA ad)) (F0 m 12 ls []) := by
  intro n
  induction n with
  | zero => intro z x4 x5 H locs ls hF; exact nomatch hF
  | succ n hk12 =>
    intro z x4 x5 H locs ls hF hw hzz hx4 hx5 hl
    replace hF : X9_foulOnes_L12b (X9_foulOnes_L12 n) z x4 x5 = some RR := hF
    unfold X9_foulOnes_L12b at hF
    refine lv_iload S.1 S.2.1 dX9_foulOnes_12 (lv_at hl 3 rfl) ?_
    refine lv_aload_n S.1 S.2.1 dX9_foulOnes_14 rfl (lv_at hl 0 rfl) ?_
    refine gg_X9_54 S hw dX9_foulOnes_15 ?_
    refine Yicmp_ge (tgt := 50) S hx5 (hzz.1 41 0 (by decide)) dX9_foulOnes_18 (by decide) (fun c1_ => ?_) (fun c1_ => ?_)
    · replace hF := ZtP c1_ hF
      refine lv_iload S.1 S.2.1 dX9_foulOnes_50 (lv_at hl 2 rfl) ?_
      exact Yireti S hw hzz hx4 hr hlk hF dX9_foulOnes_52
    · replace hF := ZtN c1_ hF
      refine lv_aload_n S.1 S.2.1 dX9_foulOnes_21 rfl (lv_at hl 1 rfl) ?_
      refine lv_aload_n S.1 S.2.1 dX9_foulOnes_22 rfl (lv_at hl 0 rfl) ?_
      refine gf_X9_9 S hw dX9_foulOnes_23 ?_
      refine lv_iload S.1 S.2.1 dX9_foulOnes_26 (lv_at hl 3 rfl) ?_
      obtain ⟨b2_, hF⟩ := Zgs hF
      refine Yiald S hw zd_42 (by decide) hx5 b2_ dX9_foulOnes_28 ?_
      obtain ⟨r5_, z3_, h4_, hF⟩ := Ybs hF
      refine YcallVi (rest := []) S hw (c_X4_isFoul hdj hzz (hzz.1 _ _ (by decide)) h4_) my_X4_isFoul mi_X4_isFoul ml_X9_134 zd_2 zc_X4 rfl (Zrr hR (by decide)) ⟨Nat.zero_le _, Nat.zero_le _⟩ hl.1 rfl rfl (Nat.le_of_ble_eq_true rfl) dX9_foulOnes_29 (fun hrr5_ hzz3_ H locs hw => ?_)
      refine Yif_eq (tgt := 44) S hrr5_ dX9_foulOnes_32 (by decide) (fun c6_ => ?_) (fun c6_ => ?_)
      · replace hF := ZtP c6_ hF
        exact w_X9_foulOnes_b44 S hr hlk hR hdj hk12 _ _ _ _ _ _ hF hw hzz3_ hx4 hx5 (lv_sub hl [0, 1, 2, 3] rfl)
      · replace hF := ZtN c6_ hF
        refine lv_iload S.1 S.2.1 dX9_foulOnes_35 (lv_at hl 2 rfl) ?_
        refine lv_iconst (v := i32 1) S.1 S.2.1 dX9_foulOnes_37 ic_1 ?_
        refine lv_iload S.1 S.2.1 dX9_foulOnes_38 (lv_at hl 3 rfl) ?_
        refine Yishl S dX9_foulOnes_40 ?_
        refine Yior S dX9_foulOnes_41 ?_
        refine lv_istore (lv' := [(4, .int (i32 (jor x4 (jshl 1 x5)))), (0, .ref (ad 41)), (1, .ref (ad 2)), (5, .int (i32 (x5)))]) S.1 S.2.1 dX9_foulOnes_42 hl (by decide) rfl (fun ls hl => ?_)
        exact w_X9_foulOnes_b44 S hr hlk hR hdj hk12 _ _ _ _ _ _ hF hw hzz3_ (InR_of _) hx5 (lv_sub hl [1, 2, 0, 3] rfl)
set_option maxRecDepth 100000 in
set_option maxHeartbeats 4000000 in
theorem c_X9_foulOnes {l : Launch} {D : va_G} {cA : Nat → ClassId} {ad : Nat → Nat} (hdj : Zdj ad) {z z1 : ZI} {x2 : Int} {x3 : Int} {r : Int} (hzz : Zok z) (hx2 : InR x2) (hx3 : InR x3) (hF : F_X9_foulOnes z x2 x3 = some (r, z1)) : YMi l D cA ad (4) yX9_foulOnes cX9_foulOnes 6 (some .int) [.ref (ad 41), .ref (ad 2), .int (i32 x2), .int (i32 x3)] z r z1 :=
  Zmet hdj (by decide) rfl (Nat.le_of_ble_eq_true rfl) (lv := [(0, .ref (ad 41)), (1, .ref (ad 2)), (2, .int (i32 (x2))), (3, .int (i32 (x3)))]) rfl (fun p e s m args below meth c ls S hr hlk hw hl => by
    have hR : 4 ≤ (Zrm (4)).frames ∧ 60 * (4) ≤ (Zrm (4)).locals := ⟨Nat.le_refl _, Nat.le_refl _⟩
    unfold F_X9_foulOnes at hF
    revert hR
    generalize Zrm (4) = R
    intro hR
    refine lv_aload_n S.1 S.2.1 dX9_foulOnes_0 rfl (lv_at hl 1 rfl) ?_
    refine lv_iload_n S.1 S.2.1 dX9_foulOnes_1 rfl (lv_at hl 2 rfl) ?_
    refine lv_iload_n S.1 S.2.1 dX9_foulOnes_2 rfl (lv_at hl 3 rfl) ?_
    obtain ⟨r3_, z1_, h2_, hF⟩ := Ybs hF
    refine YcallVv (rest := []) S hw (c_X4_pour hdj hzz hx2 hx3 h2_) my_X4_pour mi_X4_pour ml_X9_130 zd_2 zc_X4 rfl (Zrr hR (by decide)) ⟨Nat.zero_le _, Nat.zero_le _⟩ hl.1 rfl rfl (Nat.le_of_ble_eq_true rfl) dX9_foulOnes_3 (fun hzz1_ H locs hw => ?_)
    refine lv_iconst (v := i32 0) S.1 S.2.1 dX9_foulOnes_6 ic_0 ?_
    refine lv_istore (lv' := [(4, .int (i32 (0))), (0, .ref (ad 41)), (1, .ref (ad 2)), (2, .int (i32 (x2))), (3, .int (i32 (x3)))]) S.1 S.2.1 dX9_foulOnes_7 hl (by decide) rfl (fun ls hl => ?_)
    refine lv_iconst (v := i32 0) S.1 S.2.1 dX9_foulOnes_9 ic_0 ?_
    refine lv_istore (lv' := [(5, .int (i32 (0))), (4, .int (i32 (0))), (0, .ref (ad 41)), (1, .ref (ad 2)), (2, .int (i32 (x2))), (3, .int (i32 (x3)))]) S.1 S.2.1 dX9_foulOnes_10 hl (by decide) rfl (fun ls hl => ?_)
    exact w_X9_foulOnes_L12 S hr hlk hR hdj Zfuel _ _ _ _ _ _ hF hw hzz1_ r_0 r_0 (lv_sub hl [2, 3, 1, 0] rfl))
set_option maxRecDepth 100000 in
set_option maxHeartbeats 4000000 in
theorem w_X9_fewestDrains_b73 {RR : Int × ZI} (S : CallFix p m c cX9_fewestDrains 6 s args Ztbl RX9) (hr : meth.sig.returnType = some .int) (hlk : meth.locks = false) (hR : 5 ≤ R.frames ∧ 60 * (5) ≤ R.locals) (hdj : Zdj ad) {k25 : ZI → Int → Int → Int → Option (Int × ZI)} (hk25 : ∀ (z : ZI) (x2 : Int) (x3 : Int) (x4 : Int) (H : Heap) (locs : List Loc) (ls : Array Slot), k25 z x2 x3 x4 = some RR → ZW D cA ad (ZA ad) (Zc z) s H locs → Zok z → InR x2 → InR x3 → InR x4 → lv_has ls 6 [(0, .ref (ad 41)), (1, .ref (ad 2)), (2, .int (i32 (x2))), (3, .int (i32 (x3))), (4, .int (i32 (x4)))] → W p l e R s m args below meth c H locs 0 0 (MQ below (YQi D cA ad RR.1 RR.2) args s 0 0 (ZA ad)) (F0 m 25 ls [])) : ∀ (z : ZI) (x2 : Int) (x3 : Int) (x4 : Int) (H : Heap) (locs : List Loc) (ls : Array Slot), X9_fewestDrains_b73 k25 z x2 x3 x4 = some RR → ZW D cA ad (ZA ad) (Zc z) s H locs → Zok z → InR x2 → InR x3 → InR x4 → lv_has ls 6 [(0, .ref (ad 41)), (1, .ref (ad 2)), (2, .int (i32 (x2))), (3, .int (i32 (x3))), (4, .int (i32 (x4)))] → W p l e R s m args below meth c H locs 0 0 (MQ below (YQi D cA ad RR.1 RR.2) args s 0 0 (ZA ad)) (F0 m 73 ls []) := by
  intro z x2 x3 x4 H locs ls hF hw hzz hx2 hx3 hx4 hl
  unfold X9_fewestDrains_b73 at hF
  obtain ⟨g1_, hF⟩ := Zgs hF
  refine lv_iinc (v := i32 (x4 + 1)) (lv' := [(4, .int (i32 (x4 + 1))), (0, .ref (ad 41)), (1, .ref (ad 2)), (2, .int (i32 (x2))), (3, .int (i32 (x3)))]) S.1 S.2.1 dX9_fewestDrains_73 hl (k := 4) rfl Yiinc (by decide) rfl (fun ls hl => ?_)
  refine lv_goto (tgt := 25) S.1 S.2.1 dX9_fewestDrains_76 (by decide) ?_
  exact hk25 _ _ _ _ _ _ _ hF hw hzz hx2 hx3 g1_ (lv_sub hl [1, 2, 3, 4, 0] rfl)
set_option maxRecDepth 100000 in
set_option maxHeartbeats 4000000 in
theorem w_X9_fewestDrains_b67 {RR : Int × ZI} (S : CallFix p m c cX9_fewestDrains 6 s args Ztbl RX9) (hr : meth.sig.returnType = some .int) (hlk : meth.locks = false) (hR : 5 ≤ R.frames ∧ 60 * (5) ≤ R.locals) (hdj : Zdj ad) {k25 : ZI → Int → Int → Int → Option (Int × ZI)} (hk25 : ∀ (z : ZI) (x2 : Int) (x3 : Int) (x4 : Int) (H : Heap) (locs : List Loc) (ls : Array Slot), k25 z x2 x3 x4 = some RR → ZW D cA ad (ZA ad) (Zc z) s H locs → Zok z → InR x2 → InR x3 → InR x4 → lv_has ls 6 [(0, .ref (ad 41)), (1, .ref (ad 2)), (2, .int (i32 (x2))), (3, .int (i32 (x3))), (4, .int (i32 (x4)))] → W p l e R s m args below meth c H locs 0 0 (MQ below (YQi D cA ad RR.1 RR.2) args s 0 0 (ZA ad)) (F0 m 25 ls [])) {k37 : ZI → Int → Int → Int → Int → Option (Int × ZI)} (hk37 : ∀ (z : ZI) (x2 : Int) (x3 : Int) (x4 : Int) (x5 : Int) (H : Heap) (locs : List Loc) (ls : Array Slot), k37 z x2 x3 x4 x5 = some RR → ZW D cA ad (ZA ad) (Zc z) s H locs → Zok z → InR x2 → InR x3 → InR x4 → InR x5 → lv_has ls 6 [(0, .ref (ad 41)), (1, .ref (ad 2)), (2, .int (i32 (x2))), (3, .int (i32 (x3))), (4, .int (i32 (x4))), (5, .int (i32 (x5)))] → W p l e R s m args below meth c H locs 0 0 (MQ below (YQi D cA ad RR.1 RR.2) args s 0 0 (ZA ad)) (F0 m 37 ls [])) : ∀ (z : ZI) (x2 : Int) (x3 : Int) (x4 : Int) (x5 : Int) (H : Heap) (locs : List Loc) (ls : Array Slot), X9_fewestDrains_b67 k25 k37 z x2 x3 x4 x5 = some RR → ZW D cA ad (ZA ad) (Zc z) s H locs → Zok z → InR x2 → InR x3 → InR x4 → InR x5 → lv_has ls 6 [(0, .ref (ad 41)), (1, .ref (ad 2)), (2, .int (i32 (x2))), (3, .int (i32 (x3))), (4, .int (i32 (x4))), (5, .int (i32 (x5)))] → W p l e R s m args below meth c H locs 0 0 (MQ below (YQi D cA ad RR.1 RR.2) args s 0 0 (ZA ad)) (F0 m 67 ls []) := by
  intro z x2 x3 x4 x5 H locs ls hF hw hzz hx2 hx3 hx4 hx5 hl
  unfold X9_fewestDrains_b67 at hF
  obtain ⟨g1_, hF⟩ := Zgs hF
  refine lv_iinc (v := i32 (x5 + 1)) (lv' := [(5, .int (i32 (x5 + 1))), (0, .ref (ad 41)), (1, .ref (ad 2)), (2, .int (i32 (x2))), (3, .int (i32 (x3))), (4, .int (i32 (x4)))]) S.1 S.2.1 dX9_fewestDrains_67 hl (k := 5) rfl Yiinc (by decide) rfl (fun ls hl => ?_)
  refine lv_goto (tgt := 37) S.1 S.2.1 dX9_fewestDrains_70 (by decide) ?_
  exact hk37 _ _ _ _ _ _ _ _ hF hw hzz hx2 hx3 hx4 g1_ (lv_sub hl [1, 2, 3, 4, 5, 0] rfl)
set_option maxRecDepth 100000 in
set_option maxHeartbeats 4000000 in
theorem w_X9_fewestDrains_L37 {RR : Int × ZI} (S : CallFix p m c cX9_fewestDrains 6 s args Ztbl RX9) (hr : meth.sig.returnType = some .int) (hlk : meth.locks = false) (hR : 5 ≤ R.frames ∧ 60 * (5) ≤ R.locals) (hdj : Zdj ad) {k25 : ZI → Int → Int → Int → Option (Int × ZI)} (hk25 : ∀ (z : ZI) (x2 : Int) (x3 : Int) (x4 : Int) (H : Heap) (locs : List Loc) (ls : Array Slot), k25 z x2 x3 x4 = some RR → ZW D cA ad (ZA ad) (Zc z) s H locs → Zok z → InR x2 → InR x3 → InR x4 → lv_has ls 6 [(0, .ref (ad 41)), (1, .ref (ad 2)), (2, .int (i32 (x2))), (3, .int (i32 (x3))), (4, .int (i32 (x4)))] → W p l e R s m args below meth c H locs 0 0 (MQ below (YQi D cA ad RR.1 RR.2) args s 0 0 (ZA ad)) (F0 m 25 ls [])) : ∀ (n : Nat) (z : ZI) (x2 : Int) (x3 : Int) (x4 : Int) (x5 : Int) (H : Heap) (locs : List Loc) (ls : Array Slot), X9_fewestDrains_L37 k25 n z x2 x3 x4 x5 = some RR → ZW D cA ad (ZA ad) (Zc z) s H locs → Zok z → InR x2 → InR x3 → InR x4 → InR x5 → lv_has ls 6 [(0, .ref (ad 41)), (1, .ref (ad 2)), (2, .int (i32 (x2))), (3, .int (i32 (x3))), (4, .int (i32 (x4))), (5, .int (i32 (x5)))] → W p l e R s m args below meth c H locs 0 0 (MQ below (YQi D cA ad RR.1 RR.2) args s 0 0 (ZA ad)) (F0 m 37 ls []) := by
  intro n
  induction n with
  | zero => intro z x2 x3 x4 x5 H locs ls hF; exact nomatch hF
  | succ n hk37 =>
    intro z x2 x3 x4 x5 H locs ls hF hw hzz hx2 hx3 hx4 hx5 hl
    replace hF : X9_fewestDrains_L37b k25 (X9_fewestDrains_L37 k25 n) z x2 x3 x4 x5 = some RR := hF
    unfold X9_fewestDrains_L37b at hF
    refine lv_iload S.1 S.2.1 dX9_fewestDrains_37 (lv_at hl 5 rfl) ?_
    refine lv_iload_n S.1 S.2.1 dX9_fewestDrains_39 rfl (lv_at hl 3 rfl) ?_
    refine Yicmp_ge (tgt := 73) S hx5 hx3 dX9_fewestDrains_40 (by decide) (fun c1_ => ?_) (fun c1_ => ?_)
    · replace hF := ZtP c1_ hF
      exact w_X9_fewestDrains_b73 S hr hlk hR hdj hk25 _ _ _ _ _ _ _ hF hw hzz hx2 hx3 hx4 (lv_sub hl [0, 1, 2, 3, 4] rfl)
    · replace hF := ZtN c1_ hF
      refine lv_iload S.1 S.2.1 dX9_fewestDrains_43 (lv_at hl 5 rfl) ?_
      obtain ⟨r4_, z2_, h3_, hF⟩ := Ybs hF
      refine YcallSi (rest := []) S hw (c_J6_bitCount_0f7a4 hdj hzz hx5 h3_) my_J6_bitCount_0f7a4 ms_J6_bitCount_0f7a4 ml_X9_145 (Zrr hR (by decide)) ⟨Nat.zero_le _, Nat.zero_le _⟩ hl.1 rfl rfl (Nat.le_of_ble_eq_true rfl) dX9_fewestDrains_45 (fun hrr4_ hzz2_ H locs hw => ?_)
      refine lv_iload S.1 S.2.1 dX9_fewestDrains_48 (lv_at hl 4 rfl) ?_
      refine Yicmp_ne (tgt := 67) S hrr4_ hx4 dX9_fewestDrains_50 (by decide) (fun c5_ => ?_) (fun c5_ => ?_)
      · replace hF := ZtN c5_ hF
        exact w_X9_fewestDrains_b67 S hr hlk hR hdj hk25 hk37 _ _ _ _ _ _ _ _ hF hw hzz2_ hx2 hx3 hx4 hx5 (lv_sub hl [0, 1, 2, 3, 4, 5] rfl)
      · replace hF := ZtP c5_ hF
        refine lv_aload_n S.1 S.2.1 dX9_fewestDrains_53 rfl (lv_at hl 0 rfl) ?_
        refine lv_aload_n S.1 S.2.1 dX9_fewestDrains_54 rfl (lv_at hl 1 rfl) ?_
        refine lv_iload_n S.1 S.2.1 dX9_fewestDrains_55 rfl (lv_at hl 2 rfl) ?_
        refine lv_iload S.1 S.2.1 dX9_fewestDrains_56 (lv_at hl 5 rfl) ?_
        obtain ⟨r8_, z6_, h7_, hF⟩ := Ybs hF
        refine YcallVi (rest := []) S hw (c_X9_foulOnes hdj hzz2_ hx2 hx5 h7_) my_X9_foulOnes mi_X9_foulOnes ml_X9_141 zd_41 zc_X9 rfl (Zrr hR (by decide)) ⟨Nat.zero_le _, Nat.zero_le _⟩ hl.1 rfl rfl (Nat.le_of_ble_eq_true rfl) dX9_fewestDrains_58 (fun hrr8_ hzz6_ H locs hw => ?_)
        refine Yif_ne (tgt := 67) S hrr8_ dX9_fewestDrains_61 (by decide) (fun c9_ => ?_) (fun c9_ => ?_)
        · replace hF := ZtN c9_ hF
          exact w_X9_fewestDrains_b67 S hr hlk hR hdj hk25 hk37 _ _ _ _ _ _ _ _ hF hw hzz6_ hx2 hx3 hx4 hx5 (lv_sub hl [0, 1, 2, 3, 4, 5] rfl)
        · replace hF := ZtP c9_ hF
          refine lv_iload S.1 S.2.1 dX9_fewestDrains_64 (lv_at hl 5 rfl) ?_
          exact Yireti S hw hzz6_ hx5 hr hlk hF dX9_fewestDrains_66
set_option maxRecDepth 100000 in
set_option maxHeartbeats 4000000 in
theorem w_X9_fewestDrains_L25 {RR : Int × ZI} (S : CallFix p m c cX9_fewestDrains 6 s args Ztbl RX9) (hr : meth.sig.returnType = some .int) (hlk : meth.locks = false) (hR : 5 ≤ R.frames ∧ 60 * (5) ≤ R.locals) (hdj : Zdj ad) : ∀ (n : Nat) (z : ZI) (x2 : Int) (x3 : Int) (x4 : Int) (H : Heap) (locs : List Loc) (ls : Array Slot), X9_fewestDrains_L25 n z x2 x3 x4 = some RR → ZW D cA ad (ZA ad) (Zc z) s H locs → Zok z → InR x2 → InR x3 → InR x4 → lv_has ls 6 [(0, .ref (ad 41)), (1, .ref (ad 2)), (2, .int (i32 (x2))), (3, .int (i32 (x3))), (4, .int (i32 (x4)))] → W p l e R s m args below meth c H locs 0 0 (MQ below (YQi D cA ad RR.1 RR.2) args s 0 0 (ZA ad)) (F0 m 25 ls []) := by
  intro n
  induction n with
  | zero => intro z x2 x3 x4 H locs ls hF; exact nomatch hF
  | succ n hk25 =>
    intro z x2 x3 x4 H locs ls hF hw hzz hx2 hx3 hx4 hl
    replace hF : X9_fewestDrains_L25b (X9_fewestDrains_L25 n) z x2 x3 x4 = some RR := hF
    unfold X9_fewestDrains_L25b at hF
    refine lv_iload S.1 S.2.1 dX9_fewestDrains_25 (lv_at hl 4 rfl) ?_
    refine lv_aload_n S.1 S.2.1 dX9_fewestDrains_27 rfl (lv_at hl 1 rfl) ?_
    refine gg_X9_138 S hw dX9_fewestDrains_28 ?_
    refine Yicmp_gt (tgt := 79) S hx4 (hzz.1 2 4 (by decide)) dX9_fewestDrains_31 (by decide) (fun c1_ => ?_) (fun c1_ => ?_)
    · replace hF := ZtP c1_ hF
      refine lv_bipush (v := i32 (-9)) S.1 S.2.1 dX9_fewestDrains_79 bp_m9 ?_
      exact Yireti S hw hzz r_m9 hr hlk hF dX9_fewestDrains_81
    · replace hF := ZtN c1_ hF
      refine lv_iconst (v := i32 0) S.1 S.2.1 dX9_fewestDrains_34 ic_0 ?_
      refine lv_istore (lv' := [(5, .int (i32 (0))), (0, .ref (ad 41)), (1, .ref (ad 2)), (2, .int (i32 (x2))), (3, .int (i32 (x3))), (4, .int (i32 (x4)))]) S.1 S.2.1 dX9_fewestDrains_35 hl (by decide) rfl (fun ls hl => ?_)
      exact w_X9_fewestDrains_L37 S hr hlk hR hdj hk25 Zfuel _ _ _ _ _ _ _ _ hF hw hzz hx2 hx3 hx4 r_0 (lv_sub hl [1, 2, 3, 4, 5, 0] rfl)
set_option maxRecDepth 100000 in
set_option maxHeartbeats 4000000 in
theorem c_X9_fewestDrains {l : Launch} {D : va_G} {cA : Nat → ClassId} {ad : Nat → Nat} (hdj : Zdj ad) {z z1 : ZI} {x2 : Int} {r : Int} (hzz : Zok z) (hx2 : InR x2) (hF : F_X9_fewestDrains z x2 = some (r, z1)) : YMi l D cA ad (5) yX9_fewestDrains cX9_fewestDrains 6 (some .int) [.ref (ad 41), .ref (ad 2), .int (i32 x2)] z r z1 :=
  Zmet hdj (by decide) rfl (Nat.le_of_ble_eq_true rfl) (lv := [(0, .ref (ad 41)), (1, .ref (ad 2)), (2, .int (i32 (x2)))]) rfl (fun p e s m args below meth c ls S hr hlk hw hl => by
    have hR : 5 ≤ (Zrm (5)).frames ∧ 60 * (5) ≤ (Zrm (5)).locals := ⟨Nat.le_refl _, Nat.le_refl _⟩
    unfold F_X9_fewestDrains at hF
    revert hR
    generalize Zrm (5) = R
    intro hR
    refine lv_iconst (v := i32 1) S.1 S.2.1 dX9_fewestDrains_0 ic_1 ?_
    refine lv_aload_n S.1 S.2.1 dX9_fewestDrains_1 rfl (lv_at hl 1 rfl) ?_
    refine gg_X9_138 S hw dX9_fewestDrains_2 ?_
    refine Yishl S dX9_fewestDrains_5 ?_
    refine lv_istore_n (lv' := [(3, .int (i32 (jshl 1 (z 2 4)))), (0, .ref (ad 41)), (1, .ref (ad 2)), (2, .int (i32 (x2)))]) S.1 S.2.1 dX9_fewestDrains_6 rfl hl (by decide) rfl (fun ls hl => ?_)
    refine lv_aload_n S.1 S.2.1 dX9_fewestDrains_7 rfl (lv_at hl 1 rfl) ?_
    refine lv_aload_n S.1 S.2.1 dX9_fewestDrains_8 rfl (lv_at hl 2 rfl) ?_
    refine lv_iload_n S.1 S.2.1 dX9_fewestDrains_9 rfl (lv_at hl 3 rfl) ?_
    refine lv_iload_n S.1 S.2.1 dX9_fewestDrains_10 rfl (lv_at hl 0 rfl) ?_
    refine lv_iconst (v := i32 1) S.1 S.2.1 dX9_fewestDrains_11 ic_1 ?_
    obtain ⟨g1_, hF⟩ := Zgs hF
    refine Yisub S dX9_fewestDrains_12 ?_
    obtain ⟨r4_, z2_, h3_, hF⟩ := Ybs hF
    refine YcallVi (rest := []) S hw (c_X9_foulOnes hdj hzz hx2 g1_ h3_) my_X9_foulOnes mi_X9_foulOnes ml_X9_141 zd_41 zc_X9 rfl (Zrr hR (by decide)) ⟨Nat.zero_le _, Nat.zero_le _⟩ hl.1 rfl rfl (Nat.le_of_ble_eq_true rfl) dX9_fewestDrains_13 (fun hrr4_ hzz2_ H locs hw => ?_)
    refine Yif_eq (tgt := 22) S hrr4_ dX9_fewestDrains_16 (by decide) (fun c5_ => ?_) (fun c5_ => ?_)
    · replace hF := ZtP c5_ hF
      refine lv_iconst (v := i32 0) S.1 S.2.1 dX9_fewestDrains_22 ic_0 ?_
      refine lv_istore (lv' := [(4, .int (i32 (0))), (3, .int (i32 (jshl 1 (z 2 4)))), (0, .ref (ad 41)), (1, .ref (ad 2)), (2, .int (i32 (x2)))]) S.1 S.2.1 dX9_fewestDrains_23 hl (by decide) rfl (fun ls hl => ?_)
      exact w_X9_fewestDrains_L25 S hr hlk hR hdj Zfuel _ _ _ _ _ _ _ hF hw hzz2_ hx2 (InR_of _) r_0 (lv_sub hl [2, 3, 4, 1, 0] rfl)
    · replace hF := ZtN c5_ hF
      refine lv_bipush (v := i32 (-9)) S.1 S.2.1 dX9_fewestDrains_19 bp_m9 ?_
      exact Yireti S hw hzz2_ r_m9 hr hlk hF dX9_fewestDrains_21)
set_option maxRecDepth 100000 in
set_option maxHeartbeats 4000000 in
theorem w_X10_drains_b33 {RR : Int × ZI} (S : CallFix p m c cX10_drains 3 s args Ztbl RX10) (hr : meth.sig.returnType = some .int) (hlk : meth.locks = false) (hR : 6 ≤ R.frames ∧ 60 * (6) ≤ R.locals) (hdj : Zdj ad) : ∀ (z : ZI) (y0 : Int) (H : Heap) (locs : List Loc) (ls : Array Slot), X10_drains_b33 z y0 = some RR → ZW D cA ad (ZA ad) (Zc z) s H locs → Zok z → InR y0 → lv_has ls 3 [] → W p l e R s m args below meth c H locs 0 0 (MQ below (YQi D cA ad RR.1 RR.2) args s 0 0 (ZA ad)) (F0 m 33 ls [.int (i32 (y0))]) := by
  intro z y0 H locs ls hF hw hzz hy0 hl
  unfold X10_drains_b33 at hF
  exact Yireti S hw hzz hy0 hr hlk hF dX10_drains_33
set_option maxRecDepth 100000 in
set_option maxHeartbeats 4000000 in
theorem c_X10_drains {l : Launch} {D : va_G} {cA : Nat → ClassId} {ad : Nat → Nat} (hdj : Zdj ad) {z z1 : ZI} {x1 : Int} {r : Int} (hzz : Zok z) (hx1 : InR x1) (hF : F_X10_drains z x1 = some (r, z1)) : YMi l D cA ad (6) yX10_drains cX10_drains 3 (some .int) [.ref (ad 0), .int (i32 x1)] z r z1 :=
  Zmet hdj (by decide) rfl (Nat.le_of_ble_eq_true rfl) (lv := [(0, .ref (ad 0)), (1, .int (i32 (x1)))]) rfl (fun p e s m args below meth c ls S hr hlk hw hl => by
    have hR : 6 ≤ (Zrm (6)).frames ∧ 60 * (6) ≤ (Zrm (6)).locals := ⟨Nat.le_refl _, Nat.le_refl _⟩
    unfold F_X10_drains at hF
    revert hR
    generalize Zrm (6) = R
    intro hR
    refine lv_iload_n S.1 S.2.1 dX10_drains_0 rfl (lv_at hl 1 rfl) ?_
    refine lv_iconst (v := i32 1) S.1 S.2.1 dX10_drains_1 ic_1 ?_
    refine lv_sipush (v := i32 999) S.1 S.2.1 dX10_drains_2 sp_999 ?_
    obtain ⟨r3_, z1_, h2_, hF⟩ := Ybs hF
    refine YcallSi (rest := []) S hw (c_X10_checkRange hdj hzz hx1 r_1 r_999 h2_) my_X10_checkRange ms_X10_checkRange ml_X10_85 (Zrr hR (by decide)) ⟨Nat.zero_le _, Nat.zero_le _⟩ hl.1 rfl rfl (Nat.le_of_ble_eq_true rfl) dX10_drains_5 (fun hrr3_ hzz1_ H locs hw => ?_)
    refine lv_istore_n (lv' := [(2, .int (i32 (r3_))), (0, .ref (ad 0)), (1, .int (i32 (x1)))]) S.1 S.2.1 dX10_drains_8 rfl hl (by decide) rfl (fun ls hl => ?_)
    refine lv_iload_n S.1 S.2.1 dX10_drains_9 rfl (lv_at hl 0 rfl) ?_
    refine Yif_ne (tgt := 28) S hrr3_ dX10_drains_10 (by decide) (fun c4_ => ?_) (fun c4_ => ?_)
    · replace hF := ZtN c4_ hF
      refine lv_aload_n S.1 S.2.1 dX10_drains_28 rfl (lv_at hl 1 rfl) ?_
      refine lv_iload_n S.1 S.2.1 dX10_drains_29 rfl (lv_at hl 0 rfl) ?_
      obtain ⟨r7_, z5_, h6_, hF⟩ := Ybs hF
      refine YcallVi (rest := []) S hw (c_X10_refuse hdj hzz1_ hrr3_ h6_) my_X10_refuse mi_X10_refuse ml_X10_81 zd_0 zc_X10 rfl (Zrr hR (by decide)) ⟨Nat.zero_le _, Nat.zero_le _⟩ hl.1 rfl rfl (Nat.le_of_ble_eq_true rfl) dX10_drains_30 (fun hrr7_ hzz5_ H locs hw => ?_)
      exact w_X10_drains_b33 S hr hlk hR hdj _ _ _ _ _ hF hw hzz5_ hrr7_ (lv_sub hl [] rfl)
    · replace hF := ZtP c4_ hF
      refine lv_aload_n S.1 S.2.1 dX10_drains_13 rfl (lv_at hl 1 rfl) ?_
      refine gf_X10_55 S hw dX10_drains_14 ?_
      refine lv_aload_n S.1 S.2.1 dX10_drains_17 rfl (lv_at hl 1 rfl) ?_
      refine gf_X10_20 S hw dX10_drains_18 ?_
      refine lv_iload_n S.1 S.2.1 dX10_drains_21 rfl (lv_at hl 2 rfl) ?_
      obtain ⟨r10_, z8_, h9_, hF⟩ := Ybs hF
      refine YcallVi (rest := []) S hw (c_X9_fewestDrains hdj hzz1_ hx1 h9_) my_X9_fewestDrains mi_X9_fewestDrains ml_X10_265 zd_41 zc_X9 rfl (Zrr hR (by decide)) ⟨Nat.zero_le _, Nat.zero_le _⟩ hl.1 rfl rfl (Nat.le_of_ble_eq_true rfl) dX10_drains_22 (fun hrr10_ hzz8_ H locs hw => ?_)
      refine lv_goto (tgt := 33) S.1 S.2.1 dX10_drains_25 (by decide) ?_
      exact w_X10_drains_b33 S hr hlk hR hdj _ _ _ _ _ hF hw hzz8_ hrr10_ (lv_sub hl [] rfl))
set_option maxRecDepth 100000 in
set_option maxHeartbeats 4000000 in
theorem w_X3_isOfHouse_b15 {RR : Int × ZI} (S : CallFix p m c cX3_isOfHouse 3 s args Ztbl RX3) (hr : meth.sig.returnType = some .boolean) (hlk : meth.locks = false) (hR : 0 ≤ R.frames ∧ 60 * (0) ≤ R.locals) (hdj : Zdj ad) : ∀ (z : ZI) (y0 : Int) (H : Heap) (locs : List Loc) (ls : Array Slot), X3_isOfHouse_b15 z y0 = some RR → ZW D cA ad (ZA ad) (Zc z) s H locs → Zok z → InR y0 → lv_has ls 3 [] → W p l e R s m args below meth c H locs 0 0 (MQ below (YQi D cA ad RR.1 RR.2) args s 0 0 (ZA ad)) (F0 m 15 ls [.int (i32 (y0))]) := by
  intro z y0 H locs ls hF hw hzz hy0 hl
  unfold X3_isOfHouse_b15 at hF
  obtain ⟨b1_, hF⟩ := Zgs hF
  exact Yiretz S hw hzz hy0 hr hlk b1_ hF dX3_isOfHouse_15
set_option maxRecDepth 100000 in
set_option maxHeartbeats 4000000 in
theorem c_X3_isOfHouse {l : Launch} {D : va_G} {cA : Nat → ClassId} {ad : Nat → Nat} (hdj : Zdj ad) {z z1 : ZI} {x1 : Int} {x2 : Int} {r : Int} (hzz : Zok z) (hx1 : InR x1) (hx2 : InR x2) (hF : F_X3_isOfHouse z x1 x2 = some (r, z1)) : YMi l D cA ad (0) yX3_isOfHouse cX3_isOfHouse 3 (some .boolean) [.ref (ad 11), .int (i32 x1), .int (i32 x2)] z r z1 :=
  Zmet hdj (by decide) rfl (Nat.le_of_ble_eq_true rfl) (lv := [(0, .ref (ad 11)), (1, .int (i32 (x1))), (2, .int (i32 (x2)))]) rfl (fun p e s m args below meth c ls S hr hlk hw hl => by
    have hR : 0 ≤ (Zrm (0)).frames ∧ 60 * (0) ≤ (Zrm (0)).locals := ⟨Nat.le_refl _, Nat.le_refl _⟩
    unfold F_X3_isOfHouse at hF
    revert hR
    generalize Zrm (0) = R
    intro hR
    refine lv_aload_n S.1 S.2.1 dX3_isOfHouse_0 rfl (lv_at hl 0 rfl) ?_
    refine gf_X3_27 S hw dX3_isOfHouse_1 ?_
    refine lv_iload_n S.1 S.2.1 dX3_isOfHouse_4 rfl (lv_at hl 1 rfl) ?_
    obtain ⟨b1_, hF⟩ := Zgs hF
    refine Yiald S hw zd_15 (by decide) hx1 b1_ dX3_isOfHouse_5 ?_
    refine lv_iload_n S.1 S.2.1 dX3_isOfHouse_6 rfl (lv_at hl 2 rfl) ?_
    refine Yicmp_ne (tgt := 14) S (hzz.1 _ _ (by decide)) hx2 dX3_isOfHouse_7 (by decide) (fun c2_ => ?_) (fun c2_ => ?_)
    · replace hF := ZtN c2_ hF
      refine lv_iconst (v := i32 0) S.1 S.2.1 dX3_isOfHouse_14 ic_0 ?_
      exact w_X3_isOfHouse_b15 S hr hlk hR hdj _ _ _ _ _ hF hw hzz r_0 (lv_sub hl [] rfl)
    · replace hF := ZtP c2_ hF
      refine lv_iconst (v := i32 1) S.1 S.2.1 dX3_isOfHouse_10 ic_1 ?_
      refine lv_goto (tgt := 15) S.1 S.2.1 dX3_isOfHouse_11 (by decide) ?_
      exact w_X3_isOfHouse_b15 S hr hlk hR hdj _ _ _ _ _ hF hw hzz r_1 (lv_sub hl [] rfl))
set_option maxRecDepth 100000 in
set_option maxHeartbeats 4000000 in
theorem c_X6_clearLetters {l : Launch} {D : va_G} {cA : Nat → ClassId} {ad : Nat → Nat} (hdj : Zdj ad) {z z1 : ZI} (hzz : Zok z) (hF : F_X6_clearLetters z  = some ((), z1)) : YMv l D cA ad (1) yX6_clearLetters cX6_clearLetters 1 [.ref (ad 30)] z z1 :=
  Zmet hdj (by decide) rfl (Nat.le_of_ble_eq_true rfl) (lv := [(0, .ref (ad 30))]) rfl (fun p e s m args below meth c ls S hr hlk hw hl => by
    have hR : 1 ≤ (Zrm (1)).frames ∧ 60 * (1) ≤ (Zrm (1)).locals := ⟨Nat.le_refl _, Nat.le_refl _⟩
    unfold F_X6_clearLetters at hF
    revert hR
    generalize Zrm (1) = R
    intro hR
    refine lv_aload_n S.1 S.2.1 dX6_clearLetters_0 rfl (lv_at hl 0 rfl) ?_
    refine gf_X6_19 S hw dX6_clearLetters_1 ?_
    refine lv_iconst (v := i32 0) S.1 S.2.1 dX6_clearLetters_4 ic_0 ?_
    obtain ⟨r3_, z1_, h2_, hF⟩ := Ybs hF
    refine YcallSv (rest := []) S hw (c_J7_fill_53178 hdj zd_31 (by decide) (by decide) hzz r_0 h2_) my_J7_fill_53178 ms_J7_fill_53178 ml_X6_31 (Zrr hR (by decide)) ⟨Nat.zero_le _, Nat.zero_le _⟩ hl.1 rfl rfl (Nat.le_of_ble_eq_true rfl) dX6_clearLetters_5 (fun hzz1_ H locs hw => ?_)
    exact Yvret S hw hzz1_ hr hlk hF dX6_clearLetters_8)
set_option maxRecDepth 100000 in
set_option maxHeartbeats 4000000 in
theorem c_X3_ageOn {l : Launch} {D : va_G} {cA : Nat → ClassId} {ad : Nat → Nat} (hdj : Zdj ad) {z z1 : ZI} {x1 : Int} {x2 : Int} {r : Int} (hzz : Zok z) (hx1 : InR x1) (hx2 : InR x2) (hF : F_X3_ageOn z x1 x2 = some (r, z1)) : YMi l D cA ad (0) yX3_ageOn cX3_ageOn 3 (some .int) [.ref (ad 11), .int (i32 x1), .int (i32 x2)] z r z1 :=
  Zmet hdj (by decide) rfl (Nat.le_of_ble_eq_true rfl) (lv := [(0, .ref (ad 11)), (1, .int (i32 (x1))), (2, .int (i32 (x2)))]) rfl (fun p e s m args below meth c ls S hr hlk hw hl => by
    have hR : 0 ≤ (Zrm (0)).frames ∧ 60 * (0) ≤ (Zrm (0)).locals := ⟨Nat.le_refl _, Nat.le_refl _⟩
    unfold F_X3_ageOn at hF
    revert hR
    generalize Zrm (0) = R
    intro hR
    refine lv_iload_n S.1 S.2.1 dX3_ageOn_0 rfl (lv_at hl 2 rfl) ?_
    refine lv_aload_n S.1 S.2.1 dX3_ageOn_1 rfl (lv_at hl 0 rfl) ?_
    refine gf_X3_30 S hw dX3_ageOn_2 ?_
    refine lv_iload_n S.1 S.2.1 dX3_ageOn_5 rfl (lv_at hl 1 rfl) ?_
    obtain ⟨b1_, hF⟩ := Zgs hF
    refine Yiald S hw zd_16 (by decide) hx1 b1_ dX3_ageOn_6 ?_
    obtain ⟨g2_, hF⟩ := Zgs hF
    refine Yisub S dX3_ageOn_7 ?_
    exact Yireti S hw hzz g2_ hr hlk hF dX3_ageOn_8)
set_option maxRecDepth 100000 in
set_option maxHeartbeats 4000000 in
theorem w_X7_addToLetters_b86 {RR : Unit × ZI} (S : CallFix p m c cX7_addToLetters 5 s args Ztbl RX7) (hr : meth.sig.returnType = none) (hlk : meth.locks = false) (hR : 1 ≤ R.frames ∧ 60 * (1) ≤ R.locals) (hdj : Zdj ad) : ∀ (z : ZI) (H : Heap) (locs : List Loc) (ls : Array Slot), X7_addToLetters_b86 z  = some RR → ZW D cA ad (ZA ad) (Zc z) s H locs → Zok z → lv_has ls 5 [] → W p l e R s m args below meth c H locs 0 0 (MQ below (YQv D cA ad RR.2) args s 0 0 (ZA ad)) (F0 m 86 ls []) := by
  intro z  H locs ls hF hw hzz  hl
  unfold X7_addToLetters_b86 at hF
  exact Yvret S hw hzz hr hlk hF dX7_addToLetters_86
set_option maxRecDepth 100000 in
set_option maxHeartbeats 4000000 in
theorem w_X7_addToLetters_b63 {RR : Unit × ZI} (S : CallFix p m c cX7_addToLetters 5 s args Ztbl RX7) (hr : meth.sig.returnType = none) (hlk : meth.locks = false) (hR : 1 ≤ R.frames ∧ 60 * (1) ≤ R.locals) (hdj : Zdj ad) : ∀ (z : ZI) (x2 : Int) (x3 : Int) (H : Heap) (locs : List Loc) (ls : Array Slot), X7_addToLetters_b63 z x2 x3 = some RR → ZW D cA ad (ZA ad) (Zc z) s H locs → Zok z → InR x2 → InR x3 → lv_has ls 5 [(0, .ref (ad 24)), (1, .ref (ad 11)), (2, .int (i32 (x2))), (3, .int (i32 (x3)))] → W p l e R s m args below meth c H locs 0 0 (MQ below (YQv D cA ad RR.2) args s 0 0 (ZA ad)) (F0 m 63 ls []) := by
  intro z x2 x3 H locs ls hF hw hzz hx2 hx3 hl
  unfold X7_addToLetters_b63 at hF
  refine lv_aload_n S.1 S.2.1 dX7_addToLetters_63 rfl (lv_at hl 1 rfl) ?_
  refine lv_iload_n S.1 S.2.1 dX7_addToLetters_64 rfl (lv_at hl 2 rfl) ?_
  refine lv_iload_n S.1 S.2.1 dX7_addToLetters_65 rfl (lv_at hl 3 rfl) ?_
  obtain ⟨r3_, z1_, h2_, hF⟩ := Ybs hF
  refine YcallVi (rest := []) S hw (c_X3_stateOn hdj hzz hx2 hx3 h2_) my_X3_stateOn mi_X3_stateOn ml_X7_100 zd_11 zc_X3 rfl (Zrr hR (by decide)) ⟨Nat.zero_le _, Nat.zero_le _⟩ hl.1 rfl rfl (Nat.le_of_ble_eq_true rfl) dX7_addToLetters_66 (fun hrr3_ hzz1_ H locs hw => ?_)
  refine lv_iconst (v := i32 2) S.1 S.2.1 dX7_addToLetters_69 ic_2 ?_
  refine Yicmp_ne (tgt := 86) S hrr3_ r_2 dX7_addToLetters_70 (by decide) (fun c4_ => ?_) (fun c4_ => ?_)
  · replace hF := ZtN c4_ hF
    exact w_X7_addToLetters_b86 S hr hlk hR hdj _ _ _ _ hF hw hzz1_  (lv_sub hl [] rfl)
  · replace hF := ZtP c4_ hF
    refine lv_aload_n S.1 S.2.1 dX7_addToLetters_73 rfl (lv_at hl 0 rfl) ?_
    refine gf_X7_31 S hw dX7_addToLetters_74 ?_
    refine gf_X7_82 S hw dX7_addToLetters_77 ?_
    refine lv_iconst (v := i32 3) S.1 S.2.1 dX7_addToLetters_80 ic_3 ?_
    refine lv_dup2_11 S.1 S.2.1 dX7_addToLetters_81 rfl rfl ?_
    obtain ⟨b5_, hF⟩ := Zgs hF
    refine Yiald S hw zd_31 (by decide) r_3 b5_ dX7_addToLetters_82 ?_
    refine lv_iconst (v := i32 1) S.1 S.2.1 dX7_addToLetters_83 ic_1 ?_
    obtain ⟨g6_, hF⟩ := Zgs hF
    refine Yiadd S dX7_addToLetters_84 ?_
    obtain ⟨b7_, hF⟩ := Zgs hF
    refine Yiast S hw hzz1_ zd_31 (by decide) r_3 g6_ b7_ dX7_addToLetters_85 (fun z8_ H locs ez hzz8_ hw => ?_)
    replace hF := Zle ez hF; clear ez
    exact w_X7_addToLetters_b86 S hr hlk hR hdj _ _ _ _ hF hw hzz8_  (lv_sub hl [] rfl)
set_option maxRecDepth 100000 in
set_option maxHeartbeats 4000000 in
theorem w_X7_addToLetters_b42 {RR : Unit × ZI} (S : CallFix p m c cX7_addToLetters 5 s args Ztbl RX7) (hr : meth.sig.returnType = none) (hlk : meth.locks = false) (hR : 1 ≤ R.frames ∧ 60 * (1) ≤ R.locals) (hdj : Zdj ad) : ∀ (z : ZI) (x2 : Int) (x3 : Int) (x4 : Int) (H : Heap) (locs : List Loc) (ls : Array Slot), X7_addToLetters_b42 z x2 x3 x4 = some RR → ZW D cA ad (ZA ad) (Zc z) s H locs → Zok z → InR x2 → InR x3 → InR x4 → lv_has ls 5 [(0, .ref (ad 24)), (1, .ref (ad 11)), (2, .int (i32 (x2))), (3, .int (i32 (x3))), (4, .int (i32 (x4)))] → W p l e R s m args below meth c H locs 0 0 (MQ below (YQv D cA ad RR.2) args s 0 0 (ZA ad)) (F0 m 42 ls []) := by
  intro z x2 x3 x4 H locs ls hF hw hzz hx2 hx3 hx4 hl
  unfold X7_addToLetters_b42 at hF
  refine lv_iload S.1 S.2.1 dX7_addToLetters_42 (lv_at hl 4 rfl) ?_
  refine lv_sipush (v := i32 21900) S.1 S.2.1 dX7_addToLetters_44 sp_21900 ?_
  refine Yicmp_le (tgt := 63) S hx4 r_21900 dX7_addToLetters_47 (by decide) (fun c1_ => ?_) (fun c1_ => ?_)
  · replace hF := ZtP c1_ hF
    exact w_X7_addToLetters_b63 S hr hlk hR hdj _ _ _ _ _ _ hF hw hzz hx2 hx3 (lv_sub hl [0, 1, 2, 3] rfl)
  · replace hF := ZtN c1_ hF
    refine lv_aload_n S.1 S.2.1 dX7_addToLetters_50 rfl (lv_at hl 0 rfl) ?_
    refine gf_X7_31 S hw dX7_addToLetters_51 ?_
    refine gf_X7_82 S hw dX7_addToLetters_54 ?_
    refine lv_iconst (v := i32 2) S.1 S.2.1 dX7_addToLetters_57 ic_2 ?_
    refine lv_dup2_11 S.1 S.2.1 dX7_addToLetters_58 rfl rfl ?_
    obtain ⟨b2_, hF⟩ := Zgs hF
    refine Yiald S hw zd_31 (by decide) r_2 b2_ dX7_addToLetters_59 ?_
    refine lv_iconst (v := i32 1) S.1 S.2.1 dX7_addToLetters_60 ic_1 ?_
    obtain ⟨g3_, hF⟩ := Zgs hF
    refine Yiadd S dX7_addToLetters_61 ?_
    obtain ⟨b4_, hF⟩ := Zgs hF
    refine Yiast S hw hzz zd_31 (by decide) r_2 g3_ b4_ dX7_addToLetters_62 (fun z5_ H locs ez hzz5_ hw => ?_)
    replace hF := Zle ez hF; clear ez
    exact w_X7_addToLetters_b63 S hr hlk hR hdj _ _ _ _ _ _ hF hw hzz5_ hx2 hx3 (lv_sub hl [0, 1, 2, 3] rfl)
set_option maxRecDepth 100000 in
set_option maxHeartbeats 4000000 in
theorem c_X7_addToLetters {l : Launch} {D : va_G} {cA : Nat → ClassId} {ad : Nat → Nat} (hdj : Zdj ad) {z z1 : ZI} {x2 : Int} {x3 : Int} (hzz : Zok z) (hx2 : InR x2) (hx3 : InR x3) (hF : F_X7_addToLetters z x2 x3 = some ((), z1)) : YMv l D cA ad (1) yX7_addToLetters cX7_addToLetters 5 [.ref (ad 24), .ref (ad 11), .int (i32 x2), .int (i32 x3)] z z1 :=
  Zmet hdj (by decide) rfl (Nat.le_of_ble_eq_true rfl) (lv := [(0, .ref (ad 24)), (1, .ref (ad 11)), (2, .int (i32 (x2))), (3, .int (i32 (x3)))]) rfl (fun p e s m args below meth c ls S hr hlk hw hl => by
    have hR : 1 ≤ (Zrm (1)).frames ∧ 60 * (1) ≤ (Zrm (1)).locals := ⟨Nat.le_refl _, Nat.le_refl _⟩
    unfold F_X7_addToLetters at hF
    revert hR
    generalize Zrm (1) = R
    intro hR
    refine lv_aload_n S.1 S.2.1 dX7_addToLetters_0 rfl (lv_at hl 1 rfl) ?_
    refine lv_iload_n S.1 S.2.1 dX7_addToLetters_1 rfl (lv_at hl 2 rfl) ?_
    refine lv_iload_n S.1 S.2.1 dX7_addToLetters_2 rfl (lv_at hl 3 rfl) ?_
    obtain ⟨r3_, z1_, h2_, hF⟩ := Ybs hF
    refine YcallVi (rest := []) S hw (c_X3_ageOn hdj hzz hx2 hx3 h2_) my_X3_ageOn mi_X3_ageOn ml_X7_97 zd_11 zc_X3 rfl (Zrr hR (by decide)) ⟨Nat.zero_le _, Nat.zero_le _⟩ hl.1 rfl rfl (Nat.le_of_ble_eq_true rfl) dX7_addToLetters_3 (fun hrr3_ hzz1_ H locs hw => ?_)
    refine lv_istore (lv' := [(4, .int (i32 (r3_))), (0, .ref (ad 24)), (1, .ref (ad 11)), (2, .int (i32 (x2))), (3, .int (i32 (x3)))]) S.1 S.2.1 dX7_addToLetters_6 hl (by decide) rfl (fun ls hl => ?_)
    refine lv_aload_n S.1 S.2.1 dX7_addToLetters_8 rfl (lv_at hl 1 rfl) ?_
    refine gf_X7_31 S hw dX7_addToLetters_9 ?_
    refine gf_X7_82 S hw dX7_addToLetters_12 ?_
    refine lv_iconst (v := i32 0) S.1 S.2.1 dX7_addToLetters_15 ic_0 ?_
    refine lv_dup2_11 S.1 S.2.1 dX7_addToLetters_16 rfl rfl ?_
    obtain ⟨b4_, hF⟩ := Zgs hF
    refine Yiald S hw zd_31 (by decide) r_0 b4_ dX7_addToLetters_17 ?_
    refine lv_iconst (v := i32 1) S.1 S.2.1 dX7_addToLetters_18 ic_1 ?_
    obtain ⟨g5_, hF⟩ := Zgs hF
    refine Yiadd S dX7_addToLetters_19 ?_
    obtain ⟨b6_, hF⟩ := Zgs hF
    refine Yiast S hw hzz1_ zd_31 (by decide) r_0 g5_ b6_ dX7_addToLetters_20 (fun z7_ H locs ez hzz7_ hw => ?_)
    replace hF := Zle ez hF; clear ez
    refine lv_iload S.1 S.2.1 dX7_addToLetters_21 (lv_at hl 0 rfl) ?_
    refine lv_sipush (v := i32 1825) S.1 S.2.1 dX7_addToLetters_23 sp_1825 ?_
    refine Yicmp_ge (tgt := 42) S hrr3_ r_1825 dX7_addToLetters_26 (by decide) (fun c8_ => ?_) (fun c8_ => ?_)
    · replace hF := ZtP c8_ hF
      exact w_X7_addToLetters_b42 S hr hlk hR hdj _ _ _ _ _ _ _ hF hw hzz7_ hx2 hx3 hrr3_ (lv_sub hl [1, 2, 3, 4, 0] rfl)
    · replace hF := ZtN c8_ hF
      refine lv_aload_n S.1 S.2.1 dX7_addToLetters_29 rfl (lv_at hl 1 rfl) ?_
      refine gf_X7_31 S hw dX7_addToLetters_30 ?_
      refine gf_X7_82 S hw dX7_addToLetters_33 ?_
      refine lv_iconst (v := i32 1) S.1 S.2.1 dX7_addToLetters_36 ic_1 ?_
      refine lv_dup2_11 S.1 S.2.1 dX7_addToLetters_37 rfl rfl ?_
      obtain ⟨b9_, hF⟩ := Zgs hF
      refine Yiald S hw zd_31 (by decide) r_1 b9_ dX7_addToLetters_38 ?_
      refine lv_iconst (v := i32 1) S.1 S.2.1 dX7_addToLetters_39 ic_1 ?_
      obtain ⟨g10_, hF⟩ := Zgs hF
      refine Yiadd S dX7_addToLetters_40 ?_
      obtain ⟨b11_, hF⟩ := Zgs hF
      refine Yiast S hw hzz7_ zd_31 (by decide) r_1 g10_ b11_ dX7_addToLetters_41 (fun z12_ H locs ez hzz12_ hw => ?_)
      replace hF := Zle ez hF; clear ez
      exact w_X7_addToLetters_b42 S hr hlk hR hdj _ _ _ _ _ _ _ hF hw hzz12_ hx2 hx3 hrr3_ (lv_sub hl [1, 2, 3, 4, 0] rfl))
set_option maxRecDepth 100000 in
set_option maxHeartbeats 4000000 in
theorem w_X7_inForce_b74 {RR : Int × ZI} (S : CallFix p m c cX7_inForce 6 s args Ztbl RX7) (hr : meth.sig.returnType = some .int) (hlk : meth.locks = false) (hR : 0 ≤ R.frames ∧ 60 * (0) ≤ R.locals) (hdj : Zdj ad) {k6 : ZI → Int → Int → Int → Int → Option (Int × ZI)} (hk6 : ∀ (z : ZI) (x1 : Int) (x2 : Int) (x3 : Int) (x4 : Int) (H : Heap) (locs : List Loc) (ls : Array Slot), k6 z x1 x2 x3 x4 = some RR → ZW D cA ad (ZA ad) (Zc z) s H locs → Zok z → InR x1 → InR x2 → InR x3 → InR x4 → lv_has ls 6 [(0, .ref (ad 24)), (1, .int (i32 (x1))), (2, .int (i32 (x2))), (3, .int (i32 (x3))), (4, .int (i32 (x4)))] → W p l e R s m args below meth c H locs 0 0 (MQ below (YQi D cA ad RR.1 RR.2) args s 0 0 (ZA ad)) (F0 m 6 ls [])) : ∀ (z : ZI) (x1 : Int) (x2 : Int) (x3 : Int) (x4 : Int) (H : Heap) (locs : List Loc) (ls : Array Slot), X7_inForce_b74 k6 z x1 x2 x3 x4 = some RR → ZW D cA ad (ZA ad) (Zc z) s H locs → Zok z → InR x1 → InR x2 → InR x3 → InR x4 → lv_has ls 6 [(0, .ref (ad 24)), (1, .int (i32 (x1))), (2, .int (i32 (x2))), (3, .int (i32 (x3))), (4, .int (i32 (x4)))] → W p l e R s m args below meth c H locs 0 0 (MQ below (YQi D cA ad RR.1 RR.2) args s 0 0 (ZA ad)) (F0 m 74 ls []) := by
  intro z x1 x2 x3 x4 H locs ls hF hw hzz hx1 hx2 hx3 hx4 hl
  unfold X7_inForce_b74 at hF
  obtain ⟨g1_, hF⟩ := Zgs hF
  refine lv_iinc (v := i32 (x4 + 1)) (lv' := [(4, .int (i32 (x4 + 1))), (0, .ref (ad 24)), (1, .int (i32 (x1))), (2, .int (i32 (x2))), (3, .int (i32 (x3)))]) S.1 S.2.1 dX7_inForce_74 hl (k := 4) rfl Yiinc (by decide) rfl (fun ls hl => ?_)
  refine lv_goto (tgt := 6) S.1 S.2.1 dX7_inForce_77 (by decide) ?_
  exact hk6 _ _ _ _ _ _ _ _ hF hw hzz hx1 hx2 hx3 g1_ (lv_sub hl [1, 2, 3, 4, 0] rfl)
set_option maxRecDepth 100000 in
set_option maxHeartbeats 4000000 in
theorem w_X7_inForce_b71 {RR : Int × ZI} (S : CallFix p m c cX7_inForce 6 s args Ztbl RX7) (hr : meth.sig.returnType = some .int) (hlk : meth.locks = false) (hR : 0 ≤ R.frames ∧ 60 * (0) ≤ R.locals) (hdj : Zdj ad) {k6 : ZI → Int → Int → Int → Int → Option (Int × ZI)} (hk6 : ∀ (z : ZI) (x1 : Int) (x2 : Int) (x3 : Int) (x4 : Int) (H : Heap) (locs : List Loc) (ls : Array Slot), k6 z x1 x2 x3 x4 = some RR → ZW D cA ad (ZA ad) (Zc z) s H locs → Zok z → InR x1 → InR x2 → InR x3 → InR x4 → lv_has ls 6 [(0, .ref (ad 24)), (1, .int (i32 (x1))), (2, .int (i32 (x2))), (3, .int (i32 (x3))), (4, .int (i32 (x4)))] → W p l e R s m args below meth c H locs 0 0 (MQ below (YQi D cA ad RR.1 RR.2) args s 0 0 (ZA ad)) (F0 m 6 ls [])) : ∀ (z : ZI) (x1 : Int) (x2 : Int) (x4 : Int) (H : Heap) (locs : List Loc) (ls : Array Slot), X7_inForce_b71 k6 z x1 x2 x4 = some RR → ZW D cA ad (ZA ad) (Zc z) s H locs → Zok z → InR x1 → InR x2 → InR x4 → lv_has ls 6 [(0, .ref (ad 24)), (1, .int (i32 (x1))), (2, .int (i32 (x2))), (4, .int (i32 (x4)))] → W p l e R s m args below meth c H locs 0 0 (MQ below (YQi D cA ad RR.1 RR.2) args s 0 0 (ZA ad)) (F0 m 71 ls []) := by
  intro z x1 x2 x4 H locs ls hF hw hzz hx1 hx2 hx4 hl
  unfold X7_inForce_b71 at hF
  refine lv_iload S.1 S.2.1 dX7_inForce_71 (lv_at hl 3 rfl) ?_
  refine lv_istore_n (lv' := [(3, .int (i32 (x4))), (0, .ref (ad 24)), (1, .int (i32 (x1))), (2, .int (i32 (x2))), (4, .int (i32 (x4)))]) S.1 S.2.1 dX7_inForce_73 rfl hl (by decide) rfl (fun ls hl => ?_)
  exact w_X7_inForce_b74 S hr hlk hR hdj hk6 _ _ _ _ _ _ _ _ hF hw hzz hx1 hx2 hx4 hx4 (lv_sub hl [1, 2, 3, 0, 4] rfl)
set_option maxRecDepth 100000 in
set_option maxHeartbeats 4000000 in
theorem w_X7_inForce_b42 {RR : Int × ZI} (S : CallFix p m c cX7_inForce 6 s args Ztbl RX7) (hr : meth.sig.returnType = some .int) (hlk : meth.locks = false) (hR : 0 ≤ R.frames ∧ 60 * (0) ≤ R.locals) (hdj : Zdj ad) {k6 : ZI → Int → Int → Int → Int → Option (Int × ZI)} (hk6 : ∀ (z : ZI) (x1 : Int) (x2 : Int) (x3 : Int) (x4 : Int) (H : Heap) (locs : List Loc) (ls : Array Slot), k6 z x1 x2 x3 x4 = some RR → ZW D cA ad (ZA ad) (Zc z) s H locs → Zok z → InR x1 → InR x2 → InR x3 → InR x4 → lv_has ls 6 [(0, .ref (ad 24)), (1, .int (i32 (x1))), (2, .int (i32 (x2))), (3, .int (i32 (x3))), (4, .int (i32 (x4)))] → W p l e R s m args below meth c H locs 0 0 (MQ below (YQi D cA ad RR.1 RR.2) args s 0 0 (ZA ad)) (F0 m 6 ls [])) : ∀ (z : ZI) (x1 : Int) (x2 : Int) (x3 : Int) (x4 : Int) (y0 : Int) (H : Heap) (locs : List Loc) (ls : Array Slot), X7_inForce_b42 k6 z x1 x2 x3 x4 y0 = some RR → ZW D cA ad (ZA ad) (Zc z) s H locs → Zok z → InR x1 → InR x2 → InR x3 → InR x4 → InR y0 → lv_has ls 6 [(0, .ref (ad 24)), (1, .int (i32 (x1))), (2, .int (i32 (x2))), (3, .int (i32 (x3))), (4, .int (i32 (x4)))] → W p l e R s m args below meth c H locs 0 0 (MQ below (YQi D cA ad RR.1 RR.2) args s 0 0 (ZA ad)) (F0 m 42 ls [.int (i32 (y0))]) := by
  intro z x1 x2 x3 x4 y0 H locs ls hF hw hzz hx1 hx2 hx3 hx4 hy0 hl
  unfold X7_inForce_b42 at hF
  refine lv_istore (lv' := [(5, .int (i32 (y0))), (0, .ref (ad 24)), (1, .int (i32 (x1))), (2, .int (i32 (x2))), (3, .int (i32 (x3))), (4, .int (i32 (x4)))]) S.1 S.2.1 dX7_inForce_42 hl (by decide) rfl (fun ls hl => ?_)
  refine lv_iload S.1 S.2.1 dX7_inForce_44 (lv_at hl 0 rfl) ?_
  refine Yif_eq (tgt := 74) S hy0 dX7_inForce_46 (by decide) (fun c1_ => ?_) (fun c1_ => ?_)
  · replace hF := ZtP c1_ hF
    exact w_X7_inForce_b74 S hr hlk hR hdj hk6 _ _ _ _ _ _ _ _ hF hw hzz hx1 hx2 hx3 hx4 (lv_sub hl [1, 2, 3, 4, 5] rfl)
  · replace hF := ZtN c1_ hF
    refine lv_iload_n S.1 S.2.1 dX7_inForce_49 rfl (lv_at hl 4 rfl) ?_
    refine lv_bipush (v := i32 (-9)) S.1 S.2.1 dX7_inForce_50 bp_m9 ?_
    refine Yicmp_eq (tgt := 71) S hx3 r_m9 dX7_inForce_52 (by decide) (fun c2_ => ?_) (fun c2_ => ?_)
    · replace hF := ZtP c2_ hF
      exact w_X7_inForce_b71 S hr hlk hR hdj hk6 _ _ _ _ _ _ _ hF hw hzz hx1 hx2 hx4 (lv_sub hl [1, 2, 3, 5] rfl)
    · replace hF := ZtN c2_ hF
      refine lv_aload_n S.1 S.2.1 dX7_inForce_55 rfl (lv_at hl 1 rfl) ?_
      refine gf_X7_25 S hw dX7_inForce_56 ?_
      refine lv_iload S.1 S.2.1 dX7_inForce_59 (lv_at hl 5 rfl) ?_
      obtain ⟨b3_, hF⟩ := Zgs hF
      refine Yiald S hw zd_29 (by decide) hx4 b3_ dX7_inForce_61 ?_
      refine lv_aload_n S.1 S.2.1 dX7_inForce_62 rfl (lv_at hl 1 rfl) ?_
      refine gf_X7_25 S hw dX7_inForce_63 ?_
      refine lv_iload_n S.1 S.2.1 dX7_inForce_66 rfl (lv_at hl 4 rfl) ?_
      obtain ⟨b4_, hF⟩ := Zgs hF
      refine Yiald S hw zd_29 (by decide) hx3 b4_ dX7_inForce_67 ?_
      refine Yicmp_lt (tgt := 74) S (hzz.1 _ _ (by decide)) (hzz.1 _ _ (by decide)) dX7_inForce_68 (by decide) (fun c5_ => ?_) (fun c5_ => ?_)
      · replace hF := ZtP c5_ hF
        exact w_X7_inForce_b74 S hr hlk hR hdj hk6 _ _ _ _ _ _ _ _ hF hw hzz hx1 hx2 hx3 hx4 (lv_sub hl [1, 2, 3, 4, 5] rfl)
      · replace hF := ZtN c5_ hF
        exact w_X7_inForce_b71 S hr hlk hR hdj hk6 _ _ _ _ _ _ _ hF hw hzz hx1 hx2 hx4 (lv_sub hl [1, 2, 3, 5] rfl)
set_option maxRecDepth 100000 in
set_option maxHeartbeats 4000000 in
theorem w_X7_inForce_b41 {RR : Int × ZI} (S : CallFix p m c cX7_inForce 6 s args Ztbl RX7) (hr : meth.sig.returnType = some .int) (hlk : meth.locks = false) (hR : 0 ≤ R.frames ∧ 60 * (0) ≤ R.locals) (hdj : Zdj ad) {k6 : ZI → Int → Int → Int → Int → Option (Int × ZI)} (hk6 : ∀ (z : ZI) (x1 : Int) (x2 : Int) (x3 : Int) (x4 : Int) (H : Heap) (locs : List Loc) (ls : Array Slot), k6 z x1 x2 x3 x4 = some RR → ZW D cA ad (ZA ad) (Zc z) s H locs → Zok z → InR x1 → InR x2 → InR x3 → InR x4 → lv_has ls 6 [(0, .ref (ad 24)), (1, .int (i32 (x1))), (2, .int (i32 (x2))), (3, .int (i32 (x3))), (4, .int (i32 (x4)))] → W p l e R s m args below meth c H locs 0 0 (MQ below (YQi D cA ad RR.1 RR.2) args s 0 0 (ZA ad)) (F0 m 6 ls [])) : ∀ (z : ZI) (x1 : Int) (x2 : Int) (x3 : Int) (x4 : Int) (H : Heap) (locs : List Loc) (ls : Array Slot), X7_inForce_b41 k6 z x1 x2 x3 x4 = some RR → ZW D cA ad (ZA ad) (Zc z) s H locs → Zok z → InR x1 → InR x2 → InR x3 → InR x4 → lv_has ls 6 [(0, .ref (ad 24)), (1, .int (i32 (x1))), (2, .int (i32 (x2))), (3, .int (i32 (x3))), (4, .int (i32 (x4)))] → W p l e R s m args below meth c H locs 0 0 (MQ below (YQi D cA ad RR.1 RR.2) args s 0 0 (ZA ad)) (F0 m 41 ls []) := by
  intro z x1 x2 x3 x4 H locs ls hF hw hzz hx1 hx2 hx3 hx4 hl
  unfold X7_inForce_b41 at hF
  refine lv_iconst (v := i32 0) S.1 S.2.1 dX7_inForce_41 ic_0 ?_
  exact w_X7_inForce_b42 S hr hlk hR hdj hk6 _ _ _ _ _ _ _ _ _ hF hw hzz hx1 hx2 hx3 hx4 r_0 (lv_sub hl [0, 1, 2, 3, 4] rfl)
set_option maxRecDepth 100000 in
set_option maxHeartbeats 4000000 in
theorem w_X7_inForce_L6 {RR : Int × ZI} (S : CallFix p m c cX7_inForce 6 s args Ztbl RX7) (hr : meth.sig.returnType = some .int) (hlk : meth.locks = false) (hR : 0 ≤ R.frames ∧ 60 * (0) ≤ R.locals) (hdj : Zdj ad) : ∀ (n : Nat) (z : ZI) (x1 : Int) (x2 : Int) (x3 : Int) (x4 : Int) (H : Heap) (locs : List Loc) (ls : Array Slot), X7_inForce_L6 n z x1 x2 x3 x4 = some RR → ZW D cA ad (ZA ad) (Zc z) s H locs → Zok z → InR x1 → InR x2 → InR x3 → InR x4 → lv_has ls 6 [(0, .ref (ad 24)), (1, .int (i32 (x1))), (2, .int (i32 (x2))), (3, .int (i32 (x3))), (4, .int (i32 (x4)))] → W p l e R s m args below meth c H locs 0 0 (MQ below (YQi D cA ad RR.1 RR.2) args s 0 0 (ZA ad)) (F0 m 6 ls []) := by
  intro n
  induction n with
  | zero => intro z x1 x2 x3 x4 H locs ls hF; exact nomatch hF
  | succ n hk6 =>
    intro z x1 x2 x3 x4 H locs ls hF hw hzz hx1 hx2 hx3 hx4 hl
    replace hF : X7_inForce_L6b (X7_inForce_L6 n) z x1 x2 x3 x4 = some RR := hF
    unfold X7_inForce_L6b at hF
    refine lv_iload S.1 S.2.1 dX7_inForce_6 (lv_at hl 4 rfl) ?_
    refine lv_aload_n S.1 S.2.1 dX7_inForce_8 rfl (lv_at hl 0 rfl) ?_
    refine gg_X7_50 S hw dX7_inForce_9 ?_
    refine Yicmp_ge (tgt := 80) S hx4 (hzz.1 24 2 (by decide)) dX7_inForce_12 (by decide) (fun c1_ => ?_) (fun c1_ => ?_)
    · replace hF := ZtP c1_ hF
      refine lv_iload_n S.1 S.2.1 dX7_inForce_80 rfl (lv_at hl 3 rfl) ?_
      exact Yireti S hw hzz hx3 hr hlk hF dX7_inForce_81
    · replace hF := ZtN c1_ hF
      refine lv_aload_n S.1 S.2.1 dX7_inForce_15 rfl (lv_at hl 0 rfl) ?_
      refine gf_X7_22 S hw dX7_inForce_16 ?_
      refine lv_iload S.1 S.2.1 dX7_inForce_19 (lv_at hl 4 rfl) ?_
      obtain ⟨b2_, hF⟩ := Zgs hF
      refine Yiald S hw zd_28 (by decide) hx4 b2_ dX7_inForce_21 ?_
      refine lv_iload_n S.1 S.2.1 dX7_inForce_22 rfl (lv_at hl 1 rfl) ?_
      refine Yicmp_ne (tgt := 41) S (hzz.1 _ _ (by decide)) hx1 dX7_inForce_23 (by decide) (fun c3_ => ?_) (fun c3_ => ?_)
      · replace hF := ZtN c3_ hF
        exact w_X7_inForce_b41 S hr hlk hR hdj hk6 _ _ _ _ _ _ _ _ hF hw hzz hx1 hx2 hx3 hx4 (lv_sub hl [0, 1, 2, 3, 4] rfl)
      · replace hF := ZtP c3_ hF
        refine lv_aload_n S.1 S.2.1 dX7_inForce_26 rfl (lv_at hl 0 rfl) ?_
        refine gf_X7_25 S hw dX7_inForce_27 ?_
        refine lv_iload S.1 S.2.1 dX7_inForce_30 (lv_at hl 4 rfl) ?_
        obtain ⟨b4_, hF⟩ := Zgs hF
        refine Yiald S hw zd_29 (by decide) hx4 b4_ dX7_inForce_32 ?_
        refine lv_iload_n S.1 S.2.1 dX7_inForce_33 rfl (lv_at hl 2 rfl) ?_
        refine Yicmp_gt (tgt := 41) S (hzz.1 _ _ (by decide)) hx2 dX7_inForce_34 (by decide) (fun c5_ => ?_) (fun c5_ => ?_)
        · replace hF := ZtP c5_ hF
          exact w_X7_inForce_b41 S hr hlk hR hdj hk6 _ _ _ _ _ _ _ _ hF hw hzz hx1 hx2 hx3 hx4 (lv_sub hl [0, 1, 2, 3, 4] rfl)
        · replace hF := ZtN c5_ hF
          refine lv_iconst (v := i32 1) S.1 S.2.1 dX7_inForce_37 ic_1 ?_
          refine lv_goto (tgt := 42) S.1 S.2.1 dX7_inForce_38 (by decide) ?_
          exact w_X7_inForce_b42 S hr hlk hR hdj hk6 _ _ _ _ _ _ _ _ _ hF hw hzz hx1 hx2 hx3 hx4 r_1 (lv_sub hl [0, 1, 2, 3, 4] rfl)
set_option maxRecDepth 100000 in
set_option maxHeartbeats 4000000 in
theorem c_X7_inForce {l : Launch} {D : va_G} {cA : Nat → ClassId} {ad : Nat → Nat} (hdj : Zdj ad) {z z1 : ZI} {x1 : Int} {x2 : Int} {r : Int} (hzz : Zok z) (hx1 : InR x1) (hx2 : InR x2) (hF : F_X7_inForce z x1 x2 = some (r, z1)) : YMi l D cA ad (0) yX7_inForce cX7_inForce 6 (some .int) [.ref (ad 24), .int (i32 x1), .int (i32 x2)] z r z1 :=
  Zmet hdj (by decide) rfl (Nat.le_of_ble_eq_true rfl) (lv := [(0, .ref (ad 24)), (1, .int (i32 (x1))), (2, .int (i32 (x2)))]) rfl (fun p e s m args below meth c ls S hr hlk hw hl => by
    have hR : 0 ≤ (Zrm (0)).frames ∧ 60 * (0) ≤ (Zrm (0)).locals := ⟨Nat.le_refl _, Nat.le_refl _⟩
    unfold F_X7_inForce at hF
    revert hR
    generalize Zrm (0) = R
    intro hR
    refine lv_bipush (v := i32 (-9)) S.1 S.2.1 dX7_inForce_0 bp_m9 ?_
    refine lv_istore_n (lv' := [(3, .int (i32 ((-9)))), (0, .ref (ad 24)), (1, .int (i32 (x1))), (2, .int (i32 (x2)))]) S.1 S.2.1 dX7_inForce_2 rfl hl (by decide) rfl (fun ls hl => ?_)
    refine lv_iconst (v := i32 0) S.1 S.2.1 dX7_inForce_3 ic_0 ?_
    refine lv_istore (lv' := [(4, .int (i32 (0))), (3, .int (i32 ((-9)))), (0, .ref (ad 24)), (1, .int (i32 (x1))), (2, .int (i32 (x2)))]) S.1 S.2.1 dX7_inForce_4 hl (by decide) rfl (fun ls hl => ?_)
    exact w_X7_inForce_L6 S hr hlk hR hdj Zfuel _ _ _ _ _ _ _ _ hF hw hzz hx1 hx2 r_m9 r_0 (lv_sub hl [2, 3, 4, 1, 0] rfl))
set_option maxRecDepth 100000 in
set_option maxHeartbeats 4000000 in
theorem w_X6_read_b60 {a1 n1 : Nat} (ha1 : ZDS[a1]? = some (.inr (1, n1))) (na1 : a1 < 1000) (bn1 : InR (n1 : Int)) {RR : Int × ZI} (S : CallFix p m c cX6_read 5 s args Ztbl RX6) (hr : meth.sig.returnType = some .int) (hlk : meth.locks = false) (hR : 43 ≤ R.frames ∧ 60 * (43) ≤ R.locals) (hdj : Zdj ad) : ∀ (z : ZI) (x4 : Int) (H : Heap) (locs : List Loc) (ls : Array Slot), X6_read_b60 a1 n1 z x4 = some RR → ZW D cA ad (ZA ad) (Zc z) s H locs → Zok z → InR x4 → lv_has ls 5 [(4, .int (i32 (x4)))] → W p l e R s m args below meth c H locs 0 0 (MQ below (YQi D cA ad RR.1 RR.2) args s 0 0 (ZA ad)) (F0 m 60 ls []) := by
  intro z x4 H locs ls hF hw hzz hx4 hl
  unfold X6_read_b60 at hF
  refine lv_iload S.1 S.2.1 dX6_read_60 (lv_at hl 0 rfl) ?_
  exact Yireti S hw hzz hx4 hr hlk hF dX6_read_62
set_option maxRecDepth 100000 in
set_option maxHeartbeats 4000000 in
theorem c_X6_read {l : Launch} {D : va_G} {cA : Nat → ClassId} {ad : Nat → Nat} (hdj : Zdj ad) {a1 n1 : Nat} (ha1 : ZDS[a1]? = some (.inr (1, n1))) (na1 : a1 < 1000) (bn1 : InR (n1 : Int)) {z z1 : ZI} {x2 : Int} {x3 : Int} {r : Int} (hzz : Zok z) (hx2 : InR x2) (hx3 : InR x3) (hF : F_X6_read a1 n1 z x2 x3 = some (r, z1)) : YMi l D cA ad (43) yX6_read cX6_read 5 (some .int) [.ref (ad 30), .ref (ad a1), .int (i32 x2), .int (i32 x3)] z r z1 :=
  Zmet hdj (by decide) rfl (Nat.le_of_ble_eq_true rfl) (lv := [(0, .ref (ad 30)), (1, .ref (ad a1)), (2, .int (i32 (x2))), (3, .int (i32 (x3)))]) rfl (fun p e s m args below meth c ls S hr hlk hw hl => by
    have hR : 43 ≤ (Zrm (43)).frames ∧ 60 * (43) ≤ (Zrm (43)).locals := ⟨Nat.le_refl _, Nat.le_refl _⟩
    unfold F_X6_read at hF
    revert hR
    generalize Zrm (43) = R
    intro hR
    refine lv_aload_n S.1 S.2.1 dX6_read_0 rfl (lv_at hl 1 rfl) ?_
    refine lv_iload_n S.1 S.2.1 dX6_read_1 rfl (lv_at hl 2 rfl) ?_
    refine lv_aload_n S.1 S.2.1 dX6_read_2 rfl (lv_at hl 0 rfl) ?_
    refine gf_X6_23 S hw dX6_read_3 ?_
    refine lv_iconst (v := i32 0) S.1 S.2.1 dX6_read_6 ic_0 ?_
    refine lv_iload_n S.1 S.2.1 dX6_read_7 rfl (lv_at hl 3 rfl) ?_
    obtain ⟨b2_, hF⟩ := Zgs hF
    refine Ycopy S hw hzz hl ha1 zd_32 na1 (by decide) hx2 r_0 hx3 b2_ (ml := ml_X6_37) (Zr1 hR (by decide)) (Zr2 hR (by decide) (Nat.le_of_ble_eq_true rfl)) dX6_read_8 (fun z1_ H locs ez hzz1_ hw => ?_)
    replace hF := Zle ez hF; clear ez
    refine lv_aload_n S.1 S.2.1 dX6_read_11 rfl (lv_at hl 0 rfl) ?_
    refine lv_iload_n S.1 S.2.1 dX6_read_12 rfl (lv_at hl 3 rfl) ?_
    refine pp_X6_43 S hw hzz1_ hx3 dX6_read_13 (fun z3_ H locs ez hzz3_ hw => ?_)
    replace hF := Zle ez hF; clear ez
    refine lv_aload_n S.1 S.2.1 dX6_read_16 rfl (lv_at hl 0 rfl) ?_
    refine lv_iconst (v := i32 0) S.1 S.2.1 dX6_read_17 ic_0 ?_
    refine pp_X6_45 S hw hzz3_ r_0 dX6_read_18 (fun z4_ H locs ez hzz4_ hw => ?_)
    replace hF := Zle ez hF; clear ez
    refine lv_aload_n S.1 S.2.1 dX6_read_21 rfl (lv_at hl 0 rfl) ?_
    refine lv_bipush (v := i32 (-9)) S.1 S.2.1 dX6_read_22 bp_m9 ?_
    refine pp_X6_27 S hw hzz4_ r_m9 dX6_read_24 (fun z5_ H locs ez hzz5_ hw => ?_)
    replace hF := Zle ez hF; clear ez
    refine lv_aload_n S.1 S.2.1 dX6_read_27 rfl (lv_at hl 0 rfl) ?_
    refine lv_iconst (v := i32 0) S.1 S.2.1 dX6_read_28 ic_0 ?_
    obtain ⟨r8_, z6_, h7_, hF⟩ := Ybs hF
    refine YcallVi (rest := []) S hw (c_Zrs hdj hzz5_ r_0 h7_) my_X6_readSum mi_X6_readSum ml_X6_48 zd_30 zc_X6 rfl (Zrr hR (by decide)) ⟨Nat.zero_le _, Nat.zero_le _⟩ hl.1 rfl rfl (Nat.le_of_ble_eq_true rfl) dX6_read_29 (fun hrr8_ hzz6_ H locs hw => ?_)
    refine lv_istore (lv' := [(4, .int (i32 (r8_))), (0, .ref (ad 30)), (1, .ref (ad a1)), (2, .int (i32 (x2))), (3, .int (i32 (x3)))]) S.1 S.2.1 dX6_read_32 hl (by decide) rfl (fun ls hl => ?_)
    refine lv_aload_n S.1 S.2.1 dX6_read_34 rfl (lv_at hl 1 rfl) ?_
    obtain ⟨r11_, z9_, h10_, hF⟩ := Ybs hF
    refine YcallVi (rest := []) S hw (c_X6_sound hdj hzz6_  h10_) my_X6_sound mi_X6_sound ml_X6_52 zd_30 zc_X6 rfl (Zrr hR (by decide)) ⟨Nat.zero_le _, Nat.zero_le _⟩ hl.1 rfl rfl (Nat.le_of_ble_eq_true rfl) dX6_read_35 (fun hrr11_ hzz9_ H locs hw => ?_)
    refine Yif_eq (tgt := 60) S hrr11_ dX6_read_38 (by decide) (fun c12_ => ?_) (fun c12_ => ?_)
    · replace hF := ZtP c12_ hF
      exact w_X6_read_b60 ha1 na1 bn1 S hr hlk hR hdj _ _ _ _ _ hF hw hzz9_ hrr8_ (lv_sub hl [0] rfl)
    · replace hF := ZtN c12_ hF
      refine lv_aload_n S.1 S.2.1 dX6_read_41 rfl (lv_at hl 1 rfl) ?_
      refine gg_X6_45 S hw dX6_read_42 ?_
      refine lv_aload_n S.1 S.2.1 dX6_read_45 rfl (lv_at hl 1 rfl) ?_
      refine gg_X6_43 S hw dX6_read_46 ?_
      refine Yicmp_ge (tgt := 60) S (hzz9_.1 30 3 (by decide)) (hzz9_.1 30 2 (by decide)) dX6_read_49 (by decide) (fun c13_ => ?_) (fun c13_ => ?_)
      · replace hF := ZtP c13_ hF
        exact w_X6_read_b60 ha1 na1 bn1 S hr hlk hR hdj _ _ _ _ _ hF hw hzz9_ hrr8_ (lv_sub hl [0] rfl)
      · replace hF := ZtN c13_ hF
        refine lv_aload_n S.1 S.2.1 dX6_read_52 rfl (lv_at hl 1 rfl) ?_
        refine lv_aload_n S.1 S.2.1 dX6_read_53 rfl (lv_at hl 1 rfl) ?_
        refine gg_X6_45 S hw dX6_read_54 ?_
        refine pp_X6_27 S hw hzz9_ (hzz9_.1 30 3 (by decide)) dX6_read_57 (fun z14_ H locs ez hzz14_ hw => ?_)
        replace hF := Zle ez hF; clear ez
        exact w_X6_read_b60 ha1 na1 bn1 S hr hlk hR hdj _ _ _ _ _ hF hw hzz14_ hrr8_ (lv_sub hl [0] rfl))
set_option maxRecDepth 100000 in
set_option maxHeartbeats 4000000 in
theorem c_X7_worth {l : Launch} {D : va_G} {cA : Nat → ClassId} {ad : Nat → Nat} (hdj : Zdj ad) {z z1 : ZI} {x1 : Int} {r : Int} (hzz : Zok z) (hx1 : InR x1) (hF : F_X7_worth z x1 = some (r, z1)) : YMi l D cA ad (44) yX7_worth cX7_worth 2 (some .int) [.ref (ad 24), .int (i32 x1)] z r z1 :=
  Zmet hdj (by decide) rfl (Nat.le_of_ble_eq_true rfl) (lv := [(0, .ref (ad 24)), (1, .int (i32 (x1)))]) rfl (fun p e s m args below meth c ls S hr hlk hw hl => by
    have hR : 44 ≤ (Zrm (44)).frames ∧ 60 * (44) ≤ (Zrm (44)).locals := ⟨Nat.le_refl _, Nat.le_refl _⟩
    unfold F_X7_worth at hF
    revert hR
    generalize Zrm (44) = R
    intro hR
    refine lv_aload_n S.1 S.2.1 dX7_worth_0 rfl (lv_at hl 0 rfl) ?_
    refine gf_X7_31 S hw dX7_worth_1 ?_
    refine lv_aload_n S.1 S.2.1 dX7_worth_4 rfl (lv_at hl 0 rfl) ?_
    refine gf_X7_15 S hw dX7_worth_5 ?_
    refine lv_iload_n S.1 S.2.1 dX7_worth_8 rfl (lv_at hl 1 rfl) ?_
    refine lv_bipush (v := i32 60) S.1 S.2.1 dX7_worth_9 bp_60 ?_
    obtain ⟨g1_, hF⟩ := Zgs hF
    refine Yimul S dX7_worth_11 ?_
    refine lv_aload_n S.1 S.2.1 dX7_worth_12 rfl (lv_at hl 0 rfl) ?_
    refine gf_X7_18 S hw dX7_worth_13 ?_
    refine lv_iload_n S.1 S.2.1 dX7_worth_16 rfl (lv_at hl 1 rfl) ?_
    obtain ⟨b2_, hF⟩ := Zgs hF
    refine Yiald S hw zd_27 (by decide) hx1 b2_ dX7_worth_17 ?_
    obtain ⟨r5_, z3_, h4_, hF⟩ := Ybs hF
    refine YcallVi (rest := []) S hw (c_X6_read hdj zd_26 (by decide) (by decide) hzz g1_ (hzz.1 _ _ (by decide)) h4_) my_X6_read mi_X6_read ml_X7_39 zd_30 zc_X6 rfl (Zrr hR (by decide)) ⟨Nat.zero_le _, Nat.zero_le _⟩ hl.1 rfl rfl (Nat.le_of_ble_eq_true rfl) dX7_worth_18 (fun hrr5_ hzz3_ H locs hw => ?_)
    exact Yireti S hw hzz3_ hrr5_ hr hlk hF dX7_worth_21)
end ZWALK
