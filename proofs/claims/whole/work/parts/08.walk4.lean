section ZWALK
variable {p : Program} {l : Launch} {e : Env} {R : Room} {s : State} {m : MethodId} {args : Array Value} {below : List Frame} {meth : Method} {c : Code}
variable {D : va_G} {cA : Nat → ClassId} {ad : Nat → Nat}
set_option maxRecDepth 100000 in
set_option maxHeartbeats 4000000 in
theorem w_X11_draws_L53 {a1 n1 : Nat} (ha1 : ZDS[a1]? = some (.inr (0, n1))) (na1 : a1 < 1000) (bn1 : InR (n1 : Int)) {RR : Unit × ZI} (S : CallFix p m c cX11_draws 3 s args Ztbl RX11) (hr : meth.sig.returnType = none) (hlk : meth.locks = false) (hR : 1 ≤ R.frames ∧ 60 * (1) ≤ R.locals) (hdj : Zdj ad) : ∀ (n : Nat) (z : ZI) (x2 : Int) (H : Heap) (locs : List Loc) (ls : Array Slot), X11_draws_L53 a1 n1 n z x2 = some RR → ZW D cA ad (ZA ad) (Zc z) s H locs → Zok z → InR x2 → lv_has ls 3 [(0, .ref (ad 68)), (1, .ref (ad a1)), (2, .int (i32 (x2)))] → W p l e R s m args below meth c H locs 0 0 (MQ below (YQv D cA ad RR.2) args s 0 0 (ZA ad)) (F0 m 53 ls []) := by
  intro n
  induction n with
  | zero => intro z x2 H locs ls hF; exact nomatch hF
  | succ n hk53 =>
    intro z x2 H locs ls hF hw hzz hx2 hl
    replace hF : X11_draws_L53b a1 n1 (X11_draws_L53 a1 n1 n) z x2 = some RR := hF
    unfold X11_draws_L53b at hF
    refine lv_iload_n S.1 S.2.1 dX11_draws_53 rfl (lv_at hl 2 rfl) ?_
    refine lv_aload_n S.1 S.2.1 dX11_draws_54 rfl (lv_at hl 0 rfl) ?_
    refine gg_X11_369 S hw dX11_draws_55 ?_
    refine Yicmp_ge (tgt := 73) S hx2 (hzz.1 68 47 (by decide)) dX11_draws_58 (by decide) (fun c1_ => ?_) (fun c1_ => ?_)
    · replace hF := ZtP c1_ hF
      exact Yvret S hw hzz hr hlk hF dX11_draws_73
    · replace hF := ZtN c1_ hF
      refine lv_aload_n S.1 S.2.1 dX11_draws_61 rfl (lv_at hl 0 rfl) ?_
      refine lv_iload_n S.1 S.2.1 dX11_draws_62 rfl (lv_at hl 2 rfl) ?_
      refine lv_aload_n S.1 S.2.1 dX11_draws_63 rfl (lv_at hl 1 rfl) ?_
      obtain ⟨r4_, z2_, h3_, hF⟩ := Ybs hF
      refine YcallVv (rest := []) S hw (c_X11_drawsAt hdj ha1 na1 bn1 hzz hx2 h3_) my_X11_drawsAt mi_X11_drawsAt ml_X11_374 zd_68 zc_X11 rfl (Zrr hR (by decide)) ⟨Nat.zero_le _, Nat.zero_le _⟩ hl.1 rfl rfl (Nat.le_of_ble_eq_true rfl) dX11_draws_64 (fun hzz2_ H locs hw => ?_)
      obtain ⟨g5_, hF⟩ := Zgs hF
      refine lv_iinc (v := i32 (x2 + 1)) (lv' := [(2, .int (i32 (x2 + 1))), (0, .ref (ad 68)), (1, .ref (ad a1))]) S.1 S.2.1 dX11_draws_67 hl (k := 2) rfl Yiinc (by decide) rfl (fun ls hl => ?_)
      refine lv_goto (tgt := 53) S.1 S.2.1 dX11_draws_70 (by decide) ?_
      exact hk53 _ _ _ _ _ hF hw hzz2_ g5_ (lv_sub hl [1, 2, 0] rfl)
set_option maxRecDepth 100000 in
set_option maxHeartbeats 4000000 in
theorem w_X11_draws_b51 {a1 n1 : Nat} (ha1 : ZDS[a1]? = some (.inr (0, n1))) (na1 : a1 < 1000) (bn1 : InR (n1 : Int)) {RR : Unit × ZI} (S : CallFix p m c cX11_draws 3 s args Ztbl RX11) (hr : meth.sig.returnType = none) (hlk : meth.locks = false) (hR : 1 ≤ R.frames ∧ 60 * (1) ≤ R.locals) (hdj : Zdj ad) : ∀ (z : ZI) (H : Heap) (locs : List Loc) (ls : Array Slot), X11_draws_b51 a1 n1 z  = some RR → ZW D cA ad (ZA ad) (Zc z) s H locs → Zok z → lv_has ls 3 [(0, .ref (ad 68)), (1, .ref (ad a1))] → W p l e R s m args below meth c H locs 0 0 (MQ below (YQv D cA ad RR.2) args s 0 0 (ZA ad)) (F0 m 51 ls []) := by
  intro z  H locs ls hF hw hzz  hl
  unfold X11_draws_b51 at hF
  refine lv_iconst (v := i32 0) S.1 S.2.1 dX11_draws_51 ic_0 ?_
  refine lv_istore_n (lv' := [(2, .int (i32 (0))), (0, .ref (ad 68)), (1, .ref (ad a1))]) S.1 S.2.1 dX11_draws_52 rfl hl (by decide) rfl (fun ls hl => ?_)
  exact w_X11_draws_L53 ha1 na1 bn1 S hr hlk hR hdj Zfuel _ _ _ _ _ hF hw hzz r_0 (lv_sub hl [1, 2, 0] rfl)
set_option maxRecDepth 100000 in
set_option maxHeartbeats 4000000 in
theorem w_X11_draws_b44 {a1 n1 : Nat} (ha1 : ZDS[a1]? = some (.inr (0, n1))) (na1 : a1 < 1000) (bn1 : InR (n1 : Int)) {RR : Unit × ZI} (S : CallFix p m c cX11_draws 3 s args Ztbl RX11) (hr : meth.sig.returnType = none) (hlk : meth.locks = false) (hR : 1 ≤ R.frames ∧ 60 * (1) ≤ R.locals) (hdj : Zdj ad) {k2 : ZI → Int → Option (Unit × ZI)} (hk2 : ∀ (z : ZI) (x2 : Int) (H : Heap) (locs : List Loc) (ls : Array Slot), k2 z x2 = some RR → ZW D cA ad (ZA ad) (Zc z) s H locs → Zok z → InR x2 → lv_has ls 3 [(0, .ref (ad 68)), (1, .ref (ad a1)), (2, .int (i32 (x2)))] → W p l e R s m args below meth c H locs 0 0 (MQ below (YQv D cA ad RR.2) args s 0 0 (ZA ad)) (F0 m 2 ls [])) : ∀ (z : ZI) (x2 : Int) (y1 : Int) (y2 : Int) (H : Heap) (locs : List Loc) (ls : Array Slot), X11_draws_b44 a1 n1 k2 z x2 y1 y2 = some RR → ZW D cA ad (ZA ad) (Zc z) s H locs → Zok z → InR x2 → InR y1 → InR y2 → lv_has ls 3 [(0, .ref (ad 68)), (1, .ref (ad a1)), (2, .int (i32 (x2)))] → W p l e R s m args below meth c H locs 0 0 (MQ below (YQv D cA ad RR.2) args s 0 0 (ZA ad)) (F0 m 44 ls [.int (i32 (y2)), .int (i32 (y1)), .ref (ad 102)]) := by
  intro z x2 y1 y2 H locs ls hF hw hzz hx2 hy1 hy2 hl
  unfold X11_draws_b44 at hF
  obtain ⟨b1_, hF⟩ := Zgs hF
  refine Yiast S hw hzz zd_102 (by decide) hy1 hy2 b1_ dX11_draws_44 (fun z2_ H locs ez hzz2_ hw => ?_)
  replace hF := Zle ez hF; clear ez
  obtain ⟨g3_, hF⟩ := Zgs hF
  refine lv_iinc (v := i32 (x2 + 1)) (lv' := [(2, .int (i32 (x2 + 1))), (0, .ref (ad 68)), (1, .ref (ad a1))]) S.1 S.2.1 dX11_draws_45 hl (k := 2) rfl Yiinc (by decide) rfl (fun ls hl => ?_)
  refine lv_goto (tgt := 2) S.1 S.2.1 dX11_draws_48 (by decide) ?_
  exact hk2 _ _ _ _ _ hF hw hzz2_ g3_ (lv_sub hl [1, 2, 0] rfl)
set_option maxRecDepth 100000 in
set_option maxHeartbeats 4000000 in
theorem w_X11_draws_L2 {a1 n1 : Nat} (ha1 : ZDS[a1]? = some (.inr (0, n1))) (na1 : a1 < 1000) (bn1 : InR (n1 : Int)) {RR : Unit × ZI} (S : CallFix p m c cX11_draws 3 s args Ztbl RX11) (hr : meth.sig.returnType = none) (hlk : meth.locks = false) (hR : 1 ≤ R.frames ∧ 60 * (1) ≤ R.locals) (hdj : Zdj ad) : ∀ (n : Nat) (z : ZI) (x2 : Int) (H : Heap) (locs : List Loc) (ls : Array Slot), X11_draws_L2 a1 n1 n z x2 = some RR → ZW D cA ad (ZA ad) (Zc z) s H locs → Zok z → InR x2 → lv_has ls 3 [(0, .ref (ad 68)), (1, .ref (ad a1)), (2, .int (i32 (x2)))] → W p l e R s m args below meth c H locs 0 0 (MQ below (YQv D cA ad RR.2) args s 0 0 (ZA ad)) (F0 m 2 ls []) := by
  intro n
  induction n with
  | zero => intro z x2 H locs ls hF; exact nomatch hF
  | succ n hk2 =>
    intro z x2 H locs ls hF hw hzz hx2 hl
    replace hF : X11_draws_L2b a1 n1 (X11_draws_L2 a1 n1 n) z x2 = some RR := hF
    unfold X11_draws_L2b at hF
    refine lv_iload_n S.1 S.2.1 dX11_draws_2 rfl (lv_at hl 2 rfl) ?_
    refine lv_aload_n S.1 S.2.1 dX11_draws_3 rfl (lv_at hl 0 rfl) ?_
    refine gg_X11_193 S hw dX11_draws_4 ?_
    refine Yicmp_ge (tgt := 51) S hx2 (hzz.1 68 12 (by decide)) dX11_draws_7 (by decide) (fun c1_ => ?_) (fun c1_ => ?_)
    · replace hF := ZtP c1_ hF
      exact w_X11_draws_b51 ha1 na1 bn1 S hr hlk hR hdj _ _ _ _ hF hw hzz  (lv_sub hl [0, 1] rfl)
    · replace hF := ZtN c1_ hF
      refine lv_aload_n S.1 S.2.1 dX11_draws_10 rfl (lv_at hl 0 rfl) ?_
      refine gf_X11_108 S hw dX11_draws_11 ?_
      refine lv_iload_n S.1 S.2.1 dX11_draws_14 rfl (lv_at hl 2 rfl) ?_
      refine lv_iconst (v := i32 0) S.1 S.2.1 dX11_draws_15 ic_0 ?_
      obtain ⟨b2_, hF⟩ := Zgs hF
      refine Yiast S hw hzz zd_101 (by decide) hx2 r_0 b2_ dX11_draws_16 (fun z3_ H locs ez hzz3_ hw => ?_)
      replace hF := Zle ez hF; clear ez
      refine lv_aload_n S.1 S.2.1 dX11_draws_17 rfl (lv_at hl 0 rfl) ?_
      refine gf_X11_111 S hw dX11_draws_18 ?_
      refine lv_iload_n S.1 S.2.1 dX11_draws_21 rfl (lv_at hl 2 rfl) ?_
      refine lv_aload_n S.1 S.2.1 dX11_draws_22 rfl (lv_at hl 0 rfl) ?_
      refine gf_X11_102 S hw dX11_draws_23 ?_
      refine lv_iload_n S.1 S.2.1 dX11_draws_26 rfl (lv_at hl 2 rfl) ?_
      obtain ⟨b4_, hF⟩ := Zgs hF
      refine Yiald S hw zd_99 (by decide) hx2 b4_ dX11_draws_27 ?_
      refine Yif_ne (tgt := 42) S (hzz3_.1 _ _ (by decide)) dX11_draws_28 (by decide) (fun c5_ => ?_) (fun c5_ => ?_)
      · replace hF := ZtN c5_ hF
        refine lv_bipush (v := i32 (-9)) S.1 S.2.1 dX11_draws_42 bp_m9 ?_
        exact w_X11_draws_b44 ha1 na1 bn1 S hr hlk hR hdj hk2 _ _ _ _ _ _ _ hF hw hzz3_ hx2 hx2 r_m9 (lv_sub hl [0, 1, 2] rfl)
      · replace hF := ZtP c5_ hF
        refine lv_aload_n S.1 S.2.1 dX11_draws_31 rfl (lv_at hl 1 rfl) ?_
        refine lv_aload_n S.1 S.2.1 dX11_draws_32 rfl (lv_at hl 0 rfl) ?_
        refine gf_X11_19 S hw dX11_draws_33 ?_
        refine lv_iload_n S.1 S.2.1 dX11_draws_36 rfl (lv_at hl 2 rfl) ?_
        obtain ⟨b6_, hF⟩ := Zgs hF
        refine Yiald S hw zd_72 (by decide) hx2 b6_ dX11_draws_37 ?_
        obtain ⟨b7_, hF⟩ := Zgs hF
        refine Yiald S hw ha1 na1 (hzz3_.1 _ _ (by decide)) b7_ dX11_draws_38 ?_
        refine lv_goto (tgt := 44) S.1 S.2.1 dX11_draws_39 (by decide) ?_
        exact w_X11_draws_b44 ha1 na1 bn1 S hr hlk hR hdj hk2 _ _ _ _ _ _ _ hF hw hzz3_ hx2 hx2 (hzz3_.1 _ _ na1) (lv_sub hl [0, 1, 2] rfl)
set_option maxRecDepth 100000 in
set_option maxHeartbeats 4000000 in
theorem c_X11_draws {l : Launch} {D : va_G} {cA : Nat → ClassId} {ad : Nat → Nat} (hdj : Zdj ad) {a1 n1 : Nat} (ha1 : ZDS[a1]? = some (.inr (0, n1))) (na1 : a1 < 1000) (bn1 : InR (n1 : Int)) {z z1 : ZI} (hzz : Zok z) (hF : F_X11_draws a1 n1 z  = some ((), z1)) : YMv l D cA ad (1) yX11_draws cX11_draws 3 [.ref (ad 68), .ref (ad a1)] z z1 :=
  Zmet hdj (by decide) rfl (Nat.le_of_ble_eq_true rfl) (lv := [(0, .ref (ad 68)), (1, .ref (ad a1))]) rfl (fun p e s m args below meth c ls S hr hlk hw hl => by
    have hR : 1 ≤ (Zrm (1)).frames ∧ 60 * (1) ≤ (Zrm (1)).locals := ⟨Nat.le_refl _, Nat.le_refl _⟩
    unfold F_X11_draws at hF
    revert hR
    generalize Zrm (1) = R
    intro hR
    refine lv_iconst (v := i32 0) S.1 S.2.1 dX11_draws_0 ic_0 ?_
    refine lv_istore_n (lv' := [(2, .int (i32 (0))), (0, .ref (ad 68)), (1, .ref (ad a1))]) S.1 S.2.1 dX11_draws_1 rfl hl (by decide) rfl (fun ls hl => ?_)
    exact w_X11_draws_L2 ha1 na1 bn1 S hr hlk hR hdj Zfuel _ _ _ _ _ hF hw hzz r_0 (lv_sub hl [1, 2, 0] rfl))
set_option maxRecDepth 100000 in
set_option maxHeartbeats 4000000 in
theorem w_X11_findDrawers_b60 {RR : Unit × ZI} (S : CallFix p m c cX11_findDrawers 4 s args Ztbl RX11) (hr : meth.sig.returnType = none) (hlk : meth.locks = false) (hR : 0 ≤ R.frames ∧ 60 * (0) ≤ R.locals) (hdj : Zdj ad) {k4 : ZI → Int → Int → Option (Unit × ZI)} (hk4 : ∀ (z : ZI) (x1 : Int) (x2 : Int) (H : Heap) (locs : List Loc) (ls : Array Slot), k4 z x1 x2 = some RR → ZW D cA ad (ZA ad) (Zc z) s H locs → Zok z → InR x1 → InR x2 → lv_has ls 4 [(0, .ref (ad 68)), (1, .int (i32 (x1))), (2, .int (i32 (x2)))] → W p l e R s m args below meth c H locs 0 0 (MQ below (YQv D cA ad RR.2) args s 0 0 (ZA ad)) (F0 m 4 ls [])) : ∀ (z : ZI) (x1 : Int) (x2 : Int) (H : Heap) (locs : List Loc) (ls : Array Slot), X11_findDrawers_b60 k4 z x1 x2 = some RR → ZW D cA ad (ZA ad) (Zc z) s H locs → Zok z → InR x1 → InR x2 → lv_has ls 4 [(0, .ref (ad 68)), (1, .int (i32 (x1))), (2, .int (i32 (x2)))] → W p l e R s m args below meth c H locs 0 0 (MQ below (YQv D cA ad RR.2) args s 0 0 (ZA ad)) (F0 m 60 ls []) := by
  intro z x1 x2 H locs ls hF hw hzz hx1 hx2 hl
  unfold X11_findDrawers_b60 at hF
  refine lv_aload_n S.1 S.2.1 dX11_findDrawers_60 rfl (lv_at hl 0 rfl) ?_
  refine gf_X11_123 S hw dX11_findDrawers_61 ?_
  refine lv_iload_n S.1 S.2.1 dX11_findDrawers_64 rfl (lv_at hl 2 rfl) ?_
  refine lv_iload_n S.1 S.2.1 dX11_findDrawers_65 rfl (lv_at hl 1 rfl) ?_
  obtain ⟨b1_, hF⟩ := Zgs hF
  refine Yiast S hw hzz zd_106 (by decide) hx2 hx1 b1_ dX11_findDrawers_66 (fun z2_ H locs ez hzz2_ hw => ?_)
  replace hF := Zle ez hF; clear ez
  obtain ⟨g3_, hF⟩ := Zgs hF
  refine lv_iinc (v := i32 (x2 + 1)) (lv' := [(2, .int (i32 (x2 + 1))), (0, .ref (ad 68)), (1, .int (i32 (x1)))]) S.1 S.2.1 dX11_findDrawers_67 hl (k := 2) rfl Yiinc (by decide) rfl (fun ls hl => ?_)
  refine lv_goto (tgt := 4) S.1 S.2.1 dX11_findDrawers_70 (by decide) ?_
  exact hk4 _ _ _ _ _ _ hF hw hzz2_ hx1 g3_ (lv_sub hl [1, 2, 0] rfl)
set_option maxRecDepth 100000 in
set_option maxHeartbeats 4000000 in
theorem w_X11_findDrawers_b54 {RR : Unit × ZI} (S : CallFix p m c cX11_findDrawers 4 s args Ztbl RX11) (hr : meth.sig.returnType = none) (hlk : meth.locks = false) (hR : 0 ≤ R.frames ∧ 60 * (0) ≤ R.locals) (hdj : Zdj ad) {k4 : ZI → Int → Int → Option (Unit × ZI)} (hk4 : ∀ (z : ZI) (x1 : Int) (x2 : Int) (H : Heap) (locs : List Loc) (ls : Array Slot), k4 z x1 x2 = some RR → ZW D cA ad (ZA ad) (Zc z) s H locs → Zok z → InR x1 → InR x2 → lv_has ls 4 [(0, .ref (ad 68)), (1, .int (i32 (x1))), (2, .int (i32 (x2)))] → W p l e R s m args below meth c H locs 0 0 (MQ below (YQv D cA ad RR.2) args s 0 0 (ZA ad)) (F0 m 4 ls [])) {k14 : ZI → Int → Int → Int → Option (Unit × ZI)} (hk14 : ∀ (z : ZI) (x1 : Int) (x2 : Int) (x3 : Int) (H : Heap) (locs : List Loc) (ls : Array Slot), k14 z x1 x2 x3 = some RR → ZW D cA ad (ZA ad) (Zc z) s H locs → Zok z → InR x1 → InR x2 → InR x3 → lv_has ls 4 [(0, .ref (ad 68)), (1, .int (i32 (x1))), (2, .int (i32 (x2))), (3, .int (i32 (x3)))] → W p l e R s m args below meth c H locs 0 0 (MQ below (YQv D cA ad RR.2) args s 0 0 (ZA ad)) (F0 m 14 ls [])) : ∀ (z : ZI) (x1 : Int) (x2 : Int) (x3 : Int) (H : Heap) (locs : List Loc) (ls : Array Slot), X11_findDrawers_b54 k4 k14 z x1 x2 x3 = some RR → ZW D cA ad (ZA ad) (Zc z) s H locs → Zok z → InR x1 → InR x2 → InR x3 → lv_has ls 4 [(0, .ref (ad 68)), (1, .int (i32 (x1))), (2, .int (i32 (x2))), (3, .int (i32 (x3)))] → W p l e R s m args below meth c H locs 0 0 (MQ below (YQv D cA ad RR.2) args s 0 0 (ZA ad)) (F0 m 54 ls []) := by
  intro z x1 x2 x3 H locs ls hF hw hzz hx1 hx2 hx3 hl
  unfold X11_findDrawers_b54 at hF
  obtain ⟨g1_, hF⟩ := Zgs hF
  refine lv_iinc (v := i32 (x3 + 1)) (lv' := [(3, .int (i32 (x3 + 1))), (0, .ref (ad 68)), (1, .int (i32 (x1))), (2, .int (i32 (x2)))]) S.1 S.2.1 dX11_findDrawers_54 hl (k := 3) rfl Yiinc (by decide) rfl (fun ls hl => ?_)
  refine lv_goto (tgt := 14) S.1 S.2.1 dX11_findDrawers_57 (by decide) ?_
  exact hk14 _ _ _ _ _ _ _ hF hw hzz hx1 hx2 g1_ (lv_sub hl [1, 2, 3, 0] rfl)
set_option maxRecDepth 100000 in
set_option maxHeartbeats 4000000 in
theorem w_X11_findDrawers_L14 {RR : Unit × ZI} (S : CallFix p m c cX11_findDrawers 4 s args Ztbl RX11) (hr : meth.sig.returnType = none) (hlk : meth.locks = false) (hR : 0 ≤ R.frames ∧ 60 * (0) ≤ R.locals) (hdj : Zdj ad) {k4 : ZI → Int → Int → Option (Unit × ZI)} (hk4 : ∀ (z : ZI) (x1 : Int) (x2 : Int) (H : Heap) (locs : List Loc) (ls : Array Slot), k4 z x1 x2 = some RR → ZW D cA ad (ZA ad) (Zc z) s H locs → Zok z → InR x1 → InR x2 → lv_has ls 4 [(0, .ref (ad 68)), (1, .int (i32 (x1))), (2, .int (i32 (x2)))] → W p l e R s m args below meth c H locs 0 0 (MQ below (YQv D cA ad RR.2) args s 0 0 (ZA ad)) (F0 m 4 ls [])) : ∀ (n : Nat) (z : ZI) (x1 : Int) (x2 : Int) (x3 : Int) (H : Heap) (locs : List Loc) (ls : Array Slot), X11_findDrawers_L14 k4 n z x1 x2 x3 = some RR → ZW D cA ad (ZA ad) (Zc z) s H locs → Zok z → InR x1 → InR x2 → InR x3 → lv_has ls 4 [(0, .ref (ad 68)), (1, .int (i32 (x1))), (2, .int (i32 (x2))), (3, .int (i32 (x3)))] → W p l e R s m args below meth c H locs 0 0 (MQ below (YQv D cA ad RR.2) args s 0 0 (ZA ad)) (F0 m 14 ls []) := by
  intro n
  induction n with
  | zero => intro z x1 x2 x3 H locs ls hF; exact nomatch hF
  | succ n hk14 =>
    intro z x1 x2 x3 H locs ls hF hw hzz hx1 hx2 hx3 hl
    replace hF : X11_findDrawers_L14b k4 (X11_findDrawers_L14 k4 n) z x1 x2 x3 = some RR := hF
    unfold X11_findDrawers_L14b at hF
    refine lv_iload_n S.1 S.2.1 dX11_findDrawers_14 rfl (lv_at hl 3 rfl) ?_
    refine lv_aload_n S.1 S.2.1 dX11_findDrawers_15 rfl (lv_at hl 0 rfl) ?_
    refine gg_X11_193 S hw dX11_findDrawers_16 ?_
    refine Yicmp_ge (tgt := 60) S hx3 (hzz.1 68 12 (by decide)) dX11_findDrawers_19 (by decide) (fun c1_ => ?_) (fun c1_ => ?_)
    · replace hF := ZtP c1_ hF
      exact w_X11_findDrawers_b60 S hr hlk hR hdj hk4 _ _ _ _ _ _ hF hw hzz hx1 hx2 (lv_sub hl [0, 1, 2] rfl)
    · replace hF := ZtN c1_ hF
      refine lv_aload_n S.1 S.2.1 dX11_findDrawers_22 rfl (lv_at hl 0 rfl) ?_
      refine gf_X11_105 S hw dX11_findDrawers_23 ?_
      refine lv_iload_n S.1 S.2.1 dX11_findDrawers_26 rfl (lv_at hl 3 rfl) ?_
      obtain ⟨b2_, hF⟩ := Zgs hF
      refine Yiald S hw zd_100 (by decide) hx3 b2_ dX11_findDrawers_27 ?_
      refine lv_iload_n S.1 S.2.1 dX11_findDrawers_28 rfl (lv_at hl 2 rfl) ?_
      refine Yicmp_ne (tgt := 54) S (hzz.1 _ _ (by decide)) hx2 dX11_findDrawers_29 (by decide) (fun c3_ => ?_) (fun c3_ => ?_)
      · replace hF := ZtN c3_ hF
        exact w_X11_findDrawers_b54 S hr hlk hR hdj hk4 hk14 _ _ _ _ _ _ _ hF hw hzz hx1 hx2 hx3 (lv_sub hl [0, 1, 2, 3] rfl)
      · replace hF := ZtP c3_ hF
        refine lv_aload_n S.1 S.2.1 dX11_findDrawers_32 rfl (lv_at hl 0 rfl) ?_
        refine gf_X11_102 S hw dX11_findDrawers_33 ?_
        refine lv_iload_n S.1 S.2.1 dX11_findDrawers_36 rfl (lv_at hl 3 rfl) ?_
        obtain ⟨b4_, hF⟩ := Zgs hF
        refine Yiald S hw zd_99 (by decide) hx3 b4_ dX11_findDrawers_37 ?_
        refine Yif_ne (tgt := 44) S (hzz.1 _ _ (by decide)) dX11_findDrawers_38 (by decide) (fun c5_ => ?_) (fun c5_ => ?_)
        · replace hF := ZtN c5_ hF
          refine lv_aload_n S.1 S.2.1 dX11_findDrawers_44 rfl (lv_at hl 0 rfl) ?_
          refine gf_X11_120 S hw dX11_findDrawers_45 ?_
          refine lv_iload_n S.1 S.2.1 dX11_findDrawers_48 rfl (lv_at hl 1 rfl) ?_
          refine lv_iload_n S.1 S.2.1 dX11_findDrawers_49 rfl (lv_at hl 3 rfl) ?_
          obtain ⟨b6_, hF⟩ := Zgs hF
          refine Yiast S hw hzz zd_105 (by decide) hx1 hx3 b6_ dX11_findDrawers_50 (fun z7_ H locs ez hzz7_ hw => ?_)
          replace hF := Zle ez hF; clear ez
          obtain ⟨g8_, hF⟩ := Zgs hF
          refine lv_iinc (v := i32 (x1 + 1)) (lv' := [(1, .int (i32 (x1 + 1))), (0, .ref (ad 68)), (2, .int (i32 (x2))), (3, .int (i32 (x3)))]) S.1 S.2.1 dX11_findDrawers_51 hl (k := 1) rfl Yiinc (by decide) rfl (fun ls hl => ?_)
          exact w_X11_findDrawers_b54 S hr hlk hR hdj hk4 hk14 _ _ _ _ _ _ _ hF hw hzz7_ g8_ hx2 hx3 (lv_sub hl [1, 0, 2, 3] rfl)
        · replace hF := ZtP c5_ hF
          refine lv_goto (tgt := 54) S.1 S.2.1 dX11_findDrawers_41 (by decide) ?_
          exact w_X11_findDrawers_b54 S hr hlk hR hdj hk4 hk14 _ _ _ _ _ _ _ hF hw hzz hx1 hx2 hx3 (lv_sub hl [0, 1, 2, 3] rfl)
set_option maxRecDepth 100000 in
set_option maxHeartbeats 4000000 in
theorem w_X11_findDrawers_L4 {RR : Unit × ZI} (S : CallFix p m c cX11_findDrawers 4 s args Ztbl RX11) (hr : meth.sig.returnType = none) (hlk : meth.locks = false) (hR : 0 ≤ R.frames ∧ 60 * (0) ≤ R.locals) (hdj : Zdj ad) : ∀ (n : Nat) (z : ZI) (x1 : Int) (x2 : Int) (H : Heap) (locs : List Loc) (ls : Array Slot), X11_findDrawers_L4 n z x1 x2 = some RR → ZW D cA ad (ZA ad) (Zc z) s H locs → Zok z → InR x1 → InR x2 → lv_has ls 4 [(0, .ref (ad 68)), (1, .int (i32 (x1))), (2, .int (i32 (x2)))] → W p l e R s m args below meth c H locs 0 0 (MQ below (YQv D cA ad RR.2) args s 0 0 (ZA ad)) (F0 m 4 ls []) := by
  intro n
  induction n with
  | zero => intro z x1 x2 H locs ls hF; exact nomatch hF
  | succ n hk4 =>
    intro z x1 x2 H locs ls hF hw hzz hx1 hx2 hl
    replace hF : X11_findDrawers_L4b (X11_findDrawers_L4 n) z x1 x2 = some RR := hF
    unfold X11_findDrawers_L4b at hF
    refine lv_iload_n S.1 S.2.1 dX11_findDrawers_4 rfl (lv_at hl 2 rfl) ?_
    refine lv_aload_n S.1 S.2.1 dX11_findDrawers_5 rfl (lv_at hl 0 rfl) ?_
    refine gg_X11_369 S hw dX11_findDrawers_6 ?_
    refine Yicmp_ge (tgt := 73) S hx2 (hzz.1 68 47 (by decide)) dX11_findDrawers_9 (by decide) (fun c1_ => ?_) (fun c1_ => ?_)
    · replace hF := ZtP c1_ hF
      exact Yvret S hw hzz hr hlk hF dX11_findDrawers_73
    · replace hF := ZtN c1_ hF
      refine lv_iconst (v := i32 0) S.1 S.2.1 dX11_findDrawers_12 ic_0 ?_
      refine lv_istore_n (lv' := [(3, .int (i32 (0))), (0, .ref (ad 68)), (1, .int (i32 (x1))), (2, .int (i32 (x2)))]) S.1 S.2.1 dX11_findDrawers_13 rfl hl (by decide) rfl (fun ls hl => ?_)
      exact w_X11_findDrawers_L14 S hr hlk hR hdj hk4 Zfuel _ _ _ _ _ _ _ hF hw hzz hx1 hx2 r_0 (lv_sub hl [1, 2, 3, 0] rfl)
set_option maxRecDepth 100000 in
set_option maxHeartbeats 4000000 in
theorem c_X11_findDrawers {l : Launch} {D : va_G} {cA : Nat → ClassId} {ad : Nat → Nat} (hdj : Zdj ad) {z z1 : ZI} (hzz : Zok z) (hF : F_X11_findDrawers z  = some ((), z1)) : YMv l D cA ad (0) yX11_findDrawers cX11_findDrawers 4 [.ref (ad 68)] z z1 :=
  Zmet hdj (by decide) rfl (Nat.le_of_ble_eq_true rfl) (lv := [(0, .ref (ad 68))]) rfl (fun p e s m args below meth c ls S hr hlk hw hl => by
    have hR : 0 ≤ (Zrm (0)).frames ∧ 60 * (0) ≤ (Zrm (0)).locals := ⟨Nat.le_refl _, Nat.le_refl _⟩
    unfold F_X11_findDrawers at hF
    revert hR
    generalize Zrm (0) = R
    intro hR
    refine lv_iconst (v := i32 0) S.1 S.2.1 dX11_findDrawers_0 ic_0 ?_
    refine lv_istore_n (lv' := [(1, .int (i32 (0))), (0, .ref (ad 68))]) S.1 S.2.1 dX11_findDrawers_1 rfl hl (by decide) rfl (fun ls hl => ?_)
    refine lv_iconst (v := i32 0) S.1 S.2.1 dX11_findDrawers_2 ic_0 ?_
    refine lv_istore_n (lv' := [(2, .int (i32 (0))), (1, .int (i32 (0))), (0, .ref (ad 68))]) S.1 S.2.1 dX11_findDrawers_3 rfl hl (by decide) rfl (fun ls hl => ?_)
    exact w_X11_findDrawers_L4 S hr hlk hR hdj Zfuel _ _ _ _ _ _ hF hw hzz r_0 r_0 (lv_sub hl [2, 1, 0] rfl))
set_option maxRecDepth 100000 in
set_option maxHeartbeats 4000000 in
theorem w_X11_findNeeds_b105 {RR : Unit × ZI} (S : CallFix p m c cX11_findNeeds 3 s args Ztbl RX11) (hr : meth.sig.returnType = none) (hlk : meth.locks = false) (hR : 3 ≤ R.frames ∧ 60 * (3) ≤ R.locals) (hdj : Zdj ad) {k2 : ZI → Int → Option (Unit × ZI)} (hk2 : ∀ (z : ZI) (x1 : Int) (H : Heap) (locs : List Loc) (ls : Array Slot), k2 z x1 = some RR → ZW D cA ad (ZA ad) (Zc z) s H locs → Zok z → InR x1 → lv_has ls 3 [(0, .ref (ad 68)), (1, .int (i32 (x1)))] → W p l e R s m args below meth c H locs 0 0 (MQ below (YQv D cA ad RR.2) args s 0 0 (ZA ad)) (F0 m 2 ls [])) : ∀ (z : ZI) (x1 : Int) (H : Heap) (locs : List Loc) (ls : Array Slot), X11_findNeeds_b105 k2 z x1 = some RR → ZW D cA ad (ZA ad) (Zc z) s H locs → Zok z → InR x1 → lv_has ls 3 [(0, .ref (ad 68)), (1, .int (i32 (x1)))] → W p l e R s m args below meth c H locs 0 0 (MQ below (YQv D cA ad RR.2) args s 0 0 (ZA ad)) (F0 m 105 ls []) := by
  intro z x1 H locs ls hF hw hzz hx1 hl
  unfold X11_findNeeds_b105 at hF
  obtain ⟨g1_, hF⟩ := Zgs hF
  refine lv_iinc (v := i32 (x1 + 1)) (lv' := [(1, .int (i32 (x1 + 1))), (0, .ref (ad 68))]) S.1 S.2.1 dX11_findNeeds_105 hl (k := 1) rfl Yiinc (by decide) rfl (fun ls hl => ?_)
  refine lv_goto (tgt := 2) S.1 S.2.1 dX11_findNeeds_108 (by decide) ?_
  exact hk2 _ _ _ _ _ hF hw hzz g1_ (lv_sub hl [1, 0] rfl)
set_option maxRecDepth 100000 in
set_option maxHeartbeats 4000000 in
theorem w_X11_findNeeds_b99 {RR : Unit × ZI} (S : CallFix p m c cX11_findNeeds 3 s args Ztbl RX11) (hr : meth.sig.returnType = none) (hlk : meth.locks = false) (hR : 3 ≤ R.frames ∧ 60 * (3) ≤ R.locals) (hdj : Zdj ad) {k2 : ZI → Int → Option (Unit × ZI)} (hk2 : ∀ (z : ZI) (x1 : Int) (H : Heap) (locs : List Loc) (ls : Array Slot), k2 z x1 = some RR → ZW D cA ad (ZA ad) (Zc z) s H locs → Zok z → InR x1 → lv_has ls 3 [(0, .ref (ad 68)), (1, .int (i32 (x1)))] → W p l e R s m args below meth c H locs 0 0 (MQ below (YQv D cA ad RR.2) args s 0 0 (ZA ad)) (F0 m 2 ls [])) {k37 : ZI → Int → Int → Option (Unit × ZI)} (hk37 : ∀ (z : ZI) (x1 : Int) (x2 : Int) (H : Heap) (locs : List Loc) (ls : Array Slot), k37 z x1 x2 = some RR → ZW D cA ad (ZA ad) (Zc z) s H locs → Zok z → InR x1 → InR x2 → lv_has ls 3 [(0, .ref (ad 68)), (1, .int (i32 (x1))), (2, .int (i32 (x2)))] → W p l e R s m args below meth c H locs 0 0 (MQ below (YQv D cA ad RR.2) args s 0 0 (ZA ad)) (F0 m 37 ls [])) : ∀ (z : ZI) (x1 : Int) (x2 : Int) (H : Heap) (locs : List Loc) (ls : Array Slot), X11_findNeeds_b99 k2 k37 z x1 x2 = some RR → ZW D cA ad (ZA ad) (Zc z) s H locs → Zok z → InR x1 → InR x2 → lv_has ls 3 [(0, .ref (ad 68)), (1, .int (i32 (x1))), (2, .int (i32 (x2)))] → W p l e R s m args below meth c H locs 0 0 (MQ below (YQv D cA ad RR.2) args s 0 0 (ZA ad)) (F0 m 99 ls []) := by
  intro z x1 x2 H locs ls hF hw hzz hx1 hx2 hl
  unfold X11_findNeeds_b99 at hF
  obtain ⟨g1_, hF⟩ := Zgs hF
  refine lv_iinc (v := i32 (x2 + 1)) (lv' := [(2, .int (i32 (x2 + 1))), (0, .ref (ad 68)), (1, .int (i32 (x1)))]) S.1 S.2.1 dX11_findNeeds_99 hl (k := 2) rfl Yiinc (by decide) rfl (fun ls hl => ?_)
  refine lv_goto (tgt := 37) S.1 S.2.1 dX11_findNeeds_102 (by decide) ?_
  exact hk37 _ _ _ _ _ _ hF hw hzz hx1 g1_ (lv_sub hl [1, 2, 0] rfl)
set_option maxRecDepth 100000 in
set_option maxHeartbeats 4000000 in
theorem w_X11_findNeeds_b92 {RR : Unit × ZI} (S : CallFix p m c cX11_findNeeds 3 s args Ztbl RX11) (hr : meth.sig.returnType = none) (hlk : meth.locks = false) (hR : 3 ≤ R.frames ∧ 60 * (3) ≤ R.locals) (hdj : Zdj ad) {k2 : ZI → Int → Option (Unit × ZI)} (hk2 : ∀ (z : ZI) (x1 : Int) (H : Heap) (locs : List Loc) (ls : Array Slot), k2 z x1 = some RR → ZW D cA ad (ZA ad) (Zc z) s H locs → Zok z → InR x1 → lv_has ls 3 [(0, .ref (ad 68)), (1, .int (i32 (x1)))] → W p l e R s m args below meth c H locs 0 0 (MQ below (YQv D cA ad RR.2) args s 0 0 (ZA ad)) (F0 m 2 ls [])) {k37 : ZI → Int → Int → Option (Unit × ZI)} (hk37 : ∀ (z : ZI) (x1 : Int) (x2 : Int) (H : Heap) (locs : List Loc) (ls : Array Slot), k37 z x1 x2 = some RR → ZW D cA ad (ZA ad) (Zc z) s H locs → Zok z → InR x1 → InR x2 → lv_has ls 3 [(0, .ref (ad 68)), (1, .int (i32 (x1))), (2, .int (i32 (x2)))] → W p l e R s m args below meth c H locs 0 0 (MQ below (YQv D cA ad RR.2) args s 0 0 (ZA ad)) (F0 m 37 ls [])) : ∀ (z : ZI) (x1 : Int) (x2 : Int) (H : Heap) (locs : List Loc) (ls : Array Slot), X11_findNeeds_b92 k2 k37 z x1 x2 = some RR → ZW D cA ad (ZA ad) (Zc z) s H locs → Zok z → InR x1 → InR x2 → lv_has ls 3 [(0, .ref (ad 68)), (1, .int (i32 (x1))), (2, .int (i32 (x2)))] → W p l e R s m args below meth c H locs 0 0 (MQ below (YQv D cA ad RR.2) args s 0 0 (ZA ad)) (F0 m 92 ls []) := by
  intro z x1 x2 H locs ls hF hw hzz hx1 hx2 hl
  unfold X11_findNeeds_b92 at hF
  refine lv_aload_n S.1 S.2.1 dX11_findNeeds_92 rfl (lv_at hl 0 rfl) ?_
  refine gf_X11_105 S hw dX11_findNeeds_93 ?_
  refine lv_iload_n S.1 S.2.1 dX11_findNeeds_96 rfl (lv_at hl 1 rfl) ?_
  refine lv_iload_n S.1 S.2.1 dX11_findNeeds_97 rfl (lv_at hl 2 rfl) ?_
  obtain ⟨b1_, hF⟩ := Zgs hF
  refine Yiast S hw hzz zd_100 (by decide) hx1 hx2 b1_ dX11_findNeeds_98 (fun z2_ H locs ez hzz2_ hw => ?_)
  replace hF := Zle ez hF; clear ez
  exact w_X11_findNeeds_b99 S hr hlk hR hdj hk2 hk37 _ _ _ _ _ _ hF hw hzz2_ hx1 hx2 (lv_sub hl [0, 1, 2] rfl)
set_option maxRecDepth 100000 in
set_option maxHeartbeats 4000000 in
theorem w_X11_findNeeds_L37 {RR : Unit × ZI} (S : CallFix p m c cX11_findNeeds 3 s args Ztbl RX11) (hr : meth.sig.returnType = none) (hlk : meth.locks = false) (hR : 3 ≤ R.frames ∧ 60 * (3) ≤ R.locals) (hdj : Zdj ad) {k2 : ZI → Int → Option (Unit × ZI)} (hk2 : ∀ (z : ZI) (x1 : Int) (H : Heap) (locs : List Loc) (ls : Array Slot), k2 z x1 = some RR → ZW D cA ad (ZA ad) (Zc z) s H locs → Zok z → InR x1 → lv_has ls 3 [(0, .ref (ad 68)), (1, .int (i32 (x1)))] → W p l e R s m args below meth c H locs 0 0 (MQ below (YQv D cA ad RR.2) args s 0 0 (ZA ad)) (F0 m 2 ls [])) : ∀ (n : Nat) (z : ZI) (x1 : Int) (x2 : Int) (H : Heap) (locs : List Loc) (ls : Array Slot), X11_findNeeds_L37 k2 n z x1 x2 = some RR → ZW D cA ad (ZA ad) (Zc z) s H locs → Zok z → InR x1 → InR x2 → lv_has ls 3 [(0, .ref (ad 68)), (1, .int (i32 (x1))), (2, .int (i32 (x2)))] → W p l e R s m args below meth c H locs 0 0 (MQ below (YQv D cA ad RR.2) args s 0 0 (ZA ad)) (F0 m 37 ls []) := by
  intro n
  induction n with
  | zero => intro z x1 x2 H locs ls hF; exact nomatch hF
  | succ n hk37 =>
    intro z x1 x2 H locs ls hF hw hzz hx1 hx2 hl
    replace hF : X11_findNeeds_L37b k2 (X11_findNeeds_L37 k2 n) z x1 x2 = some RR := hF
    unfold X11_findNeeds_L37b at hF
    refine lv_iload_n S.1 S.2.1 dX11_findNeeds_37 rfl (lv_at hl 2 rfl) ?_
    refine lv_aload_n S.1 S.2.1 dX11_findNeeds_38 rfl (lv_at hl 0 rfl) ?_
    refine gg_X11_369 S hw dX11_findNeeds_39 ?_
    refine Yicmp_ge (tgt := 105) S hx2 (hzz.1 68 47 (by decide)) dX11_findNeeds_42 (by decide) (fun c1_ => ?_) (fun c1_ => ?_)
    · replace hF := ZtP c1_ hF
      exact w_X11_findNeeds_b105 S hr hlk hR hdj hk2 _ _ _ _ _ hF hw hzz hx1 (lv_sub hl [0, 1] rfl)
    · replace hF := ZtN c1_ hF
      refine lv_aload_n S.1 S.2.1 dX11_findNeeds_45 rfl (lv_at hl 0 rfl) ?_
      refine gf_X11_105 S hw dX11_findNeeds_46 ?_
      refine lv_iload_n S.1 S.2.1 dX11_findNeeds_49 rfl (lv_at hl 1 rfl) ?_
      obtain ⟨b2_, hF⟩ := Zgs hF
      refine Yiald S hw zd_100 (by decide) hx1 b2_ dX11_findNeeds_50 ?_
      refine Yif_lt (tgt := 92) S (hzz.1 _ _ (by decide)) dX11_findNeeds_51 (by decide) (fun c3_ => ?_) (fun c3_ => ?_)
      · replace hF := ZtP c3_ hF
        exact w_X11_findNeeds_b92 S hr hlk hR hdj hk2 hk37 _ _ _ _ _ _ hF hw hzz hx1 hx2 (lv_sub hl [0, 1, 2] rfl)
      · replace hF := ZtN c3_ hF
        refine lv_aload_n S.1 S.2.1 dX11_findNeeds_54 rfl (lv_at hl 0 rfl) ?_
        refine gf_X11_16 S hw dX11_findNeeds_55 ?_
        refine lv_iload_n S.1 S.2.1 dX11_findNeeds_58 rfl (lv_at hl 1 rfl) ?_
        obtain ⟨b4_, hF⟩ := Zgs hF
        refine Yiald S hw zd_71 (by decide) hx1 b4_ dX11_findNeeds_59 ?_
        refine lv_aload_n S.1 S.2.1 dX11_findNeeds_60 rfl (lv_at hl 0 rfl) ?_
        refine gf_X11_90 S hw dX11_findNeeds_61 ?_
        refine lv_iload_n S.1 S.2.1 dX11_findNeeds_64 rfl (lv_at hl 2 rfl) ?_
        obtain ⟨b5_, hF⟩ := Zgs hF
        refine Yiald S hw zd_95 (by decide) hx2 b5_ dX11_findNeeds_65 ?_
        obtain ⟨r8_, z6_, h7_, hF⟩ := Ybs hF
        refine YcallSi (rest := []) S hw (c_X11_far hdj hzz (hzz.1 _ _ (by decide)) (hzz.1 _ _ (by decide)) h7_) my_X11_far ms_X11_far ml_X11_366 (Zrr hR (by decide)) ⟨Nat.zero_le _, Nat.zero_le _⟩ hl.1 rfl rfl (Nat.le_of_ble_eq_true rfl) dX11_findNeeds_66 (fun hrr8_ hzz6_ H locs hw => ?_)
        refine lv_aload_n S.1 S.2.1 dX11_findNeeds_69 rfl (lv_at hl 0 rfl) ?_
        refine gf_X11_16 S hw dX11_findNeeds_70 ?_
        refine lv_iload_n S.1 S.2.1 dX11_findNeeds_73 rfl (lv_at hl 1 rfl) ?_
        obtain ⟨b9_, hF⟩ := Zgs hF
        refine Yiald S hw zd_71 (by decide) hx1 b9_ dX11_findNeeds_74 ?_
        refine lv_aload_n S.1 S.2.1 dX11_findNeeds_75 rfl (lv_at hl 0 rfl) ?_
        refine gf_X11_90 S hw dX11_findNeeds_76 ?_
        refine lv_aload_n S.1 S.2.1 dX11_findNeeds_79 rfl (lv_at hl 0 rfl) ?_
        refine gf_X11_105 S hw dX11_findNeeds_80 ?_
        refine lv_iload_n S.1 S.2.1 dX11_findNeeds_83 rfl (lv_at hl 1 rfl) ?_
        obtain ⟨b10_, hF⟩ := Zgs hF
        refine Yiald S hw zd_100 (by decide) hx1 b10_ dX11_findNeeds_84 ?_
        obtain ⟨b11_, hF⟩ := Zgs hF
        refine Yiald S hw zd_95 (by decide) (hzz6_.1 _ _ (by decide)) b11_ dX11_findNeeds_85 ?_
        obtain ⟨r14_, z12_, h13_, hF⟩ := Ybs hF
        refine YcallSi (rest := [.int (i32 (r8_))]) S hw (c_X11_far hdj hzz6_ (hzz6_.1 _ _ (by decide)) (hzz6_.1 _ _ (by decide)) h13_) my_X11_far ms_X11_far ml_X11_366 (Zrr hR (by decide)) ⟨Nat.zero_le _, Nat.zero_le _⟩ hl.1 rfl rfl (Nat.le_of_ble_eq_true rfl) dX11_findNeeds_86 (fun hrr14_ hzz12_ H locs hw => ?_)
        refine Yicmp_ge (tgt := 99) S hrr8_ hrr14_ dX11_findNeeds_89 (by decide) (fun c15_ => ?_) (fun c15_ => ?_)
        · replace hF := ZtP c15_ hF
          exact w_X11_findNeeds_b99 S hr hlk hR hdj hk2 hk37 _ _ _ _ _ _ hF hw hzz12_ hx1 hx2 (lv_sub hl [0, 1, 2] rfl)
        · replace hF := ZtN c15_ hF
          exact w_X11_findNeeds_b92 S hr hlk hR hdj hk2 hk37 _ _ _ _ _ _ hF hw hzz12_ hx1 hx2 (lv_sub hl [0, 1, 2] rfl)
set_option maxRecDepth 100000 in
set_option maxHeartbeats 4000000 in
theorem w_X11_findNeeds_L2 {RR : Unit × ZI} (S : CallFix p m c cX11_findNeeds 3 s args Ztbl RX11) (hr : meth.sig.returnType = none) (hlk : meth.locks = false) (hR : 3 ≤ R.frames ∧ 60 * (3) ≤ R.locals) (hdj : Zdj ad) : ∀ (n : Nat) (z : ZI) (x1 : Int) (H : Heap) (locs : List Loc) (ls : Array Slot), X11_findNeeds_L2 n z x1 = some RR → ZW D cA ad (ZA ad) (Zc z) s H locs → Zok z → InR x1 → lv_has ls 3 [(0, .ref (ad 68)), (1, .int (i32 (x1)))] → W p l e R s m args below meth c H locs 0 0 (MQ below (YQv D cA ad RR.2) args s 0 0 (ZA ad)) (F0 m 2 ls []) := by
  intro n
  induction n with
  | zero => intro z x1 H locs ls hF; exact nomatch hF
  | succ n hk2 =>
    intro z x1 H locs ls hF hw hzz hx1 hl
    replace hF : X11_findNeeds_L2b (X11_findNeeds_L2 n) z x1 = some RR := hF
    unfold X11_findNeeds_L2b at hF
    refine lv_iload_n S.1 S.2.1 dX11_findNeeds_2 rfl (lv_at hl 1 rfl) ?_
    refine lv_aload_n S.1 S.2.1 dX11_findNeeds_3 rfl (lv_at hl 0 rfl) ?_
    refine gg_X11_193 S hw dX11_findNeeds_4 ?_
    refine Yicmp_ge (tgt := 111) S hx1 (hzz.1 68 12 (by decide)) dX11_findNeeds_7 (by decide) (fun c1_ => ?_) (fun c1_ => ?_)
    · replace hF := ZtP c1_ hF
      exact Yvret S hw hzz hr hlk hF dX11_findNeeds_111
    · replace hF := ZtN c1_ hF
      refine lv_aload_n S.1 S.2.1 dX11_findNeeds_10 rfl (lv_at hl 0 rfl) ?_
      refine gf_X11_102 S hw dX11_findNeeds_11 ?_
      refine lv_iload_n S.1 S.2.1 dX11_findNeeds_14 rfl (lv_at hl 1 rfl) ?_
      refine lv_iconst (v := i32 5) S.1 S.2.1 dX11_findNeeds_15 ic_5 ?_
      refine lv_aload_n S.1 S.2.1 dX11_findNeeds_16 rfl (lv_at hl 0 rfl) ?_
      refine lv_iload_n S.1 S.2.1 dX11_findNeeds_17 rfl (lv_at hl 1 rfl) ?_
      refine lv_aload_n S.1 S.2.1 dX11_findNeeds_18 rfl (lv_at hl 0 rfl) ?_
      refine gg_X11_200 S hw dX11_findNeeds_19 ?_
      obtain ⟨r4_, z2_, h3_, hF⟩ := Ybs hF
      refine YcallVi (rest := [.int (i32 (5)), .int (i32 (x1)), .ref (ad 99)]) S hw (c_X11_hereOf hdj hzz hx1 (hzz.1 68 11 (by decide)) h3_) my_X11_hereOf mi_X11_hereOf ml_X11_262 zd_68 zc_X11 rfl (Zrr hR (by decide)) ⟨Nat.zero_le _, Nat.zero_le _⟩ hl.1 rfl rfl (Nat.le_of_ble_eq_true rfl) dX11_findNeeds_22 (fun hrr4_ hzz2_ H locs hw => ?_)
      obtain ⟨g5_, hF⟩ := Zgs hF
      refine Yimul S dX11_findNeeds_25 ?_
      obtain ⟨b6_, hF⟩ := Zgs hF
      refine Yiast S hw hzz2_ zd_99 (by decide) hx1 g5_ b6_ dX11_findNeeds_26 (fun z7_ H locs ez hzz7_ hw => ?_)
      replace hF := Zle ez hF; clear ez
      refine lv_aload_n S.1 S.2.1 dX11_findNeeds_27 rfl (lv_at hl 0 rfl) ?_
      refine gf_X11_105 S hw dX11_findNeeds_28 ?_
      refine lv_iload_n S.1 S.2.1 dX11_findNeeds_31 rfl (lv_at hl 1 rfl) ?_
      refine lv_bipush (v := i32 (-9)) S.1 S.2.1 dX11_findNeeds_32 bp_m9 ?_
      obtain ⟨b8_, hF⟩ := Zgs hF
      refine Yiast S hw hzz7_ zd_100 (by decide) hx1 r_m9 b8_ dX11_findNeeds_34 (fun z9_ H locs ez hzz9_ hw => ?_)
      replace hF := Zle ez hF; clear ez
      refine lv_iconst (v := i32 0) S.1 S.2.1 dX11_findNeeds_35 ic_0 ?_
      refine lv_istore_n (lv' := [(2, .int (i32 (0))), (0, .ref (ad 68)), (1, .int (i32 (x1)))]) S.1 S.2.1 dX11_findNeeds_36 rfl hl (by decide) rfl (fun ls hl => ?_)
      exact w_X11_findNeeds_L37 S hr hlk hR hdj hk2 Zfuel _ _ _ _ _ _ hF hw hzz9_ hx1 r_0 (lv_sub hl [1, 2, 0] rfl)
set_option maxRecDepth 100000 in
set_option maxHeartbeats 4000000 in
theorem c_X11_findNeeds {l : Launch} {D : va_G} {cA : Nat → ClassId} {ad : Nat → Nat} (hdj : Zdj ad) {z z1 : ZI} (hzz : Zok z) (hF : F_X11_findNeeds z  = some ((), z1)) : YMv l D cA ad (3) yX11_findNeeds cX11_findNeeds 3 [.ref (ad 68)] z z1 :=
  Zmet hdj (by decide) rfl (Nat.le_of_ble_eq_true rfl) (lv := [(0, .ref (ad 68))]) rfl (fun p e s m args below meth c ls S hr hlk hw hl => by
    have hR : 3 ≤ (Zrm (3)).frames ∧ 60 * (3) ≤ (Zrm (3)).locals := ⟨Nat.le_refl _, Nat.le_refl _⟩
    unfold F_X11_findNeeds at hF
    revert hR
    generalize Zrm (3) = R
    intro hR
    refine lv_iconst (v := i32 0) S.1 S.2.1 dX11_findNeeds_0 ic_0 ?_
    refine lv_istore_n (lv' := [(1, .int (i32 (0))), (0, .ref (ad 68))]) S.1 S.2.1 dX11_findNeeds_1 rfl hl (by decide) rfl (fun ls hl => ?_)
    exact w_X11_findNeeds_L2 S hr hlk hR hdj Zfuel _ _ _ _ _ hF hw hzz r_0 (lv_sub hl [1, 0] rfl))
set_option maxRecDepth 100000 in
set_option maxHeartbeats 4000000 in
theorem w_X11_isAsFound_b200 {RR : Int × ZI} (S : CallFix p m c cX11_isAsFound 6 s args Ztbl RX11) (hr : meth.sig.returnType = some .boolean) (hlk : meth.locks = false) (hR : 0 ≤ R.frames ∧ 60 * (0) ≤ R.locals) (hdj : Zdj ad) {k142 : ZI → Int → Int → Int → Option (Int × ZI)} (hk142 : ∀ (z : ZI) (x1 : Int) (x2 : Int) (x3 : Int) (H : Heap) (locs : List Loc) (ls : Array Slot), k142 z x1 x2 x3 = some RR → ZW D cA ad (ZA ad) (Zc z) s H locs → Zok z → InR x1 → InR x2 → InR x3 → lv_has ls 6 [(0, .ref (ad 68)), (1, .int (i32 (x1))), (2, .int (i32 (x2))), (3, .int (i32 (x3)))] → W p l e R s m args below meth c H locs 0 0 (MQ below (YQi D cA ad RR.1 RR.2) args s 0 0 (ZA ad)) (F0 m 142 ls [])) : ∀ (z : ZI) (x2 : Int) (x3 : Int) (x4 : Int) (y0 : Int) (H : Heap) (locs : List Loc) (ls : Array Slot), X11_isAsFound_b200 k142 z x2 x3 x4 y0 = some RR → ZW D cA ad (ZA ad) (Zc z) s H locs → Zok z → InR x2 → InR x3 → InR x4 → InR y0 → lv_has ls 6 [(0, .ref (ad 68)), (2, .int (i32 (x2))), (3, .int (i32 (x3))), (4, .int (i32 (x4)))] → W p l e R s m args below meth c H locs 0 0 (MQ below (YQi D cA ad RR.1 RR.2) args s 0 0 (ZA ad)) (F0 m 200 ls [.int (i32 (y0))]) := by
  intro z x2 x3 x4 y0 H locs ls hF hw hzz hx2 hx3 hx4 hy0 hl
  unfold X11_isAsFound_b200 at hF
  refine lv_istore_n (lv' := [(1, .int (i32 (y0))), (0, .ref (ad 68)), (2, .int (i32 (x2))), (3, .int (i32 (x3))), (4, .int (i32 (x4)))]) S.1 S.2.1 dX11_isAsFound_200 rfl hl (by decide) rfl (fun ls hl => ?_)
  refine lv_aload_n S.1 S.2.1 dX11_isAsFound_201 rfl (lv_at hl 1 rfl) ?_
  refine gf_X11_126 S hw dX11_isAsFound_202 ?_
  refine lv_iload_n S.1 S.2.1 dX11_isAsFound_205 rfl (lv_at hl 2 rfl) ?_
  refine lv_iload S.1 S.2.1 dX11_isAsFound_206 (lv_at hl 4 rfl) ?_
  obtain ⟨b1_, hF⟩ := Zgs hF
  refine Yiast S hw hzz zd_107 (by decide) hx2 hx4 b1_ dX11_isAsFound_208 (fun z2_ H locs ez hzz2_ hw => ?_)
  replace hF := Zle ez hF; clear ez
  obtain ⟨g3_, hF⟩ := Zgs hF
  refine lv_iinc (v := i32 (x2 + 1)) (lv' := [(2, .int (i32 (x2 + 1))), (1, .int (i32 (y0))), (0, .ref (ad 68)), (3, .int (i32 (x3))), (4, .int (i32 (x4)))]) S.1 S.2.1 dX11_isAsFound_209 hl (k := 2) rfl Yiinc (by decide) rfl (fun ls hl => ?_)
  obtain ⟨g4_, hF⟩ := Zgs hF
  refine lv_iinc (v := i32 (x3 + 1)) (lv' := [(3, .int (i32 (x3 + 1))), (2, .int (i32 (x2 + 1))), (1, .int (i32 (y0))), (0, .ref (ad 68)), (4, .int (i32 (x4)))]) S.1 S.2.1 dX11_isAsFound_212 hl (k := 3) rfl Yiinc (by decide) rfl (fun ls hl => ?_)
  refine lv_goto (tgt := 142) S.1 S.2.1 dX11_isAsFound_215 (by decide) ?_
  exact hk142 _ _ _ _ _ _ _ hF hw hzz2_ hy0 g3_ g4_ (lv_sub hl [3, 2, 1, 0] rfl)
set_option maxRecDepth 100000 in
set_option maxHeartbeats 4000000 in
theorem w_X11_isAsFound_b199 {RR : Int × ZI} (S : CallFix p m c cX11_isAsFound 6 s args Ztbl RX11) (hr : meth.sig.returnType = some .boolean) (hlk : meth.locks = false) (hR : 0 ≤ R.frames ∧ 60 * (0) ≤ R.locals) (hdj : Zdj ad) {k142 : ZI → Int → Int → Int → Option (Int × ZI)} (hk142 : ∀ (z : ZI) (x1 : Int) (x2 : Int) (x3 : Int) (H : Heap) (locs : List Loc) (ls : Array Slot), k142 z x1 x2 x3 = some RR → ZW D cA ad (ZA ad) (Zc z) s H locs → Zok z → InR x1 → InR x2 → InR x3 → lv_has ls 6 [(0, .ref (ad 68)), (1, .int (i32 (x1))), (2, .int (i32 (x2))), (3, .int (i32 (x3)))] → W p l e R s m args below meth c H locs 0 0 (MQ below (YQi D cA ad RR.1 RR.2) args s 0 0 (ZA ad)) (F0 m 142 ls [])) : ∀ (z : ZI) (x2 : Int) (x3 : Int) (x4 : Int) (H : Heap) (locs : List Loc) (ls : Array Slot), X11_isAsFound_b199 k142 z x2 x3 x4 = some RR → ZW D cA ad (ZA ad) (Zc z) s H locs → Zok z → InR x2 → InR x3 → InR x4 → lv_has ls 6 [(0, .ref (ad 68)), (2, .int (i32 (x2))), (3, .int (i32 (x3))), (4, .int (i32 (x4)))] → W p l e R s m args below meth c H locs 0 0 (MQ below (YQi D cA ad RR.1 RR.2) args s 0 0 (ZA ad)) (F0 m 199 ls []) := by
  intro z x2 x3 x4 H locs ls hF hw hzz hx2 hx3 hx4 hl
  unfold X11_isAsFound_b199 at hF
  refine lv_iconst (v := i32 0) S.1 S.2.1 dX11_isAsFound_199 ic_0 ?_
  exact w_X11_isAsFound_b200 S hr hlk hR hdj hk142 _ _ _ _ _ _ _ _ hF hw hzz hx2 hx3 hx4 r_0 (lv_sub hl [0, 1, 2, 3] rfl)
set_option maxRecDepth 100000 in
set_option maxHeartbeats 4000000 in
theorem w_X11_isAsFound_b178 {RR : Int × ZI} (S : CallFix p m c cX11_isAsFound 6 s args Ztbl RX11) (hr : meth.sig.returnType = some .boolean) (hlk : meth.locks = false) (hR : 0 ≤ R.frames ∧ 60 * (0) ≤ R.locals) (hdj : Zdj ad) {k142 : ZI → Int → Int → Int → Option (Int × ZI)} (hk142 : ∀ (z : ZI) (x1 : Int) (x2 : Int) (x3 : Int) (H : Heap) (locs : List Loc) (ls : Array Slot), k142 z x1 x2 x3 = some RR → ZW D cA ad (ZA ad) (Zc z) s H locs → Zok z → InR x1 → InR x2 → InR x3 → lv_has ls 6 [(0, .ref (ad 68)), (1, .int (i32 (x1))), (2, .int (i32 (x2))), (3, .int (i32 (x3)))] → W p l e R s m args below meth c H locs 0 0 (MQ below (YQi D cA ad RR.1 RR.2) args s 0 0 (ZA ad)) (F0 m 142 ls [])) : ∀ (z : ZI) (x1 : Int) (x2 : Int) (x3 : Int) (y0 : Int) (H : Heap) (locs : List Loc) (ls : Array Slot), X11_isAsFound_b178 k142 z x1 x2 x3 y0 = some RR → ZW D cA ad (ZA ad) (Zc z) s H locs → Zok z → InR x1 → InR x2 → InR x3 → InR y0 → lv_has ls 6 [(0, .ref (ad 68)), (1, .int (i32 (x1))), (2, .int (i32 (x2))), (3, .int (i32 (x3)))] → W p l e R s m args below meth c H locs 0 0 (MQ below (YQi D cA ad RR.1 RR.2) args s 0 0 (ZA ad)) (F0 m 178 ls [.int (i32 (y0))]) := by
  intro z x1 x2 x3 y0 H locs ls hF hw hzz hx1 hx2 hx3 hy0 hl
  unfold X11_isAsFound_b178 at hF
  refine lv_istore (lv' := [(4, .int (i32 (y0))), (0, .ref (ad 68)), (1, .int (i32 (x1))), (2, .int (i32 (x2))), (3, .int (i32 (x3)))]) S.1 S.2.1 dX11_isAsFound_178 hl (by decide) rfl (fun ls hl => ?_)
  refine lv_iload_n S.1 S.2.1 dX11_isAsFound_180 rfl (lv_at hl 2 rfl) ?_
  refine Yif_eq (tgt := 199) S hx1 dX11_isAsFound_181 (by decide) (fun c1_ => ?_) (fun c1_ => ?_)
  · replace hF := ZtP c1_ hF
    exact w_X11_isAsFound_b199 S hr hlk hR hdj hk142 _ _ _ _ _ _ _ hF hw hzz hx2 hx3 hy0 (lv_sub hl [1, 3, 4, 0] rfl)
  · replace hF := ZtN c1_ hF
    refine lv_aload_n S.1 S.2.1 dX11_isAsFound_184 rfl (lv_at hl 1 rfl) ?_
    refine gf_X11_126 S hw dX11_isAsFound_185 ?_
    refine lv_iload_n S.1 S.2.1 dX11_isAsFound_188 rfl (lv_at hl 3 rfl) ?_
    obtain ⟨b2_, hF⟩ := Zgs hF
    refine Yiald S hw zd_107 (by decide) hx2 b2_ dX11_isAsFound_189 ?_
    refine lv_iload S.1 S.2.1 dX11_isAsFound_190 (lv_at hl 0 rfl) ?_
    refine Yicmp_ne (tgt := 199) S (hzz.1 _ _ (by decide)) hy0 dX11_isAsFound_192 (by decide) (fun c3_ => ?_) (fun c3_ => ?_)
    · replace hF := ZtN c3_ hF
      exact w_X11_isAsFound_b199 S hr hlk hR hdj hk142 _ _ _ _ _ _ _ hF hw hzz hx2 hx3 hy0 (lv_sub hl [1, 3, 4, 0] rfl)
    · replace hF := ZtP c3_ hF
      refine lv_iconst (v := i32 1) S.1 S.2.1 dX11_isAsFound_195 ic_1 ?_
      refine lv_goto (tgt := 200) S.1 S.2.1 dX11_isAsFound_196 (by decide) ?_
      exact w_X11_isAsFound_b200 S hr hlk hR hdj hk142 _ _ _ _ _ _ _ _ hF hw hzz hx2 hx3 hy0 r_1 (lv_sub hl [1, 3, 4, 0] rfl)
set_option maxRecDepth 100000 in
set_option maxHeartbeats 4000000 in
theorem w_X11_isAsFound_L142 {RR : Int × ZI} (S : CallFix p m c cX11_isAsFound 6 s args Ztbl RX11) (hr : meth.sig.returnType = some .boolean) (hlk : meth.locks = false) (hR : 0 ≤ R.frames ∧ 60 * (0) ≤ R.locals) (hdj : Zdj ad) : ∀ (n : Nat) (z : ZI) (x1 : Int) (x2 : Int) (x3 : Int) (H : Heap) (locs : List Loc) (ls : Array Slot), X11_isAsFound_L142 n z x1 x2 x3 = some RR → ZW D cA ad (ZA ad) (Zc z) s H locs → Zok z → InR x1 → InR x2 → InR x3 → lv_has ls 6 [(0, .ref (ad 68)), (1, .int (i32 (x1))), (2, .int (i32 (x2))), (3, .int (i32 (x3)))] → W p l e R s m args below meth c H locs 0 0 (MQ below (YQi D cA ad RR.1 RR.2) args s 0 0 (ZA ad)) (F0 m 142 ls []) := by
  intro n
  induction n with
  | zero => intro z x1 x2 x3 H locs ls hF; exact nomatch hF
  | succ n hk142 =>
    intro z x1 x2 x3 H locs ls hF hw hzz hx1 hx2 hx3 hl
    replace hF : X11_isAsFound_L142b (X11_isAsFound_L142 n) z x1 x2 x3 = some RR := hF
    unfold X11_isAsFound_L142b at hF
    refine lv_iload_n S.1 S.2.1 dX11_isAsFound_142 rfl (lv_at hl 3 rfl) ?_
    refine lv_bipush (v := i32 6) S.1 S.2.1 dX11_isAsFound_143 bp_6 ?_
    refine Yicmp_ge (tgt := 218) S hx3 r_6 dX11_isAsFound_145 (by decide) (fun c1_ => ?_) (fun c1_ => ?_)
    · replace hF := ZtP c1_ hF
      refine lv_aload_n S.1 S.2.1 dX11_isAsFound_218 rfl (lv_at hl 0 rfl) ?_
      refine lv_iconst (v := i32 1) S.1 S.2.1 dX11_isAsFound_219 ic_1 ?_
      refine pp_X11_388 S hw hzz r_1 (Or.inr rfl) dX11_isAsFound_220 (fun z2_ H locs ez hzz2_ hw => ?_)
      replace hF := Zle ez hF; clear ez
      refine lv_iload_n S.1 S.2.1 dX11_isAsFound_223 rfl (lv_at hl 1 rfl) ?_
      obtain ⟨b3_, hF⟩ := Zgs hF
      exact Yiretz S hw hzz2_ hx1 hr hlk b3_ hF dX11_isAsFound_224
    · replace hF := ZtN c1_ hF
      refine lv_iload_n S.1 S.2.1 dX11_isAsFound_148 rfl (lv_at hl 3 rfl) ?_
      refine lv_aload_n S.1 S.2.1 dX11_isAsFound_149 rfl (lv_at hl 0 rfl) ?_
      refine gg_X11_369 S hw dX11_isAsFound_150 ?_
      refine Yicmp_ge (tgt := 176) S hx3 (hzz.1 68 47 (by decide)) dX11_isAsFound_153 (by decide) (fun c4_ => ?_) (fun c4_ => ?_)
      · replace hF := ZtP c4_ hF
        refine lv_bipush (v := i32 (-9)) S.1 S.2.1 dX11_isAsFound_176 bp_m9 ?_
        exact w_X11_isAsFound_b178 S hr hlk hR hdj hk142 _ _ _ _ _ _ _ _ hF hw hzz hx1 hx2 hx3 r_m9 (lv_sub hl [0, 1, 2, 3] rfl)
      · replace hF := ZtN c4_ hF
        refine lv_sipush (v := i32 10000) S.1 S.2.1 dX11_isAsFound_156 sp_10000 ?_
        refine lv_aload_n S.1 S.2.1 dX11_isAsFound_159 rfl (lv_at hl 0 rfl) ?_
        refine gf_X11_93 S hw dX11_isAsFound_160 ?_
        refine lv_iload_n S.1 S.2.1 dX11_isAsFound_163 rfl (lv_at hl 3 rfl) ?_
        obtain ⟨b5_, hF⟩ := Zgs hF
        refine Yiald S hw zd_96 (by decide) hx3 b5_ dX11_isAsFound_164 ?_
        obtain ⟨g6_, hF⟩ := Zgs hF
        refine Yimul S dX11_isAsFound_165 ?_
        refine lv_aload_n S.1 S.2.1 dX11_isAsFound_166 rfl (lv_at hl 0 rfl) ?_
        refine gf_X11_96 S hw dX11_isAsFound_167 ?_
        refine lv_iload_n S.1 S.2.1 dX11_isAsFound_170 rfl (lv_at hl 3 rfl) ?_
        obtain ⟨b7_, hF⟩ := Zgs hF
        refine Yiald S hw zd_97 (by decide) hx3 b7_ dX11_isAsFound_171 ?_
        obtain ⟨g8_, hF⟩ := Zgs hF
        refine Yiadd S dX11_isAsFound_172 ?_
        refine lv_goto (tgt := 178) S.1 S.2.1 dX11_isAsFound_173 (by decide) ?_
        exact w_X11_isAsFound_b178 S hr hlk hR hdj hk142 _ _ _ _ _ _ _ _ hF hw hzz hx1 hx2 hx3 g8_ (lv_sub hl [0, 1, 2, 3] rfl)
set_option maxRecDepth 100000 in
set_option maxHeartbeats 4000000 in
theorem w_X11_isAsFound_b140 {RR : Int × ZI} (S : CallFix p m c cX11_isAsFound 6 s args Ztbl RX11) (hr : meth.sig.returnType = some .boolean) (hlk : meth.locks = false) (hR : 0 ≤ R.frames ∧ 60 * (0) ≤ R.locals) (hdj : Zdj ad) : ∀ (z : ZI) (x1 : Int) (x2 : Int) (H : Heap) (locs : List Loc) (ls : Array Slot), X11_isAsFound_b140 z x1 x2 = some RR → ZW D cA ad (ZA ad) (Zc z) s H locs → Zok z → InR x1 → InR x2 → lv_has ls 6 [(0, .ref (ad 68)), (1, .int (i32 (x1))), (2, .int (i32 (x2)))] → W p l e R s m args below meth c H locs 0 0 (MQ below (YQi D cA ad RR.1 RR.2) args s 0 0 (ZA ad)) (F0 m 140 ls []) := by
  intro z x1 x2 H locs ls hF hw hzz hx1 hx2 hl
  unfold X11_isAsFound_b140 at hF
  refine lv_iconst (v := i32 0) S.1 S.2.1 dX11_isAsFound_140 ic_0 ?_
  refine lv_istore_n (lv' := [(3, .int (i32 (0))), (0, .ref (ad 68)), (1, .int (i32 (x1))), (2, .int (i32 (x2)))]) S.1 S.2.1 dX11_isAsFound_141 rfl hl (by decide) rfl (fun ls hl => ?_)
  exact w_X11_isAsFound_L142 S hr hlk hR hdj Zfuel _ _ _ _ _ _ _ hF hw hzz hx1 hx2 r_0 (lv_sub hl [1, 2, 3, 0] rfl)
set_option maxRecDepth 100000 in
set_option maxHeartbeats 4000000 in
theorem w_X11_isAsFound_b112 {RR : Int × ZI} (S : CallFix p m c cX11_isAsFound 6 s args Ztbl RX11) (hr : meth.sig.returnType = some .boolean) (hlk : meth.locks = false) (hR : 0 ≤ R.frames ∧ 60 * (0) ≤ R.locals) (hdj : Zdj ad) {k9 : ZI → Int → Int → Int → Option (Int × ZI)} (hk9 : ∀ (z : ZI) (x1 : Int) (x2 : Int) (x3 : Int) (H : Heap) (locs : List Loc) (ls : Array Slot), k9 z x1 x2 x3 = some RR → ZW D cA ad (ZA ad) (Zc z) s H locs → Zok z → InR x1 → InR x2 → InR x3 → lv_has ls 6 [(0, .ref (ad 68)), (1, .int (i32 (x1))), (2, .int (i32 (x2))), (3, .int (i32 (x3)))] → W p l e R s m args below meth c H locs 0 0 (MQ below (YQi D cA ad RR.1 RR.2) args s 0 0 (ZA ad)) (F0 m 9 ls [])) : ∀ (z : ZI) (x2 : Int) (x3 : Int) (x4 : Int) (x5 : Int) (y0 : Int) (H : Heap) (locs : List Loc) (ls : Array Slot), X11_isAsFound_b112 k9 z x2 x3 x4 x5 y0 = some RR → ZW D cA ad (ZA ad) (Zc z) s H locs → Zok z → InR x2 → InR x3 → InR x4 → InR x5 → InR y0 → lv_has ls 6 [(0, .ref (ad 68)), (2, .int (i32 (x2))), (3, .int (i32 (x3))), (4, .int (i32 (x4))), (5, .int (i32 (x5)))] → W p l e R s m args below meth c H locs 0 0 (MQ below (YQi D cA ad RR.1 RR.2) args s 0 0 (ZA ad)) (F0 m 112 ls [.int (i32 (y0))]) := by
  intro z x2 x3 x4 x5 y0 H locs ls hF hw hzz hx2 hx3 hx4 hx5 hy0 hl
  unfold X11_isAsFound_b112 at hF
  refine lv_istore_n (lv' := [(1, .int (i32 (y0))), (0, .ref (ad 68)), (2, .int (i32 (x2))), (3, .int (i32 (x3))), (4, .int (i32 (x4))), (5, .int (i32 (x5)))]) S.1 S.2.1 dX11_isAsFound_112 rfl hl (by decide) rfl (fun ls hl => ?_)
  refine lv_aload_n S.1 S.2.1 dX11_isAsFound_113 rfl (lv_at hl 1 rfl) ?_
  refine gf_X11_126 S hw dX11_isAsFound_114 ?_
  refine lv_iload_n S.1 S.2.1 dX11_isAsFound_117 rfl (lv_at hl 2 rfl) ?_
  refine lv_iload S.1 S.2.1 dX11_isAsFound_118 (lv_at hl 4 rfl) ?_
  obtain ⟨b1_, hF⟩ := Zgs hF
  refine Yiast S hw hzz zd_107 (by decide) hx2 hx4 b1_ dX11_isAsFound_120 (fun z2_ H locs ez hzz2_ hw => ?_)
  replace hF := Zle ez hF; clear ez
  refine lv_aload_n S.1 S.2.1 dX11_isAsFound_121 rfl (lv_at hl 1 rfl) ?_
  refine gf_X11_126 S hw dX11_isAsFound_122 ?_
  refine lv_iload_n S.1 S.2.1 dX11_isAsFound_125 rfl (lv_at hl 2 rfl) ?_
  refine lv_iconst (v := i32 1) S.1 S.2.1 dX11_isAsFound_126 ic_1 ?_
  obtain ⟨g3_, hF⟩ := Zgs hF
  refine Yiadd S dX11_isAsFound_127 ?_
  refine lv_iload S.1 S.2.1 dX11_isAsFound_128 (lv_at hl 5 rfl) ?_
  obtain ⟨b4_, hF⟩ := Zgs hF
  refine Yiast S hw hzz2_ zd_107 (by decide) g3_ hx5 b4_ dX11_isAsFound_130 (fun z5_ H locs ez hzz5_ hw => ?_)
  replace hF := Zle ez hF; clear ez
  obtain ⟨g6_, hF⟩ := Zgs hF
  refine lv_iinc (v := i32 (x2 + 2)) (lv' := [(2, .int (i32 (x2 + 2))), (1, .int (i32 (y0))), (0, .ref (ad 68)), (3, .int (i32 (x3))), (4, .int (i32 (x4))), (5, .int (i32 (x5)))]) S.1 S.2.1 dX11_isAsFound_131 hl (k := 2) rfl Yiinc (by decide) rfl (fun ls hl => ?_)
  obtain ⟨g7_, hF⟩ := Zgs hF
  refine lv_iinc (v := i32 (x3 + 1)) (lv' := [(3, .int (i32 (x3 + 1))), (2, .int (i32 (x2 + 2))), (1, .int (i32 (y0))), (0, .ref (ad 68)), (4, .int (i32 (x4))), (5, .int (i32 (x5)))]) S.1 S.2.1 dX11_isAsFound_134 hl (k := 3) rfl Yiinc (by decide) rfl (fun ls hl => ?_)
  refine lv_goto (tgt := 9) S.1 S.2.1 dX11_isAsFound_137 (by decide) ?_
  exact hk9 _ _ _ _ _ _ _ hF hw hzz5_ hy0 g6_ g7_ (lv_sub hl [3, 2, 1, 0] rfl)
set_option maxRecDepth 100000 in
set_option maxHeartbeats 4000000 in
theorem w_X11_isAsFound_b111 {RR : Int × ZI} (S : CallFix p m c cX11_isAsFound 6 s args Ztbl RX11) (hr : meth.sig.returnType = some .boolean) (hlk : meth.locks = false) (hR : 0 ≤ R.frames ∧ 60 * (0) ≤ R.locals) (hdj : Zdj ad) {k9 : ZI → Int → Int → Int → Option (Int × ZI)} (hk9 : ∀ (z : ZI) (x1 : Int) (x2 : Int) (x3 : Int) (H : Heap) (locs : List Loc) (ls : Array Slot), k9 z x1 x2 x3 = some RR → ZW D cA ad (ZA ad) (Zc z) s H locs → Zok z → InR x1 → InR x2 → InR x3 → lv_has ls 6 [(0, .ref (ad 68)), (1, .int (i32 (x1))), (2, .int (i32 (x2))), (3, .int (i32 (x3)))] → W p l e R s m args below meth c H locs 0 0 (MQ below (YQi D cA ad RR.1 RR.2) args s 0 0 (ZA ad)) (F0 m 9 ls [])) : ∀ (z : ZI) (x2 : Int) (x3 : Int) (x4 : Int) (x5 : Int) (H : Heap) (locs : List Loc) (ls : Array Slot), X11_isAsFound_b111 k9 z x2 x3 x4 x5 = some RR → ZW D cA ad (ZA ad) (Zc z) s H locs → Zok z → InR x2 → InR x3 → InR x4 → InR x5 → lv_has ls 6 [(0, .ref (ad 68)), (2, .int (i32 (x2))), (3, .int (i32 (x3))), (4, .int (i32 (x4))), (5, .int (i32 (x5)))] → W p l e R s m args below meth c H locs 0 0 (MQ below (YQi D cA ad RR.1 RR.2) args s 0 0 (ZA ad)) (F0 m 111 ls []) := by
  intro z x2 x3 x4 x5 H locs ls hF hw hzz hx2 hx3 hx4 hx5 hl
  unfold X11_isAsFound_b111 at hF
  refine lv_iconst (v := i32 0) S.1 S.2.1 dX11_isAsFound_111 ic_0 ?_
  exact w_X11_isAsFound_b112 S hr hlk hR hdj hk9 _ _ _ _ _ _ _ _ _ hF hw hzz hx2 hx3 hx4 hx5 r_0 (lv_sub hl [0, 1, 2, 3, 4] rfl)
set_option maxRecDepth 100000 in
set_option maxHeartbeats 4000000 in
theorem w_X11_isAsFound_b77 {RR : Int × ZI} (S : CallFix p m c cX11_isAsFound 6 s args Ztbl RX11) (hr : meth.sig.returnType = some .boolean) (hlk : meth.locks = false) (hR : 0 ≤ R.frames ∧ 60 * (0) ≤ R.locals) (hdj : Zdj ad) {k9 : ZI → Int → Int → Int → Option (Int × ZI)} (hk9 : ∀ (z : ZI) (x1 : Int) (x2 : Int) (x3 : Int) (H : Heap) (locs : List Loc) (ls : Array Slot), k9 z x1 x2 x3 = some RR → ZW D cA ad (ZA ad) (Zc z) s H locs → Zok z → InR x1 → InR x2 → InR x3 → lv_has ls 6 [(0, .ref (ad 68)), (1, .int (i32 (x1))), (2, .int (i32 (x2))), (3, .int (i32 (x3)))] → W p l e R s m args below meth c H locs 0 0 (MQ below (YQi D cA ad RR.1 RR.2) args s 0 0 (ZA ad)) (F0 m 9 ls [])) : ∀ (z : ZI) (x1 : Int) (x2 : Int) (x3 : Int) (x4 : Int) (y0 : Int) (H : Heap) (locs : List Loc) (ls : Array Slot), X11_isAsFound_b77 k9 z x1 x2 x3 x4 y0 = some RR → ZW D cA ad (ZA ad) (Zc z) s H locs → Zok z → InR x1 → InR x2 → InR x3 → InR x4 → InR y0 → lv_has ls 6 [(0, .ref (ad 68)), (1, .int (i32 (x1))), (2, .int (i32 (x2))), (3, .int (i32 (x3))), (4, .int (i32 (x4)))] → W p l e R s m args below meth c H locs 0 0 (MQ below (YQi D cA ad RR.1 RR.2) args s 0 0 (ZA ad)) (F0 m 77 ls [.int (i32 (y0))]) := by
  intro z x1 x2 x3 x4 y0 H locs ls hF hw hzz hx1 hx2 hx3 hx4 hy0 hl
  unfold X11_isAsFound_b77 at hF
  refine lv_istore (lv' := [(5, .int (i32 (y0))), (0, .ref (ad 68)), (1, .int (i32 (x1))), (2, .int (i32 (x2))), (3, .int (i32 (x3))), (4, .int (i32 (x4)))]) S.1 S.2.1 dX11_isAsFound_77 hl (by decide) rfl (fun ls hl => ?_)
  refine lv_iload_n S.1 S.2.1 dX11_isAsFound_79 rfl (lv_at hl 2 rfl) ?_
  refine Yif_eq (tgt := 111) S hx1 dX11_isAsFound_80 (by decide) (fun c1_ => ?_) (fun c1_ => ?_)
  · replace hF := ZtP c1_ hF
    exact w_X11_isAsFound_b111 S hr hlk hR hdj hk9 _ _ _ _ _ _ _ _ hF hw hzz hx2 hx3 hx4 hy0 (lv_sub hl [1, 3, 4, 5, 0] rfl)
  · replace hF := ZtN c1_ hF
    refine lv_aload_n S.1 S.2.1 dX11_isAsFound_83 rfl (lv_at hl 1 rfl) ?_
    refine gf_X11_126 S hw dX11_isAsFound_84 ?_
    refine lv_iload_n S.1 S.2.1 dX11_isAsFound_87 rfl (lv_at hl 3 rfl) ?_
    obtain ⟨b2_, hF⟩ := Zgs hF
    refine Yiald S hw zd_107 (by decide) hx2 b2_ dX11_isAsFound_88 ?_
    refine lv_iload S.1 S.2.1 dX11_isAsFound_89 (lv_at hl 5 rfl) ?_
    refine Yicmp_ne (tgt := 111) S (hzz.1 _ _ (by decide)) hx4 dX11_isAsFound_91 (by decide) (fun c3_ => ?_) (fun c3_ => ?_)
    · replace hF := ZtN c3_ hF
      exact w_X11_isAsFound_b111 S hr hlk hR hdj hk9 _ _ _ _ _ _ _ _ hF hw hzz hx2 hx3 hx4 hy0 (lv_sub hl [1, 3, 4, 5, 0] rfl)
    · replace hF := ZtP c3_ hF
      refine lv_aload_n S.1 S.2.1 dX11_isAsFound_94 rfl (lv_at hl 1 rfl) ?_
      refine gf_X11_126 S hw dX11_isAsFound_95 ?_
      refine lv_iload_n S.1 S.2.1 dX11_isAsFound_98 rfl (lv_at hl 3 rfl) ?_
      refine lv_iconst (v := i32 1) S.1 S.2.1 dX11_isAsFound_99 ic_1 ?_
      obtain ⟨g4_, hF⟩ := Zgs hF
      refine Yiadd S dX11_isAsFound_100 ?_
      obtain ⟨b5_, hF⟩ := Zgs hF
      refine Yiald S hw zd_107 (by decide) g4_ b5_ dX11_isAsFound_101 ?_
      refine lv_iload S.1 S.2.1 dX11_isAsFound_102 (lv_at hl 0 rfl) ?_
      refine Yicmp_ne (tgt := 111) S (hzz.1 _ _ (by decide)) hy0 dX11_isAsFound_104 (by decide) (fun c6_ => ?_) (fun c6_ => ?_)
      · replace hF := ZtN c6_ hF
        exact w_X11_isAsFound_b111 S hr hlk hR hdj hk9 _ _ _ _ _ _ _ _ hF hw hzz hx2 hx3 hx4 hy0 (lv_sub hl [1, 3, 4, 5, 0] rfl)
      · replace hF := ZtP c6_ hF
        refine lv_iconst (v := i32 1) S.1 S.2.1 dX11_isAsFound_107 ic_1 ?_
        refine lv_goto (tgt := 112) S.1 S.2.1 dX11_isAsFound_108 (by decide) ?_
        exact w_X11_isAsFound_b112 S hr hlk hR hdj hk9 _ _ _ _ _ _ _ _ _ hF hw hzz hx2 hx3 hx4 hy0 r_1 (lv_sub hl [1, 3, 4, 5, 0] rfl)
set_option maxRecDepth 100000 in
set_option maxHeartbeats 4000000 in
theorem w_X11_isAsFound_b56 {RR : Int × ZI} (S : CallFix p m c cX11_isAsFound 6 s args Ztbl RX11) (hr : meth.sig.returnType = some .boolean) (hlk : meth.locks = false) (hR : 0 ≤ R.frames ∧ 60 * (0) ≤ R.locals) (hdj : Zdj ad) {k9 : ZI → Int → Int → Int → Option (Int × ZI)} (hk9 : ∀ (z : ZI) (x1 : Int) (x2 : Int) (x3 : Int) (H : Heap) (locs : List Loc) (ls : Array Slot), k9 z x1 x2 x3 = some RR → ZW D cA ad (ZA ad) (Zc z) s H locs → Zok z → InR x1 → InR x2 → InR x3 → lv_has ls 6 [(0, .ref (ad 68)), (1, .int (i32 (x1))), (2, .int (i32 (x2))), (3, .int (i32 (x3)))] → W p l e R s m args below meth c H locs 0 0 (MQ below (YQi D cA ad RR.1 RR.2) args s 0 0 (ZA ad)) (F0 m 9 ls [])) : ∀ (z : ZI) (x1 : Int) (x2 : Int) (x3 : Int) (y0 : Int) (H : Heap) (locs : List Loc) (ls : Array Slot), X11_isAsFound_b56 k9 z x1 x2 x3 y0 = some RR → ZW D cA ad (ZA ad) (Zc z) s H locs → Zok z → InR x1 → InR x2 → InR x3 → InR y0 → lv_has ls 6 [(0, .ref (ad 68)), (1, .int (i32 (x1))), (2, .int (i32 (x2))), (3, .int (i32 (x3)))] → W p l e R s m args below meth c H locs 0 0 (MQ below (YQi D cA ad RR.1 RR.2) args s 0 0 (ZA ad)) (F0 m 56 ls [.int (i32 (y0))]) := by
  intro z x1 x2 x3 y0 H locs ls hF hw hzz hx1 hx2 hx3 hy0 hl
  unfold X11_isAsFound_b56 at hF
  refine lv_istore (lv' := [(4, .int (i32 (y0))), (0, .ref (ad 68)), (1, .int (i32 (x1))), (2, .int (i32 (x2))), (3, .int (i32 (x3)))]) S.1 S.2.1 dX11_isAsFound_56 hl (by decide) rfl (fun ls hl => ?_)
  refine lv_iload_n S.1 S.2.1 dX11_isAsFound_58 rfl (lv_at hl 4 rfl) ?_
  refine lv_aload_n S.1 S.2.1 dX11_isAsFound_59 rfl (lv_at hl 1 rfl) ?_
  refine gg_X11_193 S hw dX11_isAsFound_60 ?_
  refine Yicmp_ge (tgt := 75) S hx3 (hzz.1 68 12 (by decide)) dX11_isAsFound_63 (by decide) (fun c1_ => ?_) (fun c1_ => ?_)
  · replace hF := ZtP c1_ hF
    refine lv_bipush (v := i32 (-9)) S.1 S.2.1 dX11_isAsFound_75 bp_m9 ?_
    exact w_X11_isAsFound_b77 S hr hlk hR hdj hk9 _ _ _ _ _ _ _ _ _ hF hw hzz hx1 hx2 hx3 hy0 r_m9 (lv_sub hl [1, 2, 3, 4, 0] rfl)
  · replace hF := ZtN c1_ hF
    refine lv_aload_n S.1 S.2.1 dX11_isAsFound_66 rfl (lv_at hl 1 rfl) ?_
    refine gf_X11_102 S hw dX11_isAsFound_67 ?_
    refine lv_iload_n S.1 S.2.1 dX11_isAsFound_70 rfl (lv_at hl 4 rfl) ?_
    obtain ⟨b2_, hF⟩ := Zgs hF
    refine Yiald S hw zd_99 (by decide) hx3 b2_ dX11_isAsFound_71 ?_
    refine lv_goto (tgt := 77) S.1 S.2.1 dX11_isAsFound_72 (by decide) ?_
    exact w_X11_isAsFound_b77 S hr hlk hR hdj hk9 _ _ _ _ _ _ _ _ _ hF hw hzz hx1 hx2 hx3 hy0 (hzz.1 _ _ (by decide)) (lv_sub hl [1, 2, 3, 4, 0] rfl)
set_option maxRecDepth 100000 in
set_option maxHeartbeats 4000000 in
theorem w_X11_isAsFound_L9 {RR : Int × ZI} (S : CallFix p m c cX11_isAsFound 6 s args Ztbl RX11) (hr : meth.sig.returnType = some .boolean) (hlk : meth.locks = false) (hR : 0 ≤ R.frames ∧ 60 * (0) ≤ R.locals) (hdj : Zdj ad) : ∀ (n : Nat) (z : ZI) (x1 : Int) (x2 : Int) (x3 : Int) (H : Heap) (locs : List Loc) (ls : Array Slot), X11_isAsFound_L9 n z x1 x2 x3 = some RR → ZW D cA ad (ZA ad) (Zc z) s H locs → Zok z → InR x1 → InR x2 → InR x3 → lv_has ls 6 [(0, .ref (ad 68)), (1, .int (i32 (x1))), (2, .int (i32 (x2))), (3, .int (i32 (x3)))] → W p l e R s m args below meth c H locs 0 0 (MQ below (YQi D cA ad RR.1 RR.2) args s 0 0 (ZA ad)) (F0 m 9 ls []) := by
  intro n
  induction n with
  | zero => intro z x1 x2 x3 H locs ls hF; exact nomatch hF
  | succ n hk9 =>
    intro z x1 x2 x3 H locs ls hF hw hzz hx1 hx2 hx3 hl
    replace hF : X11_isAsFound_L9b (X11_isAsFound_L9 n) z x1 x2 x3 = some RR := hF
    unfold X11_isAsFound_L9b at hF
    refine lv_iload_n S.1 S.2.1 dX11_isAsFound_9 rfl (lv_at hl 3 rfl) ?_
    refine lv_bipush (v := i32 30) S.1 S.2.1 dX11_isAsFound_10 bp_30 ?_
    refine Yicmp_ge (tgt := 140) S hx3 r_30 dX11_isAsFound_12 (by decide) (fun c1_ => ?_) (fun c1_ => ?_)
    · replace hF := ZtP c1_ hF
      exact w_X11_isAsFound_b140 S hr hlk hR hdj _ _ _ _ _ _ hF hw hzz hx1 hx2 (lv_sub hl [0, 1, 2] rfl)
    · replace hF := ZtN c1_ hF
      refine lv_iload_n S.1 S.2.1 dX11_isAsFound_15 rfl (lv_at hl 3 rfl) ?_
      refine lv_aload_n S.1 S.2.1 dX11_isAsFound_16 rfl (lv_at hl 0 rfl) ?_
      refine gg_X11_193 S hw dX11_isAsFound_17 ?_
      refine Yicmp_ge (tgt := 54) S hx3 (hzz.1 68 12 (by decide)) dX11_isAsFound_20 (by decide) (fun c2_ => ?_) (fun c2_ => ?_)
      · replace hF := ZtP c2_ hF
        refine lv_bipush (v := i32 (-9)) S.1 S.2.1 dX11_isAsFound_54 bp_m9 ?_
        exact w_X11_isAsFound_b56 S hr hlk hR hdj hk9 _ _ _ _ _ _ _ _ hF hw hzz hx1 hx2 hx3 r_m9 (lv_sub hl [0, 1, 2, 3] rfl)
      · replace hF := ZtN c2_ hF
        refine lv_aload_n S.1 S.2.1 dX11_isAsFound_23 rfl (lv_at hl 0 rfl) ?_
        refine gf_X11_102 S hw dX11_isAsFound_24 ?_
        refine lv_iload_n S.1 S.2.1 dX11_isAsFound_27 rfl (lv_at hl 3 rfl) ?_
        obtain ⟨b3_, hF⟩ := Zgs hF
        refine Yiald S hw zd_99 (by decide) hx3 b3_ dX11_isAsFound_28 ?_
        refine lv_bipush (v := i32 8) S.1 S.2.1 dX11_isAsFound_29 bp_8 ?_
        obtain ⟨g4_, hF⟩ := Zgs hF
        refine Yimul S dX11_isAsFound_31 ?_
        refine lv_aload_n S.1 S.2.1 dX11_isAsFound_32 rfl (lv_at hl 0 rfl) ?_
        refine gf_X11_105 S hw dX11_isAsFound_33 ?_
        refine lv_iload_n S.1 S.2.1 dX11_isAsFound_36 rfl (lv_at hl 3 rfl) ?_
        obtain ⟨b5_, hF⟩ := Zgs hF
        refine Yiald S hw zd_100 (by decide) hx3 b5_ dX11_isAsFound_37 ?_
        obtain ⟨g6_, hF⟩ := Zgs hF
        refine Yiadd S dX11_isAsFound_38 ?_
        refine lv_iconst (v := i32 2) S.1 S.2.1 dX11_isAsFound_39 ic_2 ?_
        obtain ⟨g7_, hF⟩ := Zgs hF
        refine Yiadd S dX11_isAsFound_40 ?_
        refine lv_bipush (v := i32 8) S.1 S.2.1 dX11_isAsFound_41 bp_8 ?_
        obtain ⟨g8_, hF⟩ := Zgs hF
        refine Yimul S dX11_isAsFound_43 ?_
        refine lv_aload_n S.1 S.2.1 dX11_isAsFound_44 rfl (lv_at hl 0 rfl) ?_
        refine gf_X11_19 S hw dX11_isAsFound_45 ?_
        refine lv_iload_n S.1 S.2.1 dX11_isAsFound_48 rfl (lv_at hl 3 rfl) ?_
        obtain ⟨b9_, hF⟩ := Zgs hF
        refine Yiald S hw zd_72 (by decide) hx3 b9_ dX11_isAsFound_49 ?_
        obtain ⟨g10_, hF⟩ := Zgs hF
        refine Yiadd S dX11_isAsFound_50 ?_
        refine lv_goto (tgt := 56) S.1 S.2.1 dX11_isAsFound_51 (by decide) ?_
        exact w_X11_isAsFound_b56 S hr hlk hR hdj hk9 _ _ _ _ _ _ _ _ hF hw hzz hx1 hx2 hx3 g10_ (lv_sub hl [0, 1, 2, 3] rfl)
set_option maxRecDepth 100000 in
set_option maxHeartbeats 4000000 in
theorem c_X11_isAsFound {l : Launch} {D : va_G} {cA : Nat → ClassId} {ad : Nat → Nat} (hdj : Zdj ad) {z z1 : ZI} {r : Int} (hzz : Zok z) (hF : F_X11_isAsFound z  = some (r, z1)) : YMi l D cA ad (0) yX11_isAsFound cX11_isAsFound 6 (some .boolean) [.ref (ad 68)] z r z1 :=
  Zmet hdj (by decide) rfl (Nat.le_of_ble_eq_true rfl) (lv := [(0, .ref (ad 68))]) rfl (fun p e s m args below meth c ls S hr hlk hw hl => by
    have hR : 0 ≤ (Zrm (0)).frames ∧ 60 * (0) ≤ (Zrm (0)).locals := ⟨Nat.le_refl _, Nat.le_refl _⟩
    unfold F_X11_isAsFound at hF
    revert hR
    generalize Zrm (0) = R
    intro hR
    refine lv_aload_n S.1 S.2.1 dX11_isAsFound_0 rfl (lv_at hl 0 rfl) ?_
    refine gg_X11_388 S hw dX11_isAsFound_1 ?_
    refine lv_istore_n (lv' := [(1, .int (i32 (z 68 53))), (0, .ref (ad 68))]) S.1 S.2.1 dX11_isAsFound_4 rfl hl (by decide) rfl (fun ls hl => ?_)
    refine lv_iconst (v := i32 0) S.1 S.2.1 dX11_isAsFound_5 ic_0 ?_
    refine lv_istore_n (lv' := [(2, .int (i32 (0))), (1, .int (i32 (z 68 53))), (0, .ref (ad 68))]) S.1 S.2.1 dX11_isAsFound_6 rfl hl (by decide) rfl (fun ls hl => ?_)
    refine lv_iconst (v := i32 0) S.1 S.2.1 dX11_isAsFound_7 ic_0 ?_
    refine lv_istore_n (lv' := [(3, .int (i32 (0))), (2, .int (i32 (0))), (1, .int (i32 (z 68 53))), (0, .ref (ad 68))]) S.1 S.2.1 dX11_isAsFound_8 rfl hl (by decide) rfl (fun ls hl => ?_)
    exact w_X11_isAsFound_L9 S hr hlk hR hdj Zfuel _ _ _ _ _ _ _ hF hw hzz (hzz.1 68 53 (by decide)) r_0 r_0 (lv_sub hl [3, 2, 1, 0] rfl))
set_option maxRecDepth 100000 in
set_option maxHeartbeats 4000000 in
theorem w_X11_isEmpty_L2 {RR : Int × ZI} (S : CallFix p m c cX11_isEmpty 3 s args Ztbl RX11) (hr : meth.sig.returnType = some .boolean) (hlk : meth.locks = false) (hR : 0 ≤ R.frames ∧ 60 * (0) ≤ R.locals) (hdj : Zdj ad) : ∀ (n : Nat) (z : ZI) (x1 : Int) (x2 : Int) (H : Heap) (locs : List Loc) (ls : Array Slot), X11_isEmpty_L2 n z x1 x2 = some RR → ZW D cA ad (ZA ad) (Zc z) s H locs → Zok z → InR x1 → InR x2 → lv_has ls 3 [(0, .ref (ad 68)), (1, .int (i32 (x1))), (2, .int (i32 (x2)))] → W p l e R s m args below meth c H locs 0 0 (MQ below (YQi D cA ad RR.1 RR.2) args s 0 0 (ZA ad)) (F0 m 2 ls []) := by
  intro n
  induction n with
  | zero => intro z x1 x2 H locs ls hF; exact nomatch hF
  | succ n hk2 =>
    intro z x1 x2 H locs ls hF hw hzz hx1 hx2 hl
    replace hF : X11_isEmpty_L2b (X11_isEmpty_L2 n) z x1 x2 = some RR := hF
    unfold X11_isEmpty_L2b at hF
    refine lv_iload_n S.1 S.2.1 dX11_isEmpty_2 rfl (lv_at hl 2 rfl) ?_
    refine lv_aload_n S.1 S.2.1 dX11_isEmpty_3 rfl (lv_at hl 0 rfl) ?_
    refine gg_X11_193 S hw dX11_isEmpty_4 ?_
    refine Yicmp_ge (tgt := 28) S hx2 (hzz.1 68 12 (by decide)) dX11_isEmpty_7 (by decide) (fun c1_ => ?_) (fun c1_ => ?_)
    · replace hF := ZtP c1_ hF
      refine lv_iconst (v := i32 1) S.1 S.2.1 dX11_isEmpty_28 ic_1 ?_
      exact Yiretz S hw hzz r_1 hr hlk (Or.inr rfl) hF dX11_isEmpty_29
    · replace hF := ZtN c1_ hF
      refine lv_aload_n S.1 S.2.1 dX11_isEmpty_10 rfl (lv_at hl 0 rfl) ?_
      refine gf_X11_19 S hw dX11_isEmpty_11 ?_
      refine lv_iload_n S.1 S.2.1 dX11_isEmpty_14 rfl (lv_at hl 2 rfl) ?_
      obtain ⟨b2_, hF⟩ := Zgs hF
      refine Yiald S hw zd_72 (by decide) hx2 b2_ dX11_isEmpty_15 ?_
      refine lv_iload_n S.1 S.2.1 dX11_isEmpty_16 rfl (lv_at hl 1 rfl) ?_
      refine Yicmp_ne (tgt := 22) S (hzz.1 _ _ (by decide)) hx1 dX11_isEmpty_17 (by decide) (fun c3_ => ?_) (fun c3_ => ?_)
      · replace hF := ZtN c3_ hF
        obtain ⟨g4_, hF⟩ := Zgs hF
        refine lv_iinc (v := i32 (x2 + 1)) (lv' := [(2, .int (i32 (x2 + 1))), (0, .ref (ad 68)), (1, .int (i32 (x1)))]) S.1 S.2.1 dX11_isEmpty_22 hl (k := 2) rfl Yiinc (by decide) rfl (fun ls hl => ?_)
        refine lv_goto (tgt := 2) S.1 S.2.1 dX11_isEmpty_25 (by decide) ?_
        exact hk2 _ _ _ _ _ _ hF hw hzz hx1 g4_ (lv_sub hl [1, 2, 0] rfl)
      · replace hF := ZtP c3_ hF
        refine lv_iconst (v := i32 0) S.1 S.2.1 dX11_isEmpty_20 ic_0 ?_
        exact Yiretz S hw hzz r_0 hr hlk (Or.inl rfl) hF dX11_isEmpty_21
set_option maxRecDepth 100000 in
set_option maxHeartbeats 4000000 in
theorem c_X11_isEmpty {l : Launch} {D : va_G} {cA : Nat → ClassId} {ad : Nat → Nat} (hdj : Zdj ad) {z z1 : ZI} {x1 : Int} {r : Int} (hzz : Zok z) (hx1 : InR x1) (hF : F_X11_isEmpty z x1 = some (r, z1)) : YMi l D cA ad (0) yX11_isEmpty cX11_isEmpty 3 (some .boolean) [.ref (ad 68), .int (i32 x1)] z r z1 :=
  Zmet hdj (by decide) rfl (Nat.le_of_ble_eq_true rfl) (lv := [(0, .ref (ad 68)), (1, .int (i32 (x1)))]) rfl (fun p e s m args below meth c ls S hr hlk hw hl => by
    have hR : 0 ≤ (Zrm (0)).frames ∧ 60 * (0) ≤ (Zrm (0)).locals := ⟨Nat.le_refl _, Nat.le_refl _⟩
    unfold F_X11_isEmpty at hF
    revert hR
    generalize Zrm (0) = R
    intro hR
    refine lv_iconst (v := i32 0) S.1 S.2.1 dX11_isEmpty_0 ic_0 ?_
    refine lv_istore_n (lv' := [(2, .int (i32 (0))), (0, .ref (ad 68)), (1, .int (i32 (x1)))]) S.1 S.2.1 dX11_isEmpty_1 rfl hl (by decide) rfl (fun ls hl => ?_)
    exact w_X11_isEmpty_L2 S hr hlk hR hdj Zfuel _ _ _ _ _ _ hF hw hzz hx1 r_0 (lv_sub hl [1, 2, 0] rfl))
set_option maxRecDepth 100000 in
set_option maxHeartbeats 4000000 in
theorem w_X11_findBest_b260 {RR : Unit × ZI} (S : CallFix p m c cX11_findBest 6 s args Ztbl RX11) (hr : meth.sig.returnType = none) (hlk : meth.locks = false) (hR : 4 ≤ R.frames ∧ 60 * (4) ≤ R.locals) (hdj : Zdj ad) {k68 : ZI → Int → Int → Option (Unit × ZI)} (hk68 : ∀ (z : ZI) (x1 : Int) (x2 : Int) (H : Heap) (locs : List Loc) (ls : Array Slot), k68 z x1 x2 = some RR → ZW D cA ad (ZA ad) (Zc z) s H locs → Zok z → InR x1 → InR x2 → lv_has ls 6 [(0, .ref (ad 68)), (1, .int (i32 (x1))), (2, .int (i32 (x2)))] → W p l e R s m args below meth c H locs 0 0 (MQ below (YQv D cA ad RR.2) args s 0 0 (ZA ad)) (F0 m 68 ls [])) : ∀ (z : ZI) (x1 : Int) (x2 : Int) (H : Heap) (locs : List Loc) (ls : Array Slot), X11_findBest_b260 k68 z x1 x2 = some RR → ZW D cA ad (ZA ad) (Zc z) s H locs → Zok z → InR x1 → InR x2 → lv_has ls 6 [(0, .ref (ad 68)), (1, .int (i32 (x1))), (2, .int (i32 (x2)))] → W p l e R s m args below meth c H locs 0 0 (MQ below (YQv D cA ad RR.2) args s 0 0 (ZA ad)) (F0 m 260 ls []) := by
  intro z x1 x2 H locs ls hF hw hzz hx1 hx2 hl
  unfold X11_findBest_b260 at hF
  obtain ⟨g1_, hF⟩ := Zgs hF
  refine lv_iinc (v := i32 (x2 + 1)) (lv' := [(2, .int (i32 (x2 + 1))), (0, .ref (ad 68)), (1, .int (i32 (x1)))]) S.1 S.2.1 dX11_findBest_260 hl (k := 2) rfl Yiinc (by decide) rfl (fun ls hl => ?_)
  refine lv_goto (tgt := 68) S.1 S.2.1 dX11_findBest_263 (by decide) ?_
  exact hk68 _ _ _ _ _ _ hF hw hzz hx1 g1_ (lv_sub hl [1, 2, 0] rfl)
set_option maxRecDepth 100000 in
set_option maxHeartbeats 4000000 in
theorem w_X11_findBest_L234 {RR : Unit × ZI} (S : CallFix p m c cX11_findBest 6 s args Ztbl RX11) (hr : meth.sig.returnType = none) (hlk : meth.locks = false) (hR : 4 ≤ R.frames ∧ 60 * (4) ≤ R.locals) (hdj : Zdj ad) {k68 : ZI → Int → Int → Option (Unit × ZI)} (hk68 : ∀ (z : ZI) (x1 : Int) (x2 : Int) (H : Heap) (locs : List Loc) (ls : Array Slot), k68 z x1 x2 = some RR → ZW D cA ad (ZA ad) (Zc z) s H locs → Zok z → InR x1 → InR x2 → lv_has ls 6 [(0, .ref (ad 68)), (1, .int (i32 (x1))), (2, .int (i32 (x2)))] → W p l e R s m args below meth c H locs 0 0 (MQ below (YQv D cA ad RR.2) args s 0 0 (ZA ad)) (F0 m 68 ls [])) : ∀ (n : Nat) (z : ZI) (x1 : Int) (x2 : Int) (x5 : Int) (H : Heap) (locs : List Loc) (ls : Array Slot), X11_findBest_L234 k68 n z x1 x2 x5 = some RR → ZW D cA ad (ZA ad) (Zc z) s H locs → Zok z → InR x1 → InR x2 → InR x5 → lv_has ls 6 [(0, .ref (ad 68)), (1, .int (i32 (x1))), (2, .int (i32 (x2))), (5, .int (i32 (x5)))] → W p l e R s m args below meth c H locs 0 0 (MQ below (YQv D cA ad RR.2) args s 0 0 (ZA ad)) (F0 m 234 ls []) := by
  intro n
  induction n with
  | zero => intro z x1 x2 x5 H locs ls hF; exact nomatch hF
  | succ n hk234 =>
    intro z x1 x2 x5 H locs ls hF hw hzz hx1 hx2 hx5 hl
    replace hF : X11_findBest_L234b k68 (X11_findBest_L234 k68 n) z x1 x2 x5 = some RR := hF
    unfold X11_findBest_L234b at hF
    refine lv_iload S.1 S.2.1 dX11_findBest_234 (lv_at hl 3 rfl) ?_
    refine lv_iconst (v := i32 4) S.1 S.2.1 dX11_findBest_236 ic_4 ?_
    refine Yicmp_ge (tgt := 260) S hx5 r_4 dX11_findBest_237 (by decide) (fun c1_ => ?_) (fun c1_ => ?_)
    · replace hF := ZtP c1_ hF
      exact w_X11_findBest_b260 S hr hlk hR hdj hk68 _ _ _ _ _ _ hF hw hzz hx1 hx2 (lv_sub hl [0, 1, 2] rfl)
    · replace hF := ZtN c1_ hF
      refine lv_aload_n S.1 S.2.1 dX11_findBest_240 rfl (lv_at hl 0 rfl) ?_
      refine gf_X11_117 S hw dX11_findBest_241 ?_
      refine lv_iload S.1 S.2.1 dX11_findBest_244 (lv_at hl 3 rfl) ?_
      refine lv_aload_n S.1 S.2.1 dX11_findBest_246 rfl (lv_at hl 0 rfl) ?_
      refine gf_X11_114 S hw dX11_findBest_247 ?_
      refine lv_iload S.1 S.2.1 dX11_findBest_250 (lv_at hl 3 rfl) ?_
      obtain ⟨b2_, hF⟩ := Zgs hF
      refine Yiald S hw zd_103 (by decide) hx5 b2_ dX11_findBest_252 ?_
      obtain ⟨b3_, hF⟩ := Zgs hF
      refine Yiast S hw hzz zd_104 (by decide) hx5 (hzz.1 _ _ (by decide)) b3_ dX11_findBest_253 (fun z4_ H locs ez hzz4_ hw => ?_)
      replace hF := Zle ez hF; clear ez
      obtain ⟨g5_, hF⟩ := Zgs hF
      refine lv_iinc (v := i32 (x5 + 1)) (lv' := [(5, .int (i32 (x5 + 1))), (0, .ref (ad 68)), (1, .int (i32 (x1))), (2, .int (i32 (x2)))]) S.1 S.2.1 dX11_findBest_254 hl (k := 3) rfl Yiinc (by decide) rfl (fun ls hl => ?_)
      refine lv_goto (tgt := 234) S.1 S.2.1 dX11_findBest_257 (by decide) ?_
      exact hk234 _ _ _ _ _ _ _ hF hw hzz4_ hx1 hx2 g5_ (lv_sub hl [1, 2, 3, 0] rfl)
set_option maxRecDepth 100000 in
set_option maxHeartbeats 4000000 in
theorem w_X11_findBest_b220 {RR : Unit × ZI} (S : CallFix p m c cX11_findBest 6 s args Ztbl RX11) (hr : meth.sig.returnType = none) (hlk : meth.locks = false) (hR : 4 ≤ R.frames ∧ 60 * (4) ≤ R.locals) (hdj : Zdj ad) {k68 : ZI → Int → Int → Option (Unit × ZI)} (hk68 : ∀ (z : ZI) (x1 : Int) (x2 : Int) (H : Heap) (locs : List Loc) (ls : Array Slot), k68 z x1 x2 = some RR → ZW D cA ad (ZA ad) (Zc z) s H locs → Zok z → InR x1 → InR x2 → lv_has ls 6 [(0, .ref (ad 68)), (1, .int (i32 (x1))), (2, .int (i32 (x2)))] → W p l e R s m args below meth c H locs 0 0 (MQ below (YQv D cA ad RR.2) args s 0 0 (ZA ad)) (F0 m 68 ls [])) : ∀ (z : ZI) (x1 : Int) (x2 : Int) (x3 : Int) (x4 : Int) (H : Heap) (locs : List Loc) (ls : Array Slot), X11_findBest_b220 k68 z x1 x2 x3 x4 = some RR → ZW D cA ad (ZA ad) (Zc z) s H locs → Zok z → InR x1 → InR x2 → InR x3 → InR x4 → lv_has ls 6 [(0, .ref (ad 68)), (1, .int (i32 (x1))), (2, .int (i32 (x2))), (3, .int (i32 (x3))), (4, .int (i32 (x4)))] → W p l e R s m args below meth c H locs 0 0 (MQ below (YQv D cA ad RR.2) args s 0 0 (ZA ad)) (F0 m 220 ls []) := by
  intro z x1 x2 x3 x4 H locs ls hF hw hzz hx1 hx2 hx3 hx4 hl
  unfold X11_findBest_b220 at hF
  refine lv_aload_n S.1 S.2.1 dX11_findBest_220 rfl (lv_at hl 0 rfl) ?_
  refine lv_iload_n S.1 S.2.1 dX11_findBest_221 rfl (lv_at hl 3 rfl) ?_
  refine pp_X11_395 S hw hzz hx3 dX11_findBest_222 (fun z1_ H locs ez hzz1_ hw => ?_)
  replace hF := Zle ez hF; clear ez
  refine lv_aload_n S.1 S.2.1 dX11_findBest_225 rfl (lv_at hl 0 rfl) ?_
  refine lv_iload S.1 S.2.1 dX11_findBest_226 (lv_at hl 4 rfl) ?_
  refine pp_X11_398 S hw hzz1_ hx4 dX11_findBest_228 (fun z2_ H locs ez hzz2_ hw => ?_)
  replace hF := Zle ez hF; clear ez
  refine lv_iconst (v := i32 0) S.1 S.2.1 dX11_findBest_231 ic_0 ?_
  refine lv_istore (lv' := [(5, .int (i32 (0))), (0, .ref (ad 68)), (1, .int (i32 (x1))), (2, .int (i32 (x2))), (3, .int (i32 (x3))), (4, .int (i32 (x4)))]) S.1 S.2.1 dX11_findBest_232 hl (by decide) rfl (fun ls hl => ?_)
  exact w_X11_findBest_L234 S hr hlk hR hdj hk68 Zfuel _ _ _ _ _ _ _ hF hw hzz2_ hx1 hx2 r_0 (lv_sub hl [1, 2, 3, 0] rfl)
set_option maxRecDepth 100000 in
set_option maxHeartbeats 4000000 in
theorem w_X11_findBest_b192 {RR : Unit × ZI} (S : CallFix p m c cX11_findBest 6 s args Ztbl RX11) (hr : meth.sig.returnType = none) (hlk : meth.locks = false) (hR : 4 ≤ R.frames ∧ 60 * (4) ≤ R.locals) (hdj : Zdj ad) {k68 : ZI → Int → Int → Option (Unit × ZI)} (hk68 : ∀ (z : ZI) (x1 : Int) (x2 : Int) (H : Heap) (locs : List Loc) (ls : Array Slot), k68 z x1 x2 = some RR → ZW D cA ad (ZA ad) (Zc z) s H locs → Zok z → InR x1 → InR x2 → lv_has ls 6 [(0, .ref (ad 68)), (1, .int (i32 (x1))), (2, .int (i32 (x2)))] → W p l e R s m args below meth c H locs 0 0 (MQ below (YQv D cA ad RR.2) args s 0 0 (ZA ad)) (F0 m 68 ls [])) : ∀ (z : ZI) (x1 : Int) (x2 : Int) (x3 : Int) (x4 : Int) (H : Heap) (locs : List Loc) (ls : Array Slot), X11_findBest_b192 k68 z x1 x2 x3 x4 = some RR → ZW D cA ad (ZA ad) (Zc z) s H locs → Zok z → InR x1 → InR x2 → InR x3 → InR x4 → lv_has ls 6 [(0, .ref (ad 68)), (1, .int (i32 (x1))), (2, .int (i32 (x2))), (3, .int (i32 (x3))), (4, .int (i32 (x4)))] → W p l e R s m args below meth c H locs 0 0 (MQ below (YQv D cA ad RR.2) args s 0 0 (ZA ad)) (F0 m 192 ls []) := by
  intro z x1 x2 x3 x4 H locs ls hF hw hzz hx1 hx2 hx3 hx4 hl
  unfold X11_findBest_b192 at hF
  refine lv_iload_n S.1 S.2.1 dX11_findBest_192 rfl (lv_at hl 3 rfl) ?_
  refine lv_aload_n S.1 S.2.1 dX11_findBest_193 rfl (lv_at hl 0 rfl) ?_
  refine gg_X11_395 S hw dX11_findBest_194 ?_
  refine Yicmp_gt (tgt := 260) S hx3 (hzz.1 68 48 (by decide)) dX11_findBest_197 (by decide) (fun c1_ => ?_) (fun c1_ => ?_)
  · replace hF := ZtP c1_ hF
    exact w_X11_findBest_b260 S hr hlk hR hdj hk68 _ _ _ _ _ _ hF hw hzz hx1 hx2 (lv_sub hl [0, 1, 2] rfl)
  · replace hF := ZtN c1_ hF
    refine lv_iload_n S.1 S.2.1 dX11_findBest_200 rfl (lv_at hl 3 rfl) ?_
    refine lv_aload_n S.1 S.2.1 dX11_findBest_201 rfl (lv_at hl 0 rfl) ?_
    refine gg_X11_395 S hw dX11_findBest_202 ?_
    refine Yicmp_ne (tgt := 220) S hx3 (hzz.1 68 48 (by decide)) dX11_findBest_205 (by decide) (fun c2_ => ?_) (fun c2_ => ?_)
    · replace hF := ZtN c2_ hF
      exact w_X11_findBest_b220 S hr hlk hR hdj hk68 _ _ _ _ _ _ _ _ hF hw hzz hx1 hx2 hx3 hx4 (lv_sub hl [0, 1, 2, 3, 4] rfl)
    · replace hF := ZtP c2_ hF
      refine lv_iload S.1 S.2.1 dX11_findBest_208 (lv_at hl 4 rfl) ?_
      refine lv_aload_n S.1 S.2.1 dX11_findBest_210 rfl (lv_at hl 0 rfl) ?_
      refine gg_X11_398 S hw dX11_findBest_211 ?_
      refine Yicmp_lt (tgt := 220) S hx4 (hzz.1 68 49 (by decide)) dX11_findBest_214 (by decide) (fun c3_ => ?_) (fun c3_ => ?_)
      · replace hF := ZtP c3_ hF
        exact w_X11_findBest_b220 S hr hlk hR hdj hk68 _ _ _ _ _ _ _ _ hF hw hzz hx1 hx2 hx3 hx4 (lv_sub hl [0, 1, 2, 3, 4] rfl)
      · replace hF := ZtN c3_ hF
        refine lv_goto (tgt := 260) S.1 S.2.1 dX11_findBest_217 (by decide) ?_
        exact w_X11_findBest_b260 S hr hlk hR hdj hk68 _ _ _ _ _ _ hF hw hzz hx1 hx2 (lv_sub hl [0, 1, 2] rfl)
set_option maxRecDepth 100000 in
set_option maxHeartbeats 4000000 in
theorem w_X11_findBest_b183 {RR : Unit × ZI} (S : CallFix p m c cX11_findBest 6 s args Ztbl RX11) (hr : meth.sig.returnType = none) (hlk : meth.locks = false) (hR : 4 ≤ R.frames ∧ 60 * (4) ≤ R.locals) (hdj : Zdj ad) {k68 : ZI → Int → Int → Option (Unit × ZI)} (hk68 : ∀ (z : ZI) (x1 : Int) (x2 : Int) (H : Heap) (locs : List Loc) (ls : Array Slot), k68 z x1 x2 = some RR → ZW D cA ad (ZA ad) (Zc z) s H locs → Zok z → InR x1 → InR x2 → lv_has ls 6 [(0, .ref (ad 68)), (1, .int (i32 (x1))), (2, .int (i32 (x2)))] → W p l e R s m args below meth c H locs 0 0 (MQ below (YQv D cA ad RR.2) args s 0 0 (ZA ad)) (F0 m 68 ls [])) {k133 : ZI → Int → Int → Int → Int → Int → Option (Unit × ZI)} (hk133 : ∀ (z : ZI) (x1 : Int) (x2 : Int) (x3 : Int) (x4 : Int) (x5 : Int) (H : Heap) (locs : List Loc) (ls : Array Slot), k133 z x1 x2 x3 x4 x5 = some RR → ZW D cA ad (ZA ad) (Zc z) s H locs → Zok z → InR x1 → InR x2 → InR x3 → InR x4 → InR x5 → lv_has ls 6 [(0, .ref (ad 68)), (1, .int (i32 (x1))), (2, .int (i32 (x2))), (3, .int (i32 (x3))), (4, .int (i32 (x4))), (5, .int (i32 (x5)))] → W p l e R s m args below meth c H locs 0 0 (MQ below (YQv D cA ad RR.2) args s 0 0 (ZA ad)) (F0 m 133 ls [])) : ∀ (z : ZI) (x1 : Int) (x2 : Int) (x3 : Int) (x5 : Int) (y0 : Int) (y1 : Int) (H : Heap) (locs : List Loc) (ls : Array Slot), X11_findBest_b183 k68 k133 z x1 x2 x3 x5 y0 y1 = some RR → ZW D cA ad (ZA ad) (Zc z) s H locs → Zok z → InR x1 → InR x2 → InR x3 → InR x5 → InR y0 → InR y1 → lv_has ls 6 [(0, .ref (ad 68)), (1, .int (i32 (x1))), (2, .int (i32 (x2))), (3, .int (i32 (x3))), (5, .int (i32 (x5)))] → W p l e R s m args below meth c H locs 0 0 (MQ below (YQv D cA ad RR.2) args s 0 0 (ZA ad)) (F0 m 183 ls [.int (i32 (y1)), .int (i32 (y0))]) := by
  intro z x1 x2 x3 x5 y0 y1 H locs ls hF hw hzz hx1 hx2 hx3 hx5 hy0 hy1 hl
  unfold X11_findBest_b183 at hF
  obtain ⟨g1_, hF⟩ := Zgs hF
  refine Yiadd S dX11_findBest_183 ?_
  refine lv_istore (lv' := [(4, .int (i32 (y0 + y1))), (0, .ref (ad 68)), (1, .int (i32 (x1))), (2, .int (i32 (x2))), (3, .int (i32 (x3))), (5, .int (i32 (x5)))]) S.1 S.2.1 dX11_findBest_184 hl (by decide) rfl (fun ls hl => ?_)
  obtain ⟨g2_, hF⟩ := Zgs hF
  refine lv_iinc (v := i32 (x5 + 1)) (lv' := [(5, .int (i32 (x5 + 1))), (4, .int (i32 (y0 + y1))), (0, .ref (ad 68)), (1, .int (i32 (x1))), (2, .int (i32 (x2))), (3, .int (i32 (x3)))]) S.1 S.2.1 dX11_findBest_186 hl (k := 5) rfl Yiinc (by decide) rfl (fun ls hl => ?_)
  refine lv_goto (tgt := 133) S.1 S.2.1 dX11_findBest_189 (by decide) ?_
  exact hk133 _ _ _ _ _ _ _ _ _ hF hw hzz hx1 hx2 hx3 g1_ g2_ (lv_sub hl [2, 3, 4, 5, 1, 0] rfl)
set_option maxRecDepth 100000 in
set_option maxHeartbeats 4000000 in
theorem w_X11_findBest_b158 {RR : Unit × ZI} (S : CallFix p m c cX11_findBest 6 s args Ztbl RX11) (hr : meth.sig.returnType = none) (hlk : meth.locks = false) (hR : 4 ≤ R.frames ∧ 60 * (4) ≤ R.locals) (hdj : Zdj ad) {k68 : ZI → Int → Int → Option (Unit × ZI)} (hk68 : ∀ (z : ZI) (x1 : Int) (x2 : Int) (H : Heap) (locs : List Loc) (ls : Array Slot), k68 z x1 x2 = some RR → ZW D cA ad (ZA ad) (Zc z) s H locs → Zok z → InR x1 → InR x2 → lv_has ls 6 [(0, .ref (ad 68)), (1, .int (i32 (x1))), (2, .int (i32 (x2)))] → W p l e R s m args below meth c H locs 0 0 (MQ below (YQv D cA ad RR.2) args s 0 0 (ZA ad)) (F0 m 68 ls [])) {k133 : ZI → Int → Int → Int → Int → Int → Option (Unit × ZI)} (hk133 : ∀ (z : ZI) (x1 : Int) (x2 : Int) (x3 : Int) (x4 : Int) (x5 : Int) (H : Heap) (locs : List Loc) (ls : Array Slot), k133 z x1 x2 x3 x4 x5 = some RR → ZW D cA ad (ZA ad) (Zc z) s H locs → Zok z → InR x1 → InR x2 → InR x3 → InR x4 → InR x5 → lv_has ls 6 [(0, .ref (ad 68)), (1, .int (i32 (x1))), (2, .int (i32 (x2))), (3, .int (i32 (x3))), (4, .int (i32 (x4))), (5, .int (i32 (x5)))] → W p l e R s m args below meth c H locs 0 0 (MQ below (YQv D cA ad RR.2) args s 0 0 (ZA ad)) (F0 m 133 ls [])) : ∀ (z : ZI) (x1 : Int) (x2 : Int) (x4 : Int) (x5 : Int) (y0 : Int) (y1 : Int) (H : Heap) (locs : List Loc) (ls : Array Slot), X11_findBest_b158 k68 k133 z x1 x2 x4 x5 y0 y1 = some RR → ZW D cA ad (ZA ad) (Zc z) s H locs → Zok z → InR x1 → InR x2 → InR x4 → InR x5 → InR y0 → InR y1 → lv_has ls 6 [(0, .ref (ad 68)), (1, .int (i32 (x1))), (2, .int (i32 (x2))), (4, .int (i32 (x4))), (5, .int (i32 (x5)))] → W p l e R s m args below meth c H locs 0 0 (MQ below (YQv D cA ad RR.2) args s 0 0 (ZA ad)) (F0 m 158 ls [.int (i32 (y1)), .int (i32 (y0))]) := by
  intro z x1 x2 x4 x5 y0 y1 H locs ls hF hw hzz hx1 hx2 hx4 hx5 hy0 hy1 hl
  unfold X11_findBest_b158 at hF
  obtain ⟨g1_, hF⟩ := Zgs hF
  refine Yiadd S dX11_findBest_158 ?_
  refine lv_istore_n (lv' := [(3, .int (i32 (y0 + y1))), (0, .ref (ad 68)), (1, .int (i32 (x1))), (2, .int (i32 (x2))), (4, .int (i32 (x4))), (5, .int (i32 (x5)))]) S.1 S.2.1 dX11_findBest_159 rfl hl (by decide) rfl (fun ls hl => ?_)
  refine lv_iload S.1 S.2.1 dX11_findBest_160 (lv_at hl 4 rfl) ?_
  refine lv_aload_n S.1 S.2.1 dX11_findBest_162 rfl (lv_at hl 1 rfl) ?_
  refine gf_X11_111 S hw dX11_findBest_163 ?_
  refine lv_iload S.1 S.2.1 dX11_findBest_166 (lv_at hl 5 rfl) ?_
  obtain ⟨b2_, hF⟩ := Zgs hF
  refine Yiald S hw zd_102 (by decide) hx5 b2_ dX11_findBest_168 ?_
  refine Yif_ge (tgt := 176) S (hzz.1 _ _ (by decide)) dX11_findBest_169 (by decide) (fun c3_ => ?_) (fun c3_ => ?_)
  · replace hF := ZtP c3_ hF
    refine lv_aload_n S.1 S.2.1 dX11_findBest_176 rfl (lv_at hl 1 rfl) ?_
    refine gf_X11_111 S hw dX11_findBest_177 ?_
    refine lv_iload S.1 S.2.1 dX11_findBest_180 (lv_at hl 5 rfl) ?_
    obtain ⟨b4_, hF⟩ := Zgs hF
    refine Yiald S hw zd_102 (by decide) hx5 b4_ dX11_findBest_182 ?_
    exact w_X11_findBest_b183 S hr hlk hR hdj hk68 hk133 _ _ _ _ _ _ _ _ _ _ hF hw hzz hx1 hx2 g1_ hx5 hx4 (hzz.1 _ _ (by decide)) (lv_sub hl [1, 2, 3, 0, 5] rfl)
  · replace hF := ZtN c3_ hF
    refine lv_iconst (v := i32 0) S.1 S.2.1 dX11_findBest_172 ic_0 ?_
    refine lv_goto (tgt := 183) S.1 S.2.1 dX11_findBest_173 (by decide) ?_
    exact w_X11_findBest_b183 S hr hlk hR hdj hk68 hk133 _ _ _ _ _ _ _ _ _ _ hF hw hzz hx1 hx2 g1_ hx5 hx4 r_0 (lv_sub hl [1, 2, 3, 0, 5] rfl)
set_option maxRecDepth 100000 in
set_option maxHeartbeats 4000000 in
theorem w_X11_findBest_L133 {RR : Unit × ZI} (S : CallFix p m c cX11_findBest 6 s args Ztbl RX11) (hr : meth.sig.returnType = none) (hlk : meth.locks = false) (hR : 4 ≤ R.frames ∧ 60 * (4) ≤ R.locals) (hdj : Zdj ad) {k68 : ZI → Int → Int → Option (Unit × ZI)} (hk68 : ∀ (z : ZI) (x1 : Int) (x2 : Int) (H : Heap) (locs : List Loc) (ls : Array Slot), k68 z x1 x2 = some RR → ZW D cA ad (ZA ad) (Zc z) s H locs → Zok z → InR x1 → InR x2 → lv_has ls 6 [(0, .ref (ad 68)), (1, .int (i32 (x1))), (2, .int (i32 (x2)))] → W p l e R s m args below meth c H locs 0 0 (MQ below (YQv D cA ad RR.2) args s 0 0 (ZA ad)) (F0 m 68 ls [])) : ∀ (n : Nat) (z : ZI) (x1 : Int) (x2 : Int) (x3 : Int) (x4 : Int) (x5 : Int) (H : Heap) (locs : List Loc) (ls : Array Slot), X11_findBest_L133 k68 n z x1 x2 x3 x4 x5 = some RR → ZW D cA ad (ZA ad) (Zc z) s H locs → Zok z → InR x1 → InR x2 → InR x3 → InR x4 → InR x5 → lv_has ls 6 [(0, .ref (ad 68)), (1, .int (i32 (x1))), (2, .int (i32 (x2))), (3, .int (i32 (x3))), (4, .int (i32 (x4))), (5, .int (i32 (x5)))] → W p l e R s m args below meth c H locs 0 0 (MQ below (YQv D cA ad RR.2) args s 0 0 (ZA ad)) (F0 m 133 ls []) := by
  intro n
  induction n with
  | zero => intro z x1 x2 x3 x4 x5 H locs ls hF; exact nomatch hF
  | succ n hk133 =>
    intro z x1 x2 x3 x4 x5 H locs ls hF hw hzz hx1 hx2 hx3 hx4 hx5 hl
    replace hF : X11_findBest_L133b k68 (X11_findBest_L133 k68 n) z x1 x2 x3 x4 x5 = some RR := hF
    unfold X11_findBest_L133b at hF
    refine lv_iload S.1 S.2.1 dX11_findBest_133 (lv_at hl 5 rfl) ?_
    refine lv_aload_n S.1 S.2.1 dX11_findBest_135 rfl (lv_at hl 0 rfl) ?_
    refine gg_X11_193 S hw dX11_findBest_136 ?_
    refine Yicmp_ge (tgt := 192) S hx5 (hzz.1 68 12 (by decide)) dX11_findBest_139 (by decide) (fun c1_ => ?_) (fun c1_ => ?_)
    · replace hF := ZtP c1_ hF
      exact w_X11_findBest_b192 S hr hlk hR hdj hk68 _ _ _ _ _ _ _ _ hF hw hzz hx1 hx2 hx3 hx4 (lv_sub hl [0, 1, 2, 3, 4] rfl)
    · replace hF := ZtN c1_ hF
      refine lv_iload_n S.1 S.2.1 dX11_findBest_142 rfl (lv_at hl 3 rfl) ?_
      refine lv_aload_n S.1 S.2.1 dX11_findBest_143 rfl (lv_at hl 0 rfl) ?_
      refine gf_X11_111 S hw dX11_findBest_144 ?_
      refine lv_iload S.1 S.2.1 dX11_findBest_147 (lv_at hl 5 rfl) ?_
      obtain ⟨b2_, hF⟩ := Zgs hF
      refine Yiald S hw zd_102 (by decide) hx5 b2_ dX11_findBest_149 ?_
      refine Yif_ge (tgt := 157) S (hzz.1 _ _ (by decide)) dX11_findBest_150 (by decide) (fun c3_ => ?_) (fun c3_ => ?_)
      · replace hF := ZtP c3_ hF
        refine lv_iconst (v := i32 0) S.1 S.2.1 dX11_findBest_157 ic_0 ?_
        exact w_X11_findBest_b158 S hr hlk hR hdj hk68 hk133 _ _ _ _ _ _ _ _ _ _ hF hw hzz hx1 hx2 hx4 hx5 hx3 r_0 (lv_sub hl [0, 1, 2, 4, 5] rfl)
      · replace hF := ZtN c3_ hF
        refine lv_iconst (v := i32 1) S.1 S.2.1 dX11_findBest_153 ic_1 ?_
        refine lv_goto (tgt := 158) S.1 S.2.1 dX11_findBest_154 (by decide) ?_
        exact w_X11_findBest_b158 S hr hlk hR hdj hk68 hk133 _ _ _ _ _ _ _ _ _ _ hF hw hzz hx1 hx2 hx4 hx5 hx3 r_1 (lv_sub hl [0, 1, 2, 4, 5] rfl)
set_option maxRecDepth 100000 in
set_option maxHeartbeats 4000000 in
theorem w_X11_findBest_b117 {RR : Unit × ZI} (S : CallFix p m c cX11_findBest 6 s args Ztbl RX11) (hr : meth.sig.returnType = none) (hlk : meth.locks = false) (hR : 4 ≤ R.frames ∧ 60 * (4) ≤ R.locals) (hdj : Zdj ad) {k68 : ZI → Int → Int → Option (Unit × ZI)} (hk68 : ∀ (z : ZI) (x1 : Int) (x2 : Int) (H : Heap) (locs : List Loc) (ls : Array Slot), k68 z x1 x2 = some RR → ZW D cA ad (ZA ad) (Zc z) s H locs → Zok z → InR x1 → InR x2 → lv_has ls 6 [(0, .ref (ad 68)), (1, .int (i32 (x1))), (2, .int (i32 (x2)))] → W p l e R s m args below meth c H locs 0 0 (MQ below (YQv D cA ad RR.2) args s 0 0 (ZA ad)) (F0 m 68 ls [])) : ∀ (z : ZI) (x1 : Int) (x2 : Int) (H : Heap) (locs : List Loc) (ls : Array Slot), X11_findBest_b117 k68 z x1 x2 = some RR → ZW D cA ad (ZA ad) (Zc z) s H locs → Zok z → InR x1 → InR x2 → lv_has ls 6 [(0, .ref (ad 68)), (1, .int (i32 (x1))), (2, .int (i32 (x2)))] → W p l e R s m args below meth c H locs 0 0 (MQ below (YQv D cA ad RR.2) args s 0 0 (ZA ad)) (F0 m 117 ls []) := by
  intro z x1 x2 H locs ls hF hw hzz hx1 hx2 hl
  unfold X11_findBest_b117 at hF
  refine lv_aload_n S.1 S.2.1 dX11_findBest_117 rfl (lv_at hl 0 rfl) ?_
  refine lv_aload_n S.1 S.2.1 dX11_findBest_118 rfl (lv_at hl 0 rfl) ?_
  refine gf_X11_114 S hw dX11_findBest_119 ?_
  obtain ⟨r3_, z1_, h2_, hF⟩ := Ybs hF
  refine YcallVv (rest := []) S hw (c_X11_draws hdj zd_103 (by decide) (by decide) hzz  h2_) my_X11_draws mi_X11_draws ml_X11_384 zd_68 zc_X11 rfl (Zrr hR (by decide)) ⟨Nat.zero_le _, Nat.zero_le _⟩ hl.1 rfl rfl (Nat.le_of_ble_eq_true rfl) dX11_findBest_122 (fun hzz1_ H locs hw => ?_)
  refine lv_iconst (v := i32 0) S.1 S.2.1 dX11_findBest_125 ic_0 ?_
  refine lv_istore_n (lv' := [(3, .int (i32 (0))), (0, .ref (ad 68)), (1, .int (i32 (x1))), (2, .int (i32 (x2)))]) S.1 S.2.1 dX11_findBest_126 rfl hl (by decide) rfl (fun ls hl => ?_)
  refine lv_iconst (v := i32 0) S.1 S.2.1 dX11_findBest_127 ic_0 ?_
  refine lv_istore (lv' := [(4, .int (i32 (0))), (3, .int (i32 (0))), (0, .ref (ad 68)), (1, .int (i32 (x1))), (2, .int (i32 (x2)))]) S.1 S.2.1 dX11_findBest_128 hl (by decide) rfl (fun ls hl => ?_)
  refine lv_iconst (v := i32 0) S.1 S.2.1 dX11_findBest_130 ic_0 ?_
  refine lv_istore (lv' := [(5, .int (i32 (0))), (4, .int (i32 (0))), (3, .int (i32 (0))), (0, .ref (ad 68)), (1, .int (i32 (x1))), (2, .int (i32 (x2)))]) S.1 S.2.1 dX11_findBest_131 hl (by decide) rfl (fun ls hl => ?_)
  exact w_X11_findBest_L133 S hr hlk hR hdj hk68 Zfuel _ _ _ _ _ _ _ _ _ hF hw hzz1_ hx1 hx2 r_0 r_0 r_0 (lv_sub hl [3, 4, 5, 2, 1, 0] rfl)
set_option maxRecDepth 100000 in
set_option maxHeartbeats 4000000 in
theorem w_X11_findBest_L86 {RR : Unit × ZI} (S : CallFix p m c cX11_findBest 6 s args Ztbl RX11) (hr : meth.sig.returnType = none) (hlk : meth.locks = false) (hR : 4 ≤ R.frames ∧ 60 * (4) ≤ R.locals) (hdj : Zdj ad) {k68 : ZI → Int → Int → Option (Unit × ZI)} (hk68 : ∀ (z : ZI) (x1 : Int) (x2 : Int) (H : Heap) (locs : List Loc) (ls : Array Slot), k68 z x1 x2 = some RR → ZW D cA ad (ZA ad) (Zc z) s H locs → Zok z → InR x1 → InR x2 → lv_has ls 6 [(0, .ref (ad 68)), (1, .int (i32 (x1))), (2, .int (i32 (x2)))] → W p l e R s m args below meth c H locs 0 0 (MQ below (YQv D cA ad RR.2) args s 0 0 (ZA ad)) (F0 m 68 ls [])) : ∀ (n : Nat) (z : ZI) (x1 : Int) (x2 : Int) (x3 : Int) (H : Heap) (locs : List Loc) (ls : Array Slot), X11_findBest_L86 k68 n z x1 x2 x3 = some RR → ZW D cA ad (ZA ad) (Zc z) s H locs → Zok z → InR x1 → InR x2 → InR x3 → lv_has ls 6 [(0, .ref (ad 68)), (1, .int (i32 (x1))), (2, .int (i32 (x2))), (3, .int (i32 (x3)))] → W p l e R s m args below meth c H locs 0 0 (MQ below (YQv D cA ad RR.2) args s 0 0 (ZA ad)) (F0 m 86 ls []) := by
  intro n
  induction n with
  | zero => intro z x1 x2 x3 H locs ls hF; exact nomatch hF
  | succ n hk86 =>
    intro z x1 x2 x3 H locs ls hF hw hzz hx1 hx2 hx3 hl
    replace hF : X11_findBest_L86b k68 (X11_findBest_L86 k68 n) z x1 x2 x3 = some RR := hF
    unfold X11_findBest_L86b at hF
    refine lv_iload_n S.1 S.2.1 dX11_findBest_86 rfl (lv_at hl 3 rfl) ?_
    refine lv_iconst (v := i32 4) S.1 S.2.1 dX11_findBest_87 ic_4 ?_
    refine Yicmp_ge (tgt := 117) S hx3 r_4 dX11_findBest_88 (by decide) (fun c1_ => ?_) (fun c1_ => ?_)
    · replace hF := ZtP c1_ hF
      exact w_X11_findBest_b117 S hr hlk hR hdj hk68 _ _ _ _ _ _ hF hw hzz hx1 hx2 (lv_sub hl [0, 1, 2] rfl)
    · replace hF := ZtN c1_ hF
      refine lv_aload_n S.1 S.2.1 dX11_findBest_91 rfl (lv_at hl 0 rfl) ?_
      refine gf_X11_114 S hw dX11_findBest_92 ?_
      refine lv_iload_n S.1 S.2.1 dX11_findBest_95 rfl (lv_at hl 3 rfl) ?_
      refine lv_bipush (v := i32 6) S.1 S.2.1 dX11_findBest_96 bp_6 ?_
      refine lv_iload_n S.1 S.2.1 dX11_findBest_98 rfl (lv_at hl 2 rfl) ?_
      refine lv_bipush (v := i32 9) S.1 S.2.1 dX11_findBest_99 bp_9 ?_
      refine lv_iconst (v := i32 3) S.1 S.2.1 dX11_findBest_101 ic_3 ?_
      refine lv_iload_n S.1 S.2.1 dX11_findBest_102 rfl (lv_at hl 3 rfl) ?_
      obtain ⟨g2_, hF⟩ := Zgs hF
      refine Yimul S dX11_findBest_103 ?_
      obtain ⟨g3_, hF⟩ := Zgs hF
      refine Yisub S dX11_findBest_104 ?_
      refine Yishr S dX11_findBest_105 ?_
      refine lv_bipush (v := i32 7) S.1 S.2.1 dX11_findBest_106 bp_7 ?_
      refine Yiand S dX11_findBest_108 ?_
      obtain ⟨g4_, hF⟩ := Zgs hF
      refine Yiadd S dX11_findBest_109 ?_
      obtain ⟨b5_, hF⟩ := Zgs hF
      refine Yiast S hw hzz zd_103 (by decide) hx3 g4_ b5_ dX11_findBest_110 (fun z6_ H locs ez hzz6_ hw => ?_)
      replace hF := Zle ez hF; clear ez
      obtain ⟨g7_, hF⟩ := Zgs hF
      refine lv_iinc (v := i32 (x3 + 1)) (lv' := [(3, .int (i32 (x3 + 1))), (0, .ref (ad 68)), (1, .int (i32 (x1))), (2, .int (i32 (x2)))]) S.1 S.2.1 dX11_findBest_111 hl (k := 3) rfl Yiinc (by decide) rfl (fun ls hl => ?_)
      refine lv_goto (tgt := 86) S.1 S.2.1 dX11_findBest_114 (by decide) ?_
      exact hk86 _ _ _ _ _ _ _ hF hw hzz6_ hx1 hx2 g7_ (lv_sub hl [1, 2, 3, 0] rfl)
set_option maxRecDepth 100000 in
set_option maxHeartbeats 4000000 in
theorem w_X11_findBest_L68 {RR : Unit × ZI} (S : CallFix p m c cX11_findBest 6 s args Ztbl RX11) (hr : meth.sig.returnType = none) (hlk : meth.locks = false) (hR : 4 ≤ R.frames ∧ 60 * (4) ≤ R.locals) (hdj : Zdj ad) : ∀ (n : Nat) (z : ZI) (x1 : Int) (x2 : Int) (H : Heap) (locs : List Loc) (ls : Array Slot), X11_findBest_L68 n z x1 x2 = some RR → ZW D cA ad (ZA ad) (Zc z) s H locs → Zok z → InR x1 → InR x2 → lv_has ls 6 [(0, .ref (ad 68)), (1, .int (i32 (x1))), (2, .int (i32 (x2)))] → W p l e R s m args below meth c H locs 0 0 (MQ below (YQv D cA ad RR.2) args s 0 0 (ZA ad)) (F0 m 68 ls []) := by
  intro n
  induction n with
  | zero => intro z x1 x2 H locs ls hF; exact nomatch hF
  | succ n hk68 =>
    intro z x1 x2 H locs ls hF hw hzz hx1 hx2 hl
    replace hF : X11_findBest_L68b (X11_findBest_L68 n) z x1 x2 = some RR := hF
    unfold X11_findBest_L68b at hF
    refine lv_iload_n S.1 S.2.1 dX11_findBest_68 rfl (lv_at hl 2 rfl) ?_
    refine lv_sipush (v := i32 4096) S.1 S.2.1 dX11_findBest_69 sp_4096 ?_
    refine Yicmp_ge (tgt := 266) S hx2 r_4096 dX11_findBest_72 (by decide) (fun c1_ => ?_) (fun c1_ => ?_)
    · replace hF := ZtP c1_ hF
      exact Yvret S hw hzz hr hlk hF dX11_findBest_266
    · replace hF := ZtN c1_ hF
      refine lv_iload_n S.1 S.2.1 dX11_findBest_75 rfl (lv_at hl 2 rfl) ?_
      refine lv_iload_n S.1 S.2.1 dX11_findBest_76 rfl (lv_at hl 1 rfl) ?_
      refine Yiand S dX11_findBest_77 ?_
      refine Yif_eq (tgt := 84) S (InR_of _) dX11_findBest_78 (by decide) (fun c2_ => ?_) (fun c2_ => ?_)
      · replace hF := ZtP c2_ hF
        refine lv_iconst (v := i32 0) S.1 S.2.1 dX11_findBest_84 ic_0 ?_
        refine lv_istore_n (lv' := [(3, .int (i32 (0))), (0, .ref (ad 68)), (1, .int (i32 (x1))), (2, .int (i32 (x2)))]) S.1 S.2.1 dX11_findBest_85 rfl hl (by decide) rfl (fun ls hl => ?_)
        exact w_X11_findBest_L86 S hr hlk hR hdj hk68 Zfuel _ _ _ _ _ _ _ hF hw hzz hx1 hx2 r_0 (lv_sub hl [1, 2, 3, 0] rfl)
      · replace hF := ZtN c2_ hF
        refine lv_goto (tgt := 260) S.1 S.2.1 dX11_findBest_81 (by decide) ?_
        exact w_X11_findBest_b260 S hr hlk hR hdj hk68 _ _ _ _ _ _ hF hw hzz hx1 hx2 (lv_sub hl [0, 1, 2] rfl)
set_option maxRecDepth 100000 in
set_option maxHeartbeats 4000000 in
theorem w_X11_findBest_b66 {RR : Unit × ZI} (S : CallFix p m c cX11_findBest 6 s args Ztbl RX11) (hr : meth.sig.returnType = none) (hlk : meth.locks = false) (hR : 4 ≤ R.frames ∧ 60 * (4) ≤ R.locals) (hdj : Zdj ad) : ∀ (z : ZI) (x1 : Int) (H : Heap) (locs : List Loc) (ls : Array Slot), X11_findBest_b66 z x1 = some RR → ZW D cA ad (ZA ad) (Zc z) s H locs → Zok z → InR x1 → lv_has ls 6 [(0, .ref (ad 68)), (1, .int (i32 (x1)))] → W p l e R s m args below meth c H locs 0 0 (MQ below (YQv D cA ad RR.2) args s 0 0 (ZA ad)) (F0 m 66 ls []) := by
  intro z x1 H locs ls hF hw hzz hx1 hl
  unfold X11_findBest_b66 at hF
  refine lv_iconst (v := i32 0) S.1 S.2.1 dX11_findBest_66 ic_0 ?_
  refine lv_istore_n (lv' := [(2, .int (i32 (0))), (0, .ref (ad 68)), (1, .int (i32 (x1)))]) S.1 S.2.1 dX11_findBest_67 rfl hl (by decide) rfl (fun ls hl => ?_)
  exact w_X11_findBest_L68 S hr hlk hR hdj Zfuel _ _ _ _ _ _ hF hw hzz hx1 r_0 (lv_sub hl [1, 2, 0] rfl)
set_option maxRecDepth 100000 in
set_option maxHeartbeats 4000000 in
theorem w_X11_findBest_b58 {RR : Unit × ZI} (S : CallFix p m c cX11_findBest 6 s args Ztbl RX11) (hr : meth.sig.returnType = none) (hlk : meth.locks = false) (hR : 4 ≤ R.frames ∧ 60 * (4) ≤ R.locals) (hdj : Zdj ad) {k31 : ZI → Int → Int → Option (Unit × ZI)} (hk31 : ∀ (z : ZI) (x1 : Int) (x2 : Int) (H : Heap) (locs : List Loc) (ls : Array Slot), k31 z x1 x2 = some RR → ZW D cA ad (ZA ad) (Zc z) s H locs → Zok z → InR x1 → InR x2 → lv_has ls 6 [(0, .ref (ad 68)), (1, .int (i32 (x1))), (2, .int (i32 (x2)))] → W p l e R s m args below meth c H locs 0 0 (MQ below (YQv D cA ad RR.2) args s 0 0 (ZA ad)) (F0 m 31 ls [])) : ∀ (z : ZI) (x2 : Int) (y0 : Int) (y1 : Int) (H : Heap) (locs : List Loc) (ls : Array Slot), X11_findBest_b58 k31 z x2 y0 y1 = some RR → ZW D cA ad (ZA ad) (Zc z) s H locs → Zok z → InR x2 → InR y0 → InR y1 → lv_has ls 6 [(0, .ref (ad 68)), (2, .int (i32 (x2)))] → W p l e R s m args below meth c H locs 0 0 (MQ below (YQv D cA ad RR.2) args s 0 0 (ZA ad)) (F0 m 58 ls [.int (i32 (y1)), .int (i32 (y0))]) := by
  intro z x2 y0 y1 H locs ls hF hw hzz hx2 hy0 hy1 hl
  unfold X11_findBest_b58 at hF
  refine Yior S dX11_findBest_58 ?_
  refine lv_istore_n (lv' := [(1, .int (i32 (jor y0 y1))), (0, .ref (ad 68)), (2, .int (i32 (x2)))]) S.1 S.2.1 dX11_findBest_59 rfl hl (by decide) rfl (fun ls hl => ?_)
  obtain ⟨g1_, hF⟩ := Zgs hF
  refine lv_iinc (v := i32 (x2 + 1)) (lv' := [(2, .int (i32 (x2 + 1))), (1, .int (i32 (jor y0 y1))), (0, .ref (ad 68))]) S.1 S.2.1 dX11_findBest_60 hl (k := 2) rfl Yiinc (by decide) rfl (fun ls hl => ?_)
  refine lv_goto (tgt := 31) S.1 S.2.1 dX11_findBest_63 (by decide) ?_
  exact hk31 _ _ _ _ _ _ hF hw hzz (InR_of _) g1_ (lv_sub hl [2, 1, 0] rfl)
set_option maxRecDepth 100000 in
set_option maxHeartbeats 4000000 in
theorem w_X11_findBest_L31 {RR : Unit × ZI} (S : CallFix p m c cX11_findBest 6 s args Ztbl RX11) (hr : meth.sig.returnType = none) (hlk : meth.locks = false) (hR : 4 ≤ R.frames ∧ 60 * (4) ≤ R.locals) (hdj : Zdj ad) : ∀ (n : Nat) (z : ZI) (x1 : Int) (x2 : Int) (H : Heap) (locs : List Loc) (ls : Array Slot), X11_findBest_L31 n z x1 x2 = some RR → ZW D cA ad (ZA ad) (Zc z) s H locs → Zok z → InR x1 → InR x2 → lv_has ls 6 [(0, .ref (ad 68)), (1, .int (i32 (x1))), (2, .int (i32 (x2)))] → W p l e R s m args below meth c H locs 0 0 (MQ below (YQv D cA ad RR.2) args s 0 0 (ZA ad)) (F0 m 31 ls []) := by
  intro n
  induction n with
  | zero => intro z x1 x2 H locs ls hF; exact nomatch hF
  | succ n hk31 =>
    intro z x1 x2 H locs ls hF hw hzz hx1 hx2 hl
    replace hF : X11_findBest_L31b (X11_findBest_L31 n) z x1 x2 = some RR := hF
    unfold X11_findBest_L31b at hF
    refine lv_iload_n S.1 S.2.1 dX11_findBest_31 rfl (lv_at hl 2 rfl) ?_
    refine lv_iconst (v := i32 4) S.1 S.2.1 dX11_findBest_32 ic_4 ?_
    refine Yicmp_ge (tgt := 66) S hx2 r_4 dX11_findBest_33 (by decide) (fun c1_ => ?_) (fun c1_ => ?_)
    · replace hF := ZtP c1_ hF
      exact w_X11_findBest_b66 S hr hlk hR hdj _ _ _ _ _ hF hw hzz hx1 (lv_sub hl [0, 1] rfl)
    · replace hF := ZtN c1_ hF
      refine lv_iload_n S.1 S.2.1 dX11_findBest_36 rfl (lv_at hl 1 rfl) ?_
      refine lv_aload_n S.1 S.2.1 dX11_findBest_37 rfl (lv_at hl 0 rfl) ?_
      refine lv_iload_n S.1 S.2.1 dX11_findBest_38 rfl (lv_at hl 2 rfl) ?_
      obtain ⟨r4_, z2_, h3_, hF⟩ := Ybs hF
      refine YcallVi (rest := [.int (i32 (x1))]) S hw (c_X11_isEmpty hdj hzz hx2 h3_) my_X11_isEmpty mi_X11_isEmpty ml_X11_401 zd_68 zc_X11 rfl (Zrr hR (by decide)) ⟨Nat.zero_le _, Nat.zero_le _⟩ hl.1 rfl rfl (Nat.le_of_ble_eq_true rfl) dX11_findBest_39 (fun hrr4_ hzz2_ H locs hw => ?_)
      refine Yif_eq (tgt := 57) S hrr4_ dX11_findBest_42 (by decide) (fun c5_ => ?_) (fun c5_ => ?_)
      · replace hF := ZtP c5_ hF
        refine lv_iconst (v := i32 0) S.1 S.2.1 dX11_findBest_57 ic_0 ?_
        exact w_X11_findBest_b58 S hr hlk hR hdj hk31 _ _ _ _ _ _ _ hF hw hzz2_ hx2 hx1 r_0 (lv_sub hl [0, 2] rfl)
      · replace hF := ZtN c5_ hF
        refine lv_bipush (v := i32 7) S.1 S.2.1 dX11_findBest_45 bp_7 ?_
        refine lv_bipush (v := i32 9) S.1 S.2.1 dX11_findBest_47 bp_9 ?_
        refine lv_iconst (v := i32 3) S.1 S.2.1 dX11_findBest_49 ic_3 ?_
        refine lv_iload_n S.1 S.2.1 dX11_findBest_50 rfl (lv_at hl 2 rfl) ?_
        obtain ⟨g6_, hF⟩ := Zgs hF
        refine Yimul S dX11_findBest_51 ?_
        obtain ⟨g7_, hF⟩ := Zgs hF
        refine Yisub S dX11_findBest_52 ?_
        refine Yishl S dX11_findBest_53 ?_
        refine lv_goto (tgt := 58) S.1 S.2.1 dX11_findBest_54 (by decide) ?_
        exact w_X11_findBest_b58 S hr hlk hR hdj hk31 _ _ _ _ _ _ _ hF hw hzz2_ hx2 hx1 (InR_of _) (lv_sub hl [0, 2] rfl)
set_option maxRecDepth 100000 in
set_option maxHeartbeats 4000000 in
theorem c_X11_findBest {l : Launch} {D : va_G} {cA : Nat → ClassId} {ad : Nat → Nat} (hdj : Zdj ad) {z z1 : ZI} (hzz : Zok z) (hF : F_X11_findBest z  = some ((), z1)) : YMv l D cA ad (4) yX11_findBest cX11_findBest 6 [.ref (ad 68)] z z1 :=
  Zmet hdj (by decide) rfl (Nat.le_of_ble_eq_true rfl) (lv := [(0, .ref (ad 68))]) rfl (fun p e s m args below meth c ls S hr hlk hw hl => by
    have hR : 4 ≤ (Zrm (4)).frames ∧ 60 * (4) ≤ (Zrm (4)).locals := ⟨Nat.le_refl _, Nat.le_refl _⟩
    unfold F_X11_findBest at hF
    revert hR
    generalize Zrm (4) = R
    intro hR
    refine lv_aload_n S.1 S.2.1 dX11_findBest_0 rfl (lv_at hl 0 rfl) ?_
    obtain ⟨r3_, z1_, h2_, hF⟩ := Ybs hF
    refine YcallVv (rest := []) S hw (c_X11_findNeeds hdj hzz  h2_) my_X11_findNeeds mi_X11_findNeeds ml_X11_378 zd_68 zc_X11 rfl (Zrr hR (by decide)) ⟨Nat.zero_le _, Nat.zero_le _⟩ hl.1 rfl rfl (Nat.le_of_ble_eq_true rfl) dX11_findBest_1 (fun hzz1_ H locs hw => ?_)
    refine lv_aload_n S.1 S.2.1 dX11_findBest_4 rfl (lv_at hl 0 rfl) ?_
    obtain ⟨r6_, z4_, h5_, hF⟩ := Ybs hF
    refine YcallVi (rest := []) S hw (c_X11_isAsFound hdj hzz1_  h5_) my_X11_isAsFound mi_X11_isAsFound ml_X11_392 zd_68 zc_X11 rfl (Zrr hR (by decide)) ⟨Nat.zero_le _, Nat.zero_le _⟩ hl.1 rfl rfl (Nat.le_of_ble_eq_true rfl) dX11_findBest_5 (fun hrr6_ hzz4_ H locs hw => ?_)
    refine Yif_eq (tgt := 12) S hrr6_ dX11_findBest_8 (by decide) (fun c7_ => ?_) (fun c7_ => ?_)
    · replace hF := ZtP c7_ hF
      refine lv_aload_n S.1 S.2.1 dX11_findBest_12 rfl (lv_at hl 0 rfl) ?_
      obtain ⟨r10_, z8_, h9_, hF⟩ := Ybs hF
      refine YcallVv (rest := []) S hw (c_X11_findDrawers hdj hzz4_  h9_) my_X11_findDrawers mi_X11_findDrawers ml_X11_381 zd_68 zc_X11 rfl (Zrr hR (by decide)) ⟨Nat.zero_le _, Nat.zero_le _⟩ hl.1 rfl rfl (Nat.le_of_ble_eq_true rfl) dX11_findBest_13 (fun hzz8_ H locs hw => ?_)
      refine lv_aload_n S.1 S.2.1 dX11_findBest_16 rfl (lv_at hl 0 rfl) ?_
      refine lv_bipush (v := i32 31) S.1 S.2.1 dX11_findBest_17 bp_31 ?_
      refine pp_X11_395 S hw hzz8_ r_31 dX11_findBest_19 (fun z11_ H locs ez hzz11_ hw => ?_)
      replace hF := Zle ez hF; clear ez
      refine lv_aload_n S.1 S.2.1 dX11_findBest_22 rfl (lv_at hl 0 rfl) ?_
      refine lv_iconst (v := i32 0) S.1 S.2.1 dX11_findBest_23 ic_0 ?_
      refine pp_X11_398 S hw hzz11_ r_0 dX11_findBest_24 (fun z12_ H locs ez hzz12_ hw => ?_)
      replace hF := Zle ez hF; clear ez
      refine lv_iconst (v := i32 0) S.1 S.2.1 dX11_findBest_27 ic_0 ?_
      refine lv_istore_n (lv' := [(1, .int (i32 (0))), (0, .ref (ad 68))]) S.1 S.2.1 dX11_findBest_28 rfl hl (by decide) rfl (fun ls hl => ?_)
      refine lv_iconst (v := i32 0) S.1 S.2.1 dX11_findBest_29 ic_0 ?_
      refine lv_istore_n (lv' := [(2, .int (i32 (0))), (1, .int (i32 (0))), (0, .ref (ad 68))]) S.1 S.2.1 dX11_findBest_30 rfl hl (by decide) rfl (fun ls hl => ?_)
      exact w_X11_findBest_L31 S hr hlk hR hdj Zfuel _ _ _ _ _ _ hF hw hzz12_ r_0 r_0 (lv_sub hl [2, 1, 0] rfl)
    · replace hF := ZtN c7_ hF
      exact Yvret S hw hzz4_ hr hlk hF dX11_findBest_11)
set_option maxRecDepth 100000 in
set_option maxHeartbeats 4000000 in
theorem w_X11_best_b53 {RR : Int × ZI} (S : CallFix p m c cX11_best 2 s args Ztbl RX11) (hr : meth.sig.returnType = some .int) (hlk : meth.locks = false) (hR : 5 ≤ R.frames ∧ 60 * (5) ≤ R.locals) (hdj : Zdj ad) : ∀ (z : ZI) (y0 : Int) (H : Heap) (locs : List Loc) (ls : Array Slot), X11_best_b53 z y0 = some RR → ZW D cA ad (ZA ad) (Zc z) s H locs → Zok z → InR y0 → lv_has ls 2 [] → W p l e R s m args below meth c H locs 0 0 (MQ below (YQi D cA ad RR.1 RR.2) args s 0 0 (ZA ad)) (F0 m 53 ls [.int (i32 (y0))]) := by
  intro z y0 H locs ls hF hw hzz hy0 hl
  unfold X11_best_b53 at hF
  exact Yireti S hw hzz hy0 hr hlk hF dX11_best_53
set_option maxRecDepth 100000 in
set_option maxHeartbeats 4000000 in
theorem c_X11_best {l : Launch} {D : va_G} {cA : Nat → ClassId} {ad : Nat → Nat} (hdj : Zdj ad) {z z1 : ZI} {x1 : Int} {r : Int} (hzz : Zok z) (hx1 : InR x1) (hF : F_X11_best z x1 = some (r, z1)) : YMi l D cA ad (5) yX11_best cX11_best 2 (some .int) [.ref (ad 68), .int (i32 x1)] z r z1 :=
  Zmet hdj (by decide) rfl (Nat.le_of_ble_eq_true rfl) (lv := [(0, .ref (ad 68)), (1, .int (i32 (x1)))]) rfl (fun p e s m args below meth c ls S hr hlk hw hl => by
    have hR : 5 ≤ (Zrm (5)).frames ∧ 60 * (5) ≤ (Zrm (5)).locals := ⟨Nat.le_refl _, Nat.le_refl _⟩
    unfold F_X11_best at hF
    revert hR
    generalize Zrm (5) = R
    intro hR
    refine lv_iload_n S.1 S.2.1 dX11_best_0 rfl (lv_at hl 1 rfl) ?_
    refine Yi2l S hx1 dX11_best_1 ?_
    refine lv_lconst (v := i64 0) S.1 S.2.1 dX11_best_2 lc_0 ?_
    refine lv_ldc2 (own := RX11) (v := i64 5) S.1 S.2.1 S.2.2.2.1 (S.2.2.2.2 _ yl_X11_236) dX11_best_3 ?_
    obtain ⟨r3_, z1_, h2_, hF⟩ := Ybs hF
    refine YcallSi (rest := []) S hw (c_X11_isIn hdj hzz (InR_L hx1) (InR_L r_0) (InR_L r_5) h2_) my_X11_isIn ms_X11_isIn ml_X11_226 (Zrr hR (by decide)) ⟨Nat.zero_le _, Nat.zero_le _⟩ hl.1 rfl rfl (Nat.le_of_ble_eq_true rfl) dX11_best_6 (fun hrr3_ hzz1_ H locs hw => ?_)
    refine Yif_ne (tgt := 19) S hrr3_ dX11_best_9 (by decide) (fun c4_ => ?_) (fun c4_ => ?_)
    · replace hF := ZtN c4_ hF
      refine lv_aload_n S.1 S.2.1 dX11_best_19 rfl (lv_at hl 0 rfl) ?_
      obtain ⟨r7_, z5_, h6_, hF⟩ := Ybs hF
      refine YcallVv (rest := []) S hw (c_X11_findBest hdj hzz1_  h6_) my_X11_findBest mi_X11_findBest ml_X11_404 zd_68 zc_X11 rfl (Zrr hR (by decide)) ⟨Nat.zero_le _, Nat.zero_le _⟩ hl.1 rfl rfl (Nat.le_of_ble_eq_true rfl) dX11_best_20 (fun hzz5_ H locs hw => ?_)
      refine lv_iload_n S.1 S.2.1 dX11_best_23 rfl (lv_at hl 1 rfl) ?_
      refine lv_iconst (v := i32 4) S.1 S.2.1 dX11_best_24 ic_4 ?_
      refine Yicmp_ge (tgt := 37) S hx1 r_4 dX11_best_25 (by decide) (fun c8_ => ?_) (fun c8_ => ?_)
      · replace hF := ZtP c8_ hF
        refine lv_iload_n S.1 S.2.1 dX11_best_37 rfl (lv_at hl 1 rfl) ?_
        refine lv_iconst (v := i32 4) S.1 S.2.1 dX11_best_38 ic_4 ?_
        refine Yicmp_ne (tgt := 49) S hx1 r_4 dX11_best_39 (by decide) (fun c9_ => ?_) (fun c9_ => ?_)
        · replace hF := ZtN c9_ hF
          refine lv_aload_n S.1 S.2.1 dX11_best_49 rfl (lv_at hl 0 rfl) ?_
          refine gg_X11_398 S hw dX11_best_50 ?_
          exact w_X11_best_b53 S hr hlk hR hdj _ _ _ _ _ hF hw hzz5_ (hzz5_.1 68 49 (by decide)) (lv_sub hl [] rfl)
        · replace hF := ZtP c9_ hF
          refine lv_aload_n S.1 S.2.1 dX11_best_42 rfl (lv_at hl 0 rfl) ?_
          refine gg_X11_395 S hw dX11_best_43 ?_
          refine lv_goto (tgt := 53) S.1 S.2.1 dX11_best_46 (by decide) ?_
          exact w_X11_best_b53 S hr hlk hR hdj _ _ _ _ _ hF hw hzz5_ (hzz5_.1 68 48 (by decide)) (lv_sub hl [] rfl)
      · replace hF := ZtN c8_ hF
        refine lv_aload_n S.1 S.2.1 dX11_best_28 rfl (lv_at hl 0 rfl) ?_
        refine gf_X11_117 S hw dX11_best_29 ?_
        refine lv_iload_n S.1 S.2.1 dX11_best_32 rfl (lv_at hl 1 rfl) ?_
        obtain ⟨b10_, hF⟩ := Zgs hF
        refine Yiald S hw zd_104 (by decide) hx1 b10_ dX11_best_33 ?_
        refine lv_goto (tgt := 53) S.1 S.2.1 dX11_best_34 (by decide) ?_
        exact w_X11_best_b53 S hr hlk hR hdj _ _ _ _ _ hF hw hzz5_ (hzz5_.1 _ _ (by decide)) (lv_sub hl [] rfl)
    · replace hF := ZtP c4_ hF
      refine lv_aload_n S.1 S.2.1 dX11_best_12 rfl (lv_at hl 0 rfl) ?_
      refine lv_bipush (v := i32 (-2)) S.1 S.2.1 dX11_best_13 bp_m2 ?_
      obtain ⟨r13_, z11_, h12_, hF⟩ := Ybs hF
      refine YcallVi (rest := []) S hw (c_X11_no hdj hzz1_ r_m2 h12_) my_X11_no mi_X11_no ml_X11_207 zd_68 zc_X11 rfl (Zrr hR (by decide)) ⟨Nat.zero_le _, Nat.zero_le _⟩ hl.1 rfl rfl (Nat.le_of_ble_eq_true rfl) dX11_best_15 (fun hrr13_ hzz11_ H locs hw => ?_)
      exact Yireti S hw hzz11_ hrr13_ hr hlk hF dX11_best_18)
set_option maxRecDepth 100000 in
set_option maxHeartbeats 4000000 in
theorem w_X11_bits_L4 {RR : Int × ZI} (S : CallFix p m c cX11_bits 3 s args Ztbl RX11) (hr : meth.sig.returnType = some .int) (hlk : meth.locks = false) (hR : 0 ≤ R.frames ∧ 60 * (0) ≤ R.locals) (hdj : Zdj ad) : ∀ (n : Nat) (z : ZI) (x0 : Int) (x1 : Int) (x2 : Int) (H : Heap) (locs : List Loc) (ls : Array Slot), X11_bits_L4 n z x0 x1 x2 = some RR → ZW D cA ad (ZA ad) (Zc z) s H locs → Zok z → InR x0 → InR x1 → InR x2 → lv_has ls 3 [(0, .int (i32 (x0))), (1, .int (i32 (x1))), (2, .int (i32 (x2)))] → W p l e R s m args below meth c H locs 0 0 (MQ below (YQi D cA ad RR.1 RR.2) args s 0 0 (ZA ad)) (F0 m 4 ls []) := by
  intro n
  induction n with
  | zero => intro z x0 x1 x2 H locs ls hF; exact nomatch hF
  | succ n hk4 =>
    intro z x0 x1 x2 H locs ls hF hw hzz hx0 hx1 hx2 hl
    replace hF : X11_bits_L4b (X11_bits_L4 n) z x0 x1 x2 = some RR := hF
    unfold X11_bits_L4b at hF
    refine lv_iload_n S.1 S.2.1 dX11_bits_4 rfl (lv_at hl 2 rfl) ?_
    refine lv_bipush (v := i32 31) S.1 S.2.1 dX11_bits_5 bp_31 ?_
    refine Yicmp_ge (tgt := 24) S hx2 r_31 dX11_bits_7 (by decide) (fun c1_ => ?_) (fun c1_ => ?_)
    · replace hF := ZtP c1_ hF
      refine lv_iload_n S.1 S.2.1 dX11_bits_24 rfl (lv_at hl 1 rfl) ?_
      exact Yireti S hw hzz hx1 hr hlk hF dX11_bits_25
    · replace hF := ZtN c1_ hF
      refine lv_iload_n S.1 S.2.1 dX11_bits_10 rfl (lv_at hl 1 rfl) ?_
      refine lv_iload_n S.1 S.2.1 dX11_bits_11 rfl (lv_at hl 0 rfl) ?_
      refine lv_iload_n S.1 S.2.1 dX11_bits_12 rfl (lv_at hl 2 rfl) ?_
      refine Yishr S dX11_bits_13 ?_
      refine lv_iconst (v := i32 1) S.1 S.2.1 dX11_bits_14 ic_1 ?_
      refine Yiand S dX11_bits_15 ?_
      obtain ⟨g2_, hF⟩ := Zgs hF
      refine Yiadd S dX11_bits_16 ?_
      refine lv_istore_n (lv' := [(1, .int (i32 (x1 + (jand (jshr x0 x2) 1)))), (0, .int (i32 (x0))), (2, .int (i32 (x2)))]) S.1 S.2.1 dX11_bits_17 rfl hl (by decide) rfl (fun ls hl => ?_)
      obtain ⟨g3_, hF⟩ := Zgs hF
      refine lv_iinc (v := i32 (x2 + 1)) (lv' := [(2, .int (i32 (x2 + 1))), (1, .int (i32 (x1 + (jand (jshr x0 x2) 1)))), (0, .int (i32 (x0)))]) S.1 S.2.1 dX11_bits_18 hl (k := 2) rfl Yiinc (by decide) rfl (fun ls hl => ?_)
      refine lv_goto (tgt := 4) S.1 S.2.1 dX11_bits_21 (by decide) ?_
      exact hk4 _ _ _ _ _ _ _ hF hw hzz hx0 g2_ g3_ (lv_sub hl [2, 1, 0] rfl)
set_option maxRecDepth 100000 in
set_option maxHeartbeats 4000000 in
theorem c_X11_bits {l : Launch} {D : va_G} {cA : Nat → ClassId} {ad : Nat → Nat} (hdj : Zdj ad) {z z1 : ZI} {x0 : Int} {r : Int} (hzz : Zok z) (hx0 : InR x0) (hF : F_X11_bits z x0 = some (r, z1)) : YMi l D cA ad (0) yX11_bits cX11_bits 3 (some .int) [.int (i32 x0)] z r z1 :=
  Zmet hdj (by decide) rfl (Nat.le_of_ble_eq_true rfl) (lv := [(0, .int (i32 (x0)))]) rfl (fun p e s m args below meth c ls S hr hlk hw hl => by
    have hR : 0 ≤ (Zrm (0)).frames ∧ 60 * (0) ≤ (Zrm (0)).locals := ⟨Nat.le_refl _, Nat.le_refl _⟩
    unfold F_X11_bits at hF
    revert hR
    generalize Zrm (0) = R
    intro hR
    refine lv_iconst (v := i32 0) S.1 S.2.1 dX11_bits_0 ic_0 ?_
    refine lv_istore_n (lv' := [(1, .int (i32 (0))), (0, .int (i32 (x0)))]) S.1 S.2.1 dX11_bits_1 rfl hl (by decide) rfl (fun ls hl => ?_)
    refine lv_iconst (v := i32 0) S.1 S.2.1 dX11_bits_2 ic_0 ?_
    refine lv_istore_n (lv' := [(2, .int (i32 (0))), (1, .int (i32 (0))), (0, .int (i32 (x0)))]) S.1 S.2.1 dX11_bits_3 rfl hl (by decide) rfl (fun ls hl => ?_)
    exact w_X11_bits_L4 S hr hlk hR hdj Zfuel _ _ _ _ _ _ _ hF hw hzz hx0 r_0 r_0 (lv_sub hl [2, 1, 0] rfl))
set_option maxRecDepth 100000 in
set_option maxHeartbeats 4000000 in
theorem w_X11_out_b24 {RR : Int × ZI} (S : CallFix p m c cX11_out 6 s args Ztbl RX11) (hr : meth.sig.returnType = some .int) (hlk : meth.locks = false) (hR : 0 ≤ R.frames ∧ 60 * (0) ≤ R.locals) (hdj : Zdj ad) : ∀ (z : ZI) (y0 : Int) (H : Heap) (locs : List Loc) (ls : Array Slot), X11_out_b24 z y0 = some RR → ZW D cA ad (ZA ad) (Zc z) s H locs → Zok z → InR y0 → lv_has ls 6 [] → W p l e R s m args below meth c H locs 0 0 (MQ below (YQi D cA ad RR.1 RR.2) args s 0 0 (ZA ad)) (F0 m 24 ls [.int (i32 (y0))]) := by
  intro z y0 H locs ls hF hw hzz hy0 hl
  unfold X11_out_b24 at hF
  exact Yireti S hw hzz hy0 hr hlk hF dX11_out_24
set_option maxRecDepth 100000 in
set_option maxHeartbeats 4000000 in
theorem c_X11_out {l : Launch} {D : va_G} {cA : Nat → ClassId} {ad : Nat → Nat} (hdj : Zdj ad) {z z1 : ZI} {x0 : Int} {x2 : Int} {x4 : Int} {r : Int} (hzz : Zok z) (hx0 : InL x0) (hx2 : InL x2) (hx4 : InL x4) (hF : F_X11_out z x0 x2 x4 = some (r, z1)) : YMi l D cA ad (0) yX11_out cX11_out 6 (some .int) [.long (i64 x0), .long (i64 x2), .long (i64 x4)] z r z1 :=
  Zmet hdj (by decide) rfl (Nat.le_of_ble_eq_true rfl) (lv := [(0, .long (i64 (x0))), (2, .long (i64 (x2))), (4, .long (i64 (x4)))]) rfl (fun p e s m args below meth c ls S hr hlk hw hl => by
    have hR : 0 ≤ (Zrm (0)).frames ∧ 60 * (0) ≤ (Zrm (0)).locals := ⟨Nat.le_refl _, Nat.le_refl _⟩
    unfold F_X11_out at hF
    revert hR
    generalize Zrm (0) = R
    intro hR
    refine lv_lload_n S.1 S.2.1 dX11_out_0 rfl (lv_at hl 0 rfl) ?_
    refine lv_lload_n S.1 S.2.1 dX11_out_1 rfl (lv_at hl 1 rfl) ?_
    refine Ylcmp S hx0 hx2 dX11_out_2 ?_
    refine Yif_ge (tgt := 11) S (jcmp_in _ _) dX11_out_3 (by decide) (fun c1_ => ?_) (fun c1_ => ?_)
    · replace hF := ZtP c1_ hF
      refine lv_lload_n S.1 S.2.1 dX11_out_11 rfl (lv_at hl 0 rfl) ?_
      refine lv_lload S.1 S.2.1 dX11_out_12 (lv_at hl 2 rfl) ?_
      refine Ylcmp S hx0 hx4 dX11_out_14 ?_
      refine Yif_le (tgt := 23) S (jcmp_in _ _) dX11_out_15 (by decide) (fun c2_ => ?_) (fun c2_ => ?_)
      · replace hF := ZtP c2_ hF
        refine lv_iconst (v := i32 0) S.1 S.2.1 dX11_out_23 ic_0 ?_
        exact w_X11_out_b24 S hr hlk hR hdj _ _ _ _ _ hF hw hzz r_0 (lv_sub hl [] rfl)
      · replace hF := ZtN c2_ hF
        refine lv_bipush (v := i32 (-6)) S.1 S.2.1 dX11_out_18 bp_m6 ?_
        refine lv_goto (tgt := 24) S.1 S.2.1 dX11_out_20 (by decide) ?_
        exact w_X11_out_b24 S hr hlk hR hdj _ _ _ _ _ hF hw hzz r_m6 (lv_sub hl [] rfl)
    · replace hF := ZtN c1_ hF
      refine lv_bipush (v := i32 (-4)) S.1 S.2.1 dX11_out_6 bp_m4 ?_
      refine lv_goto (tgt := 24) S.1 S.2.1 dX11_out_8 (by decide) ?_
      exact w_X11_out_b24 S hr hlk hR hdj _ _ _ _ _ hF hw hzz r_m4 (lv_sub hl [] rfl))
set_option maxRecDepth 100000 in
set_option maxHeartbeats 4000000 in
theorem c_X11_block {l : Launch} {D : va_G} {cA : Nat → ClassId} {ad : Nat → Nat} (hdj : Zdj ad) {z z1 : ZI} {x1 : Int} {x2 : Int} {r : Int} (hzz : Zok z) (hx1 : InR x1) (hx2 : InR x2) (hF : F_X11_block z x1 x2 = some (r, z1)) : YMi l D cA ad (1) yX11_block cX11_block 5 (some .int) [.ref (ad 68), .int (i32 x1), .int (i32 x2)] z r z1 :=
  Zmet hdj (by decide) rfl (Nat.le_of_ble_eq_true rfl) (lv := [(0, .ref (ad 68)), (1, .int (i32 (x1))), (2, .int (i32 (x2)))]) rfl (fun p e s m args below meth c ls S hr hlk hw hl => by
    have hR : 1 ≤ (Zrm (1)).frames ∧ 60 * (1) ≤ (Zrm (1)).locals := ⟨Nat.le_refl _, Nat.le_refl _⟩
    unfold F_X11_block at hF
    revert hR
    generalize Zrm (1) = R
    intro hR
    refine lv_iload_n S.1 S.2.1 dX11_block_0 rfl (lv_at hl 1 rfl) ?_
    refine Yi2l S hx1 dX11_block_1 ?_
    refine lv_lconst (v := i64 0) S.1 S.2.1 dX11_block_2 lc_0 ?_
    refine lv_ldc2 (own := RX11) (v := i64 3) S.1 S.2.1 S.2.2.2.1 (S.2.2.2.2 _ yl_X11_224) dX11_block_3 ?_
    obtain ⟨r3_, z1_, h2_, hF⟩ := Ybs hF
    refine YcallSi (rest := []) S hw (c_X11_isIn hdj hzz (InR_L hx1) (InR_L r_0) (InR_L r_3) h2_) my_X11_isIn ms_X11_isIn ml_X11_226 (Zrr hR (by decide)) ⟨Nat.zero_le _, Nat.zero_le _⟩ hl.1 rfl rfl (Nat.le_of_ble_eq_true rfl) dX11_block_6 (fun hrr3_ hzz1_ H locs hw => ?_)
    refine Yif_ne (tgt := 18) S hrr3_ dX11_block_9 (by decide) (fun c4_ => ?_) (fun c4_ => ?_)
    · replace hF := ZtN c4_ hF
      refine lv_iload_n S.1 S.2.1 dX11_block_18 rfl (lv_at hl 2 rfl) ?_
      refine Yi2l S hx2 dX11_block_19 ?_
      refine lv_ldc2 (own := RX11) (v := i64 4) S.1 S.2.1 S.2.2.2.1 (S.2.2.2.2 _ yl_X11_246) dX11_block_20 ?_
      refine lv_ldc2 (own := RX11) (v := i64 20) S.1 S.2.1 S.2.2.2.1 (S.2.2.2.2 _ yl_X11_372) dX11_block_23 ?_
      obtain ⟨r7_, z5_, h6_, hF⟩ := Ybs hF
      refine YcallSi (rest := []) S hw (c_X11_out hdj hzz1_ (InR_L hx2) (InR_L r_4) (InR_L r_20) h6_) my_X11_out ms_X11_out ml_X11_203 (Zrr hR (by decide)) ⟨Nat.zero_le _, Nat.zero_le _⟩ hl.1 rfl rfl (Nat.le_of_ble_eq_true rfl) dX11_block_26 (fun hrr7_ hzz5_ H locs hw => ?_)
      refine lv_istore_n (lv' := [(3, .int (i32 (r7_))), (0, .ref (ad 68)), (1, .int (i32 (x1))), (2, .int (i32 (x2)))]) S.1 S.2.1 dX11_block_29 rfl hl (by decide) rfl (fun ls hl => ?_)
      refine lv_iload_n S.1 S.2.1 dX11_block_30 rfl (lv_at hl 0 rfl) ?_
      refine Yif_eq (tgt := 40) S hrr7_ dX11_block_31 (by decide) (fun c8_ => ?_) (fun c8_ => ?_)
      · replace hF := ZtP c8_ hF
        refine lv_aload_n S.1 S.2.1 dX11_block_40 rfl (lv_at hl 1 rfl) ?_
        refine gf_X11_99 S hw dX11_block_41 ?_
        refine lv_iload_n S.1 S.2.1 dX11_block_44 rfl (lv_at hl 2 rfl) ?_
        obtain ⟨b9_, hF⟩ := Zgs hF
        refine Yiald S hw zd_98 (by decide) hx1 b9_ dX11_block_45 ?_
        refine lv_istore (lv' := [(4, .int (i32 (z5_ 98 x1))), (3, .int (i32 (r7_))), (0, .ref (ad 68)), (1, .int (i32 (x1))), (2, .int (i32 (x2)))]) S.1 S.2.1 dX11_block_46 hl (by decide) rfl (fun ls hl => ?_)
        refine lv_aload_n S.1 S.2.1 dX11_block_48 rfl (lv_at hl 2 rfl) ?_
        refine gf_X11_99 S hw dX11_block_49 ?_
        refine lv_iload_n S.1 S.2.1 dX11_block_52 rfl (lv_at hl 3 rfl) ?_
        refine lv_iload_n S.1 S.2.1 dX11_block_53 rfl (lv_at hl 4 rfl) ?_
        obtain ⟨b10_, hF⟩ := Zgs hF
        refine Yiast S hw hzz5_ zd_98 (by decide) hx1 hx2 b10_ dX11_block_54 (fun z11_ H locs ez hzz11_ hw => ?_)
        replace hF := Zle ez hF; clear ez
        refine lv_iload S.1 S.2.1 dX11_block_55 (lv_at hl 0 rfl) ?_
        exact Yireti S hw hzz11_ (hzz5_.1 _ _ (by decide)) hr hlk hF dX11_block_57
      · replace hF := ZtN c8_ hF
        refine lv_aload_n S.1 S.2.1 dX11_block_34 rfl (lv_at hl 1 rfl) ?_
        refine lv_iload_n S.1 S.2.1 dX11_block_35 rfl (lv_at hl 0 rfl) ?_
        obtain ⟨r14_, z12_, h13_, hF⟩ := Ybs hF
        refine YcallVi (rest := []) S hw (c_X11_no hdj hzz5_ hrr7_ h13_) my_X11_no mi_X11_no ml_X11_207 zd_68 zc_X11 rfl (Zrr hR (by decide)) ⟨Nat.zero_le _, Nat.zero_le _⟩ hl.1 rfl rfl (Nat.le_of_ble_eq_true rfl) dX11_block_36 (fun hrr14_ hzz12_ H locs hw => ?_)
        exact Yireti S hw hzz12_ hrr14_ hr hlk hF dX11_block_39
    · replace hF := ZtP c4_ hF
      refine lv_aload_n S.1 S.2.1 dX11_block_12 rfl (lv_at hl 0 rfl) ?_
      refine lv_iconst (v := i32 (-1)) S.1 S.2.1 dX11_block_13 ic_m1 ?_
      obtain ⟨r17_, z15_, h16_, hF⟩ := Ybs hF
      refine YcallVi (rest := []) S hw (c_X11_no hdj hzz1_ r_m1 h16_) my_X11_no mi_X11_no ml_X11_207 zd_68 zc_X11 rfl (Zrr hR (by decide)) ⟨Nat.zero_le _, Nat.zero_le _⟩ hl.1 rfl rfl (Nat.le_of_ble_eq_true rfl) dX11_block_14 (fun hrr17_ hzz15_ H locs hw => ?_)
      exact Yireti S hw hzz15_ hrr17_ hr hlk hF dX11_block_17)
set_option maxRecDepth 100000 in
set_option maxHeartbeats 4000000 in
theorem w_X11_isHouse_b17 {RR : Int × ZI} (S : CallFix p m c cX11_isHouse 2 s args Ztbl RX11) (hr : meth.sig.returnType = some .boolean) (hlk : meth.locks = false) (hR : 0 ≤ R.frames ∧ 60 * (0) ≤ R.locals) (hdj : Zdj ad) : ∀ (z : ZI) (y0 : Int) (H : Heap) (locs : List Loc) (ls : Array Slot), X11_isHouse_b17 z y0 = some RR → ZW D cA ad (ZA ad) (Zc z) s H locs → Zok z → InR y0 → lv_has ls 2 [] → W p l e R s m args below meth c H locs 0 0 (MQ below (YQi D cA ad RR.1 RR.2) args s 0 0 (ZA ad)) (F0 m 17 ls [.int (i32 (y0))]) := by
  intro z y0 H locs ls hF hw hzz hy0 hl
  unfold X11_isHouse_b17 at hF
  obtain ⟨b1_, hF⟩ := Zgs hF
  exact Yiretz S hw hzz hy0 hr hlk b1_ hF dX11_isHouse_17
set_option maxRecDepth 100000 in
set_option maxHeartbeats 4000000 in
theorem w_X11_isHouse_b16 {RR : Int × ZI} (S : CallFix p m c cX11_isHouse 2 s args Ztbl RX11) (hr : meth.sig.returnType = some .boolean) (hlk : meth.locks = false) (hR : 0 ≤ R.frames ∧ 60 * (0) ≤ R.locals) (hdj : Zdj ad) : ∀ (z : ZI) (H : Heap) (locs : List Loc) (ls : Array Slot), X11_isHouse_b16 z  = some RR → ZW D cA ad (ZA ad) (Zc z) s H locs → Zok z → lv_has ls 2 [] → W p l e R s m args below meth c H locs 0 0 (MQ below (YQi D cA ad RR.1 RR.2) args s 0 0 (ZA ad)) (F0 m 16 ls []) := by
  intro z  H locs ls hF hw hzz  hl
  unfold X11_isHouse_b16 at hF
  refine lv_iconst (v := i32 0) S.1 S.2.1 dX11_isHouse_16 ic_0 ?_
  exact w_X11_isHouse_b17 S hr hlk hR hdj _ _ _ _ _ hF hw hzz r_0 (lv_sub hl [] rfl)
set_option maxRecDepth 100000 in
set_option maxHeartbeats 4000000 in
theorem c_X11_isHouse {l : Launch} {D : va_G} {cA : Nat → ClassId} {ad : Nat → Nat} (hdj : Zdj ad) {z z1 : ZI} {x1 : Int} {r : Int} (hzz : Zok z) (hx1 : InR x1) (hF : F_X11_isHouse z x1 = some (r, z1)) : YMi l D cA ad (0) yX11_isHouse cX11_isHouse 2 (some .boolean) [.ref (ad 68), .int (i32 x1)] z r z1 :=
  Zmet hdj (by decide) rfl (Nat.le_of_ble_eq_true rfl) (lv := [(0, .ref (ad 68)), (1, .int (i32 (x1)))]) rfl (fun p e s m args below meth c ls S hr hlk hw hl => by
    have hR : 0 ≤ (Zrm (0)).frames ∧ 60 * (0) ≤ (Zrm (0)).locals := ⟨Nat.le_refl _, Nat.le_refl _⟩
    unfold F_X11_isHouse at hF
    revert hR
    generalize Zrm (0) = R
    intro hR
    refine lv_iload_n S.1 S.2.1 dX11_isHouse_0 rfl (lv_at hl 1 rfl) ?_
    refine Yif_lt (tgt := 16) S hx1 dX11_isHouse_1 (by decide) (fun c1_ => ?_) (fun c1_ => ?_)
    · replace hF := ZtP c1_ hF
      exact w_X11_isHouse_b16 S hr hlk hR hdj _ _ _ _ hF hw hzz  (lv_sub hl [] rfl)
    · replace hF := ZtN c1_ hF
      refine lv_iload_n S.1 S.2.1 dX11_isHouse_4 rfl (lv_at hl 1 rfl) ?_
      refine lv_aload_n S.1 S.2.1 dX11_isHouse_5 rfl (lv_at hl 0 rfl) ?_
      refine gg_X11_193 S hw dX11_isHouse_6 ?_
      refine Yicmp_ge (tgt := 16) S hx1 (hzz.1 68 12 (by decide)) dX11_isHouse_9 (by decide) (fun c2_ => ?_) (fun c2_ => ?_)
      · replace hF := ZtP c2_ hF
        exact w_X11_isHouse_b16 S hr hlk hR hdj _ _ _ _ hF hw hzz  (lv_sub hl [] rfl)
      · replace hF := ZtN c2_ hF
        refine lv_iconst (v := i32 1) S.1 S.2.1 dX11_isHouse_12 ic_1 ?_
        refine lv_goto (tgt := 17) S.1 S.2.1 dX11_isHouse_13 (by decide) ?_
        exact w_X11_isHouse_b17 S hr hlk hR hdj _ _ _ _ _ hF hw hzz r_1 (lv_sub hl [] rfl))
set_option maxRecDepth 100000 in
set_option maxHeartbeats 4000000 in
theorem c_X11_card {l : Launch} {D : va_G} {cA : Nat → ClassId} {ad : Nat → Nat} (hdj : Zdj ad) {z z1 : ZI} {x1 : Int} {r : Int} (hzz : Zok z) (hx1 : InR x1) (hF : F_X11_card z x1 = some (r, z1)) : YMi l D cA ad (1) yX11_card cX11_card 2 (some .int) [.ref (ad 68), .int (i32 x1)] z r z1 :=
  Zmet hdj (by decide) rfl (Nat.le_of_ble_eq_true rfl) (lv := [(0, .ref (ad 68)), (1, .int (i32 (x1)))]) rfl (fun p e s m args below meth c ls S hr hlk hw hl => by
    have hR : 1 ≤ (Zrm (1)).frames ∧ 60 * (1) ≤ (Zrm (1)).locals := ⟨Nat.le_refl _, Nat.le_refl _⟩
    unfold F_X11_card at hF
    revert hR
    generalize Zrm (1) = R
    intro hR
    refine lv_aload_n S.1 S.2.1 dX11_card_0 rfl (lv_at hl 0 rfl) ?_
    refine lv_iload_n S.1 S.2.1 dX11_card_1 rfl (lv_at hl 1 rfl) ?_
    obtain ⟨r3_, z1_, h2_, hF⟩ := Ybs hF
    refine YcallVi (rest := []) S hw (c_X11_isHouse hdj hzz hx1 h2_) my_X11_isHouse mi_X11_isHouse ml_X11_233 zd_68 zc_X11 rfl (Zrr hR (by decide)) ⟨Nat.zero_le _, Nat.zero_le _⟩ hl.1 rfl rfl (Nat.le_of_ble_eq_true rfl) dX11_card_2 (fun hrr3_ hzz1_ H locs hw => ?_)
    refine Yif_ne (tgt := 14) S hrr3_ dX11_card_5 (by decide) (fun c4_ => ?_) (fun c4_ => ?_)
    · replace hF := ZtN c4_ hF
      refine lv_aload_n S.1 S.2.1 dX11_card_14 rfl (lv_at hl 0 rfl) ?_
      refine gg_X11_320 S hw dX11_card_15 ?_
      refine lv_bipush (v := i32 40) S.1 S.2.1 dX11_card_18 bp_40 ?_
      refine Yicmp_ne (tgt := 30) S (hzz1_.1 68 34 (by decide)) r_40 dX11_card_20 (by decide) (fun c5_ => ?_) (fun c5_ => ?_)
      · replace hF := ZtN c5_ hF
        refine lv_aload_n S.1 S.2.1 dX11_card_30 rfl (lv_at hl 0 rfl) ?_
        refine gf_X11_68 S hw dX11_card_31 ?_
        refine lv_aload_n S.1 S.2.1 dX11_card_34 rfl (lv_at hl 0 rfl) ?_
        refine gg_X11_320 S hw dX11_card_35 ?_
        refine lv_iload_n S.1 S.2.1 dX11_card_38 rfl (lv_at hl 1 rfl) ?_
        obtain ⟨b6_, hF⟩ := Zgs hF
        refine Yiast S hw hzz1_ zd_88 (by decide) (hzz1_.1 68 34 (by decide)) hx1 b6_ dX11_card_39 (fun z7_ H locs ez hzz7_ hw => ?_)
        replace hF := Zle ez hF; clear ez
        refine lv_aload_n S.1 S.2.1 dX11_card_40 rfl (lv_at hl 0 rfl) ?_
        refine gf_X11_71 S hw dX11_card_41 ?_
        refine lv_aload_n S.1 S.2.1 dX11_card_44 rfl (lv_at hl 0 rfl) ?_
        refine gg_X11_320 S hw dX11_card_45 ?_
        refine lv_aload_n S.1 S.2.1 dX11_card_48 rfl (lv_at hl 0 rfl) ?_
        refine gg_X11_200 S hw dX11_card_49 ?_
        obtain ⟨b8_, hF⟩ := Zgs hF
        refine Yiast S hw hzz7_ zd_89 (by decide) (hzz7_.1 68 34 (by decide)) (hzz7_.1 68 11 (by decide)) b8_ dX11_card_52 (fun z9_ H locs ez hzz9_ hw => ?_)
        replace hF := Zle ez hF; clear ez
        refine lv_aload_n S.1 S.2.1 dX11_card_53 rfl (lv_at hl 0 rfl) ?_
        refine gf_X11_74 S hw dX11_card_54 ?_
        refine lv_aload_n S.1 S.2.1 dX11_card_57 rfl (lv_at hl 0 rfl) ?_
        refine gg_X11_320 S hw dX11_card_58 ?_
        refine lv_iconst (v := i32 (-1)) S.1 S.2.1 dX11_card_61 ic_m1 ?_
        obtain ⟨b10_, hF⟩ := Zgs hF
        refine Yiast S hw hzz9_ zd_90 (by decide) (hzz9_.1 68 34 (by decide)) r_m1 b10_ dX11_card_62 (fun z11_ H locs ez hzz11_ hw => ?_)
        replace hF := Zle ez hF; clear ez
        refine lv_aload_n S.1 S.2.1 dX11_card_63 rfl (lv_at hl 0 rfl) ?_
        refine lv_dup S.1 S.2.1 dX11_card_64 rfl ?_
        refine gg_X11_320 S hw dX11_card_65 ?_
        refine lv_iconst (v := i32 1) S.1 S.2.1 dX11_card_68 ic_1 ?_
        obtain ⟨g12_, hF⟩ := Zgs hF
        refine Yiadd S dX11_card_69 ?_
        refine pp_X11_320 S hw hzz11_ g12_ dX11_card_70 (fun z13_ H locs ez hzz13_ hw => ?_)
        replace hF := Zle ez hF; clear ez
        refine lv_aload_n S.1 S.2.1 dX11_card_73 rfl (lv_at hl 0 rfl) ?_
        refine gg_X11_320 S hw dX11_card_74 ?_
        refine lv_iconst (v := i32 1) S.1 S.2.1 dX11_card_77 ic_1 ?_
        obtain ⟨g14_, hF⟩ := Zgs hF
        refine Yisub S dX11_card_78 ?_
        exact Yireti S hw hzz13_ g14_ hr hlk hF dX11_card_79
      · replace hF := ZtP c5_ hF
        refine lv_aload_n S.1 S.2.1 dX11_card_23 rfl (lv_at hl 0 rfl) ?_
        refine lv_bipush (v := i32 (-6)) S.1 S.2.1 dX11_card_24 bp_m6 ?_
        obtain ⟨r17_, z15_, h16_, hF⟩ := Ybs hF
        refine YcallVi (rest := []) S hw (c_X11_no hdj hzz1_ r_m6 h16_) my_X11_no mi_X11_no ml_X11_207 zd_68 zc_X11 rfl (Zrr hR (by decide)) ⟨Nat.zero_le _, Nat.zero_le _⟩ hl.1 rfl rfl (Nat.le_of_ble_eq_true rfl) dX11_card_26 (fun hrr17_ hzz15_ H locs hw => ?_)
        exact Yireti S hw hzz15_ hrr17_ hr hlk hF dX11_card_29
    · replace hF := ZtP c4_ hF
      refine lv_aload_n S.1 S.2.1 dX11_card_8 rfl (lv_at hl 0 rfl) ?_
      refine lv_iconst (v := i32 (-1)) S.1 S.2.1 dX11_card_9 ic_m1 ?_
      obtain ⟨r20_, z18_, h19_, hF⟩ := Ybs hF
      refine YcallVi (rest := []) S hw (c_X11_no hdj hzz1_ r_m1 h19_) my_X11_no mi_X11_no ml_X11_207 zd_68 zc_X11 rfl (Zrr hR (by decide)) ⟨Nat.zero_le _, Nat.zero_le _⟩ hl.1 rfl rfl (Nat.le_of_ble_eq_true rfl) dX11_card_10 (fun hrr20_ hzz18_ H locs hw => ?_)
      exact Yireti S hw hzz18_ hrr20_ hr hlk hF dX11_card_13)
set_option maxRecDepth 100000 in
set_option maxHeartbeats 4000000 in
theorem w_X11_clears_b122 {RR : Unit × ZI} (S : CallFix p m c cX11_clears 3 s args Ztbl RX11) (hr : meth.sig.returnType = none) (hlk : meth.locks = false) (hR : 0 ≤ R.frames ∧ 60 * (0) ≤ R.locals) (hdj : Zdj ad) {k89 : ZI → Int → Option (Unit × ZI)} (hk89 : ∀ (z : ZI) (x2 : Int) (H : Heap) (locs : List Loc) (ls : Array Slot), k89 z x2 = some RR → ZW D cA ad (ZA ad) (Zc z) s H locs → Zok z → InR x2 → lv_has ls 3 [(0, .ref (ad 68)), (2, .int (i32 (x2)))] → W p l e R s m args below meth c H locs 0 0 (MQ below (YQv D cA ad RR.2) args s 0 0 (ZA ad)) (F0 m 89 ls [])) : ∀ (z : ZI) (x2 : Int) (y1 : Int) (y2 : Int) (H : Heap) (locs : List Loc) (ls : Array Slot), X11_clears_b122 k89 z x2 y1 y2 = some RR → ZW D cA ad (ZA ad) (Zc z) s H locs → Zok z → InR x2 → InR y1 → InR y2 → lv_has ls 3 [(0, .ref (ad 68)), (2, .int (i32 (x2)))] → W p l e R s m args below meth c H locs 0 0 (MQ below (YQv D cA ad RR.2) args s 0 0 (ZA ad)) (F0 m 122 ls [.int (i32 (y2)), .int (i32 (y1)), .ref (ad 118)]) := by
  intro z x2 y1 y2 H locs ls hF hw hzz hx2 hy1 hy2 hl
  unfold X11_clears_b122 at hF
  obtain ⟨b1_, hF⟩ := Zgs hF
  refine Yiast S hw hzz zd_118 (by decide) hy1 hy2 b1_ dX11_clears_122 (fun z2_ H locs ez hzz2_ hw => ?_)
  replace hF := Zle ez hF; clear ez
  obtain ⟨g3_, hF⟩ := Zgs hF
  refine lv_iinc (v := i32 (x2 + 1)) (lv' := [(2, .int (i32 (x2 + 1))), (0, .ref (ad 68))]) S.1 S.2.1 dX11_clears_123 hl (k := 1) rfl Yiinc (by decide) rfl (fun ls hl => ?_)
  refine lv_goto (tgt := 89) S.1 S.2.1 dX11_clears_126 (by decide) ?_
  exact hk89 _ _ _ _ _ hF hw hzz2_ g3_ (lv_sub hl [1, 0] rfl)
set_option maxRecDepth 100000 in
set_option maxHeartbeats 4000000 in
theorem w_X11_clears_L89 {RR : Unit × ZI} (S : CallFix p m c cX11_clears 3 s args Ztbl RX11) (hr : meth.sig.returnType = none) (hlk : meth.locks = false) (hR : 0 ≤ R.frames ∧ 60 * (0) ≤ R.locals) (hdj : Zdj ad) : ∀ (n : Nat) (z : ZI) (x2 : Int) (H : Heap) (locs : List Loc) (ls : Array Slot), X11_clears_L89 n z x2 = some RR → ZW D cA ad (ZA ad) (Zc z) s H locs → Zok z → InR x2 → lv_has ls 3 [(0, .ref (ad 68)), (2, .int (i32 (x2)))] → W p l e R s m args below meth c H locs 0 0 (MQ below (YQv D cA ad RR.2) args s 0 0 (ZA ad)) (F0 m 89 ls []) := by
  intro n
  induction n with
  | zero => intro z x2 H locs ls hF; exact nomatch hF
  | succ n hk89 =>
    intro z x2 H locs ls hF hw hzz hx2 hl
    replace hF : X11_clears_L89b (X11_clears_L89 n) z x2 = some RR := hF
    unfold X11_clears_L89b at hF
    refine lv_iload_n S.1 S.2.1 dX11_clears_89 rfl (lv_at hl 1 rfl) ?_
    refine lv_aload_n S.1 S.2.1 dX11_clears_90 rfl (lv_at hl 0 rfl) ?_
    refine gg_X11_193 S hw dX11_clears_91 ?_
    refine Yicmp_ge (tgt := 129) S hx2 (hzz.1 68 12 (by decide)) dX11_clears_94 (by decide) (fun c1_ => ?_) (fun c1_ => ?_)
    · replace hF := ZtP c1_ hF
      exact Yvret S hw hzz hr hlk hF dX11_clears_129
    · replace hF := ZtN c1_ hF
      refine lv_aload_n S.1 S.2.1 dX11_clears_97 rfl (lv_at hl 0 rfl) ?_
      refine gf_X11_159 S hw dX11_clears_98 ?_
      refine lv_aload_n S.1 S.2.1 dX11_clears_101 rfl (lv_at hl 0 rfl) ?_
      refine gf_X11_16 S hw dX11_clears_102 ?_
      refine lv_iload_n S.1 S.2.1 dX11_clears_105 rfl (lv_at hl 1 rfl) ?_
      obtain ⟨b2_, hF⟩ := Zgs hF
      refine Yiald S hw zd_71 (by decide) hx2 b2_ dX11_clears_106 ?_
      refine lv_aload_n S.1 S.2.1 dX11_clears_107 rfl (lv_at hl 0 rfl) ?_
      refine gf_X11_168 S hw dX11_clears_108 ?_
      refine lv_iload_n S.1 S.2.1 dX11_clears_111 rfl (lv_at hl 1 rfl) ?_
      obtain ⟨b3_, hF⟩ := Zgs hF
      refine Yzald S hw zd_121 (by decide) hx2 b3_ dX11_clears_112 ?_
      refine Yif_eq (tgt := 121) S (hzz.1 _ _ (by decide)) dX11_clears_113 (by decide) (fun c4_ => ?_) (fun c4_ => ?_)
      · replace hF := ZtP c4_ hF
        refine lv_iload_n S.1 S.2.1 dX11_clears_121 rfl (lv_at hl 1 rfl) ?_
        exact w_X11_clears_b122 S hr hlk hR hdj hk89 _ _ _ _ _ _ _ hF hw hzz hx2 (hzz.1 _ _ (by decide)) hx2 (lv_sub hl [0, 1] rfl)
      · replace hF := ZtN c4_ hF
        refine lv_bipush (v := i32 (-9)) S.1 S.2.1 dX11_clears_116 bp_m9 ?_
        refine lv_goto (tgt := 122) S.1 S.2.1 dX11_clears_118 (by decide) ?_
        exact w_X11_clears_b122 S hr hlk hR hdj hk89 _ _ _ _ _ _ _ hF hw hzz hx2 (hzz.1 _ _ (by decide)) r_m9 (lv_sub hl [0, 1] rfl)
set_option maxRecDepth 100000 in
set_option maxHeartbeats 4000000 in
theorem w_X11_clears_b87 {RR : Unit × ZI} (S : CallFix p m c cX11_clears 3 s args Ztbl RX11) (hr : meth.sig.returnType = none) (hlk : meth.locks = false) (hR : 0 ≤ R.frames ∧ 60 * (0) ≤ R.locals) (hdj : Zdj ad) : ∀ (z : ZI) (H : Heap) (locs : List Loc) (ls : Array Slot), X11_clears_b87 z  = some RR → ZW D cA ad (ZA ad) (Zc z) s H locs → Zok z → lv_has ls 3 [(0, .ref (ad 68))] → W p l e R s m args below meth c H locs 0 0 (MQ below (YQv D cA ad RR.2) args s 0 0 (ZA ad)) (F0 m 87 ls []) := by
  intro z  H locs ls hF hw hzz  hl
  unfold X11_clears_b87 at hF
  refine lv_iconst (v := i32 0) S.1 S.2.1 dX11_clears_87 ic_0 ?_
  refine lv_istore_n (lv' := [(2, .int (i32 (0))), (0, .ref (ad 68))]) S.1 S.2.1 dX11_clears_88 rfl hl (by decide) rfl (fun ls hl => ?_)
  exact w_X11_clears_L89 S hr hlk hR hdj Zfuel _ _ _ _ _ hF hw hzz r_0 (lv_sub hl [1, 0] rfl)
set_option maxRecDepth 100000 in
set_option maxHeartbeats 4000000 in
theorem w_X11_clears_L66 {RR : Unit × ZI} (S : CallFix p m c cX11_clears 3 s args Ztbl RX11) (hr : meth.sig.returnType = none) (hlk : meth.locks = false) (hR : 0 ≤ R.frames ∧ 60 * (0) ≤ R.locals) (hdj : Zdj ad) : ∀ (n : Nat) (z : ZI) (x2 : Int) (H : Heap) (locs : List Loc) (ls : Array Slot), X11_clears_L66 n z x2 = some RR → ZW D cA ad (ZA ad) (Zc z) s H locs → Zok z → InR x2 → lv_has ls 3 [(0, .ref (ad 68)), (2, .int (i32 (x2)))] → W p l e R s m args below meth c H locs 0 0 (MQ below (YQv D cA ad RR.2) args s 0 0 (ZA ad)) (F0 m 66 ls []) := by
  intro n
  induction n with
  | zero => intro z x2 H locs ls hF; exact nomatch hF
  | succ n hk66 =>
    intro z x2 H locs ls hF hw hzz hx2 hl
    replace hF : X11_clears_L66b (X11_clears_L66 n) z x2 = some RR := hF
    unfold X11_clears_L66b at hF
    refine lv_iload_n S.1 S.2.1 dX11_clears_66 rfl (lv_at hl 1 rfl) ?_
    refine lv_sipush (v := i32 144) S.1 S.2.1 dX11_clears_67 sp_144 ?_
    refine Yicmp_ge (tgt := 87) S hx2 r_144 dX11_clears_70 (by decide) (fun c1_ => ?_) (fun c1_ => ?_)
    · replace hF := ZtP c1_ hF
      exact w_X11_clears_b87 S hr hlk hR hdj _ _ _ _ hF hw hzz  (lv_sub hl [0] rfl)
    · replace hF := ZtN c1_ hF
      refine lv_aload_n S.1 S.2.1 dX11_clears_73 rfl (lv_at hl 0 rfl) ?_
      refine gf_X11_159 S hw dX11_clears_74 ?_
      refine lv_iload_n S.1 S.2.1 dX11_clears_77 rfl (lv_at hl 1 rfl) ?_
      refine lv_bipush (v := i32 (-9)) S.1 S.2.1 dX11_clears_78 bp_m9 ?_
      obtain ⟨b2_, hF⟩ := Zgs hF
      refine Yiast S hw hzz zd_118 (by decide) hx2 r_m9 b2_ dX11_clears_80 (fun z3_ H locs ez hzz3_ hw => ?_)
      replace hF := Zle ez hF; clear ez
      obtain ⟨g4_, hF⟩ := Zgs hF
      refine lv_iinc (v := i32 (x2 + 1)) (lv' := [(2, .int (i32 (x2 + 1))), (0, .ref (ad 68))]) S.1 S.2.1 dX11_clears_81 hl (k := 1) rfl Yiinc (by decide) rfl (fun ls hl => ?_)
      refine lv_goto (tgt := 66) S.1 S.2.1 dX11_clears_84 (by decide) ?_
      exact hk66 _ _ _ _ _ hF hw hzz3_ g4_ (lv_sub hl [1, 0] rfl)
set_option maxRecDepth 100000 in
set_option maxHeartbeats 4000000 in
theorem w_X11_clears_b64 {RR : Unit × ZI} (S : CallFix p m c cX11_clears 3 s args Ztbl RX11) (hr : meth.sig.returnType = none) (hlk : meth.locks = false) (hR : 0 ≤ R.frames ∧ 60 * (0) ≤ R.locals) (hdj : Zdj ad) : ∀ (z : ZI) (H : Heap) (locs : List Loc) (ls : Array Slot), X11_clears_b64 z  = some RR → ZW D cA ad (ZA ad) (Zc z) s H locs → Zok z → lv_has ls 3 [(0, .ref (ad 68))] → W p l e R s m args below meth c H locs 0 0 (MQ below (YQv D cA ad RR.2) args s 0 0 (ZA ad)) (F0 m 64 ls []) := by
  intro z  H locs ls hF hw hzz  hl
  unfold X11_clears_b64 at hF
  refine lv_iconst (v := i32 0) S.1 S.2.1 dX11_clears_64 ic_0 ?_
  refine lv_istore_n (lv' := [(2, .int (i32 (0))), (0, .ref (ad 68))]) S.1 S.2.1 dX11_clears_65 rfl hl (by decide) rfl (fun ls hl => ?_)
  exact w_X11_clears_L66 S hr hlk hR hdj Zfuel _ _ _ _ _ hF hw hzz r_0 (lv_sub hl [1, 0] rfl)
set_option maxRecDepth 100000 in
set_option maxHeartbeats 4000000 in
theorem w_X11_clears_b57 {RR : Unit × ZI} (S : CallFix p m c cX11_clears 3 s args Ztbl RX11) (hr : meth.sig.returnType = none) (hlk : meth.locks = false) (hR : 0 ≤ R.frames ∧ 60 * (0) ≤ R.locals) (hdj : Zdj ad) {k25 : ZI → Int → Int → Option (Unit × ZI)} (hk25 : ∀ (z : ZI) (x1 : Int) (x2 : Int) (H : Heap) (locs : List Loc) (ls : Array Slot), k25 z x1 x2 = some RR → ZW D cA ad (ZA ad) (Zc z) s H locs → Zok z → InR x1 → InR x2 → lv_has ls 3 [(0, .ref (ad 68)), (1, .int (i32 (x1))), (2, .int (i32 (x2)))] → W p l e R s m args below meth c H locs 0 0 (MQ below (YQv D cA ad RR.2) args s 0 0 (ZA ad)) (F0 m 25 ls [])) : ∀ (z : ZI) (x1 : Int) (x2 : Int) (y1 : Int) (y2 : Int) (H : Heap) (locs : List Loc) (ls : Array Slot), X11_clears_b57 k25 z x1 x2 y1 y2 = some RR → ZW D cA ad (ZA ad) (Zc z) s H locs → Zok z → InR x1 → InR x2 → InR y1 → InR y2 → lv_has ls 3 [(0, .ref (ad 68)), (1, .int (i32 (x1))), (2, .int (i32 (x2)))] → W p l e R s m args below meth c H locs 0 0 (MQ below (YQv D cA ad RR.2) args s 0 0 (ZA ad)) (F0 m 57 ls [.int (i32 (y2)), .int (i32 (y1)), .ref (ad 121)]) := by
  intro z x1 x2 y1 y2 H locs ls hF hw hzz hx1 hx2 hy1 hy2 hl
  unfold X11_clears_b57 at hF
  obtain ⟨b3_, hF⟩ := Zgs hF
  obtain ⟨b1_, hF⟩ := Zgs hF
  refine Yzast S hw hzz zd_121 (by decide) hy1 hy2 b3_ b1_ dX11_clears_57 (fun z2_ H locs ez hzz2_ hw => ?_)
  replace hF := Zle ez hF; clear ez
  obtain ⟨g4_, hF⟩ := Zgs hF
  refine lv_iinc (v := i32 (x2 + 1)) (lv' := [(2, .int (i32 (x2 + 1))), (0, .ref (ad 68)), (1, .int (i32 (x1)))]) S.1 S.2.1 dX11_clears_58 hl (k := 2) rfl Yiinc (by decide) rfl (fun ls hl => ?_)
  refine lv_goto (tgt := 25) S.1 S.2.1 dX11_clears_61 (by decide) ?_
  exact hk25 _ _ _ _ _ _ hF hw hzz2_ hx1 g4_ (lv_sub hl [1, 2, 0] rfl)
set_option maxRecDepth 100000 in
set_option maxHeartbeats 4000000 in
theorem w_X11_clears_L25 {RR : Unit × ZI} (S : CallFix p m c cX11_clears 3 s args Ztbl RX11) (hr : meth.sig.returnType = none) (hlk : meth.locks = false) (hR : 0 ≤ R.frames ∧ 60 * (0) ≤ R.locals) (hdj : Zdj ad) : ∀ (n : Nat) (z : ZI) (x1 : Int) (x2 : Int) (H : Heap) (locs : List Loc) (ls : Array Slot), X11_clears_L25 n z x1 x2 = some RR → ZW D cA ad (ZA ad) (Zc z) s H locs → Zok z → InR x1 → InR x2 → lv_has ls 3 [(0, .ref (ad 68)), (1, .int (i32 (x1))), (2, .int (i32 (x2)))] → W p l e R s m args below meth c H locs 0 0 (MQ below (YQv D cA ad RR.2) args s 0 0 (ZA ad)) (F0 m 25 ls []) := by
  intro n
  induction n with
  | zero => intro z x1 x2 H locs ls hF; exact nomatch hF
  | succ n hk25 =>
    intro z x1 x2 H locs ls hF hw hzz hx1 hx2 hl
    replace hF : X11_clears_L25b (X11_clears_L25 n) z x1 x2 = some RR := hF
    unfold X11_clears_L25b at hF
    refine lv_iload_n S.1 S.2.1 dX11_clears_25 rfl (lv_at hl 2 rfl) ?_
    refine lv_aload_n S.1 S.2.1 dX11_clears_26 rfl (lv_at hl 0 rfl) ?_
    refine gg_X11_427 S hw dX11_clears_27 ?_
    refine Yicmp_ge (tgt := 64) S hx2 (hzz.1 68 70 (by decide)) dX11_clears_30 (by decide) (fun c1_ => ?_) (fun c1_ => ?_)
    · replace hF := ZtP c1_ hF
      exact w_X11_clears_b64 S hr hlk hR hdj _ _ _ _ hF hw hzz  (lv_sub hl [0] rfl)
    · replace hF := ZtN c1_ hF
      refine lv_aload_n S.1 S.2.1 dX11_clears_33 rfl (lv_at hl 0 rfl) ?_
      refine gf_X11_168 S hw dX11_clears_34 ?_
      refine lv_aload_n S.1 S.2.1 dX11_clears_37 rfl (lv_at hl 0 rfl) ?_
      refine gf_X11_153 S hw dX11_clears_38 ?_
      refine lv_iload_n S.1 S.2.1 dX11_clears_41 rfl (lv_at hl 2 rfl) ?_
      obtain ⟨b2_, hF⟩ := Zgs hF
      refine Yiald S hw zd_116 (by decide) hx2 b2_ dX11_clears_42 ?_
      refine lv_iload_n S.1 S.2.1 dX11_clears_43 rfl (lv_at hl 1 rfl) ?_
      refine lv_iload_n S.1 S.2.1 dX11_clears_44 rfl (lv_at hl 2 rfl) ?_
      refine Yishr S dX11_clears_45 ?_
      refine lv_iconst (v := i32 1) S.1 S.2.1 dX11_clears_46 ic_1 ?_
      refine Yiand S dX11_clears_47 ?_
      refine lv_iconst (v := i32 1) S.1 S.2.1 dX11_clears_48 ic_1 ?_
      refine Yicmp_ne (tgt := 56) S (InR_of _) r_1 dX11_clears_49 (by decide) (fun c3_ => ?_) (fun c3_ => ?_)
      · replace hF := ZtN c3_ hF
        refine lv_iconst (v := i32 0) S.1 S.2.1 dX11_clears_56 ic_0 ?_
        exact w_X11_clears_b57 S hr hlk hR hdj hk25 _ _ _ _ _ _ _ _ hF hw hzz hx1 hx2 (hzz.1 _ _ (by decide)) r_0 (lv_sub hl [0, 1, 2] rfl)
      · replace hF := ZtP c3_ hF
        refine lv_iconst (v := i32 1) S.1 S.2.1 dX11_clears_52 ic_1 ?_
        refine lv_goto (tgt := 57) S.1 S.2.1 dX11_clears_53 (by decide) ?_
        exact w_X11_clears_b57 S hr hlk hR hdj hk25 _ _ _ _ _ _ _ _ hF hw hzz hx1 hx2 (hzz.1 _ _ (by decide)) r_1 (lv_sub hl [0, 1, 2] rfl)
set_option maxRecDepth 100000 in
set_option maxHeartbeats 4000000 in
theorem w_X11_clears_b23 {RR : Unit × ZI} (S : CallFix p m c cX11_clears 3 s args Ztbl RX11) (hr : meth.sig.returnType = none) (hlk : meth.locks = false) (hR : 0 ≤ R.frames ∧ 60 * (0) ≤ R.locals) (hdj : Zdj ad) : ∀ (z : ZI) (x1 : Int) (H : Heap) (locs : List Loc) (ls : Array Slot), X11_clears_b23 z x1 = some RR → ZW D cA ad (ZA ad) (Zc z) s H locs → Zok z → InR x1 → lv_has ls 3 [(0, .ref (ad 68)), (1, .int (i32 (x1)))] → W p l e R s m args below meth c H locs 0 0 (MQ below (YQv D cA ad RR.2) args s 0 0 (ZA ad)) (F0 m 23 ls []) := by
  intro z x1 H locs ls hF hw hzz hx1 hl
  unfold X11_clears_b23 at hF
  refine lv_iconst (v := i32 0) S.1 S.2.1 dX11_clears_23 ic_0 ?_
  refine lv_istore_n (lv' := [(2, .int (i32 (0))), (0, .ref (ad 68)), (1, .int (i32 (x1)))]) S.1 S.2.1 dX11_clears_24 rfl hl (by decide) rfl (fun ls hl => ?_)
  exact w_X11_clears_L25 S hr hlk hR hdj Zfuel _ _ _ _ _ _ hF hw hzz hx1 r_0 (lv_sub hl [1, 2, 0] rfl)
set_option maxRecDepth 100000 in
set_option maxHeartbeats 4000000 in
theorem w_X11_clears_L2 {RR : Unit × ZI} (S : CallFix p m c cX11_clears 3 s args Ztbl RX11) (hr : meth.sig.returnType = none) (hlk : meth.locks = false) (hR : 0 ≤ R.frames ∧ 60 * (0) ≤ R.locals) (hdj : Zdj ad) : ∀ (n : Nat) (z : ZI) (x1 : Int) (x2 : Int) (H : Heap) (locs : List Loc) (ls : Array Slot), X11_clears_L2 n z x1 x2 = some RR → ZW D cA ad (ZA ad) (Zc z) s H locs → Zok z → InR x1 → InR x2 → lv_has ls 3 [(0, .ref (ad 68)), (1, .int (i32 (x1))), (2, .int (i32 (x2)))] → W p l e R s m args below meth c H locs 0 0 (MQ below (YQv D cA ad RR.2) args s 0 0 (ZA ad)) (F0 m 2 ls []) := by
  intro n
  induction n with
  | zero => intro z x1 x2 H locs ls hF; exact nomatch hF
  | succ n hk2 =>
    intro z x1 x2 H locs ls hF hw hzz hx1 hx2 hl
    replace hF : X11_clears_L2b (X11_clears_L2 n) z x1 x2 = some RR := hF
    unfold X11_clears_L2b at hF
    refine lv_iload_n S.1 S.2.1 dX11_clears_2 rfl (lv_at hl 2 rfl) ?_
    refine lv_aload_n S.1 S.2.1 dX11_clears_3 rfl (lv_at hl 0 rfl) ?_
    refine gg_X11_193 S hw dX11_clears_4 ?_
    refine Yicmp_ge (tgt := 23) S hx2 (hzz.1 68 12 (by decide)) dX11_clears_7 (by decide) (fun c1_ => ?_) (fun c1_ => ?_)
    · replace hF := ZtP c1_ hF
      exact w_X11_clears_b23 S hr hlk hR hdj _ _ _ _ _ hF hw hzz hx1 (lv_sub hl [0, 1] rfl)
    · replace hF := ZtN c1_ hF
      refine lv_aload_n S.1 S.2.1 dX11_clears_10 rfl (lv_at hl 0 rfl) ?_
      refine gf_X11_168 S hw dX11_clears_11 ?_
      refine lv_iload_n S.1 S.2.1 dX11_clears_14 rfl (lv_at hl 2 rfl) ?_
      refine lv_iconst (v := i32 0) S.1 S.2.1 dX11_clears_15 ic_0 ?_
      obtain ⟨b2_, hF⟩ := Zgs hF
      refine Yzast S hw hzz zd_121 (by decide) hx2 r_0 (Or.inl rfl) b2_ dX11_clears_16 (fun z3_ H locs ez hzz3_ hw => ?_)
      replace hF := Zle ez hF; clear ez
      obtain ⟨g4_, hF⟩ := Zgs hF
      refine lv_iinc (v := i32 (x2 + 1)) (lv' := [(2, .int (i32 (x2 + 1))), (0, .ref (ad 68)), (1, .int (i32 (x1)))]) S.1 S.2.1 dX11_clears_17 hl (k := 2) rfl Yiinc (by decide) rfl (fun ls hl => ?_)
      refine lv_goto (tgt := 2) S.1 S.2.1 dX11_clears_20 (by decide) ?_
      exact hk2 _ _ _ _ _ _ hF hw hzz3_ hx1 g4_ (lv_sub hl [1, 2, 0] rfl)
set_option maxRecDepth 100000 in
set_option maxHeartbeats 4000000 in
theorem c_X11_clears {l : Launch} {D : va_G} {cA : Nat → ClassId} {ad : Nat → Nat} (hdj : Zdj ad) {z z1 : ZI} {x1 : Int} (hzz : Zok z) (hx1 : InR x1) (hF : F_X11_clears z x1 = some ((), z1)) : YMv l D cA ad (0) yX11_clears cX11_clears 3 [.ref (ad 68), .int (i32 x1)] z z1 :=
  Zmet hdj (by decide) rfl (Nat.le_of_ble_eq_true rfl) (lv := [(0, .ref (ad 68)), (1, .int (i32 (x1)))]) rfl (fun p e s m args below meth c ls S hr hlk hw hl => by
    have hR : 0 ≤ (Zrm (0)).frames ∧ 60 * (0) ≤ (Zrm (0)).locals := ⟨Nat.le_refl _, Nat.le_refl _⟩
    unfold F_X11_clears at hF
    revert hR
    generalize Zrm (0) = R
    intro hR
    refine lv_iconst (v := i32 0) S.1 S.2.1 dX11_clears_0 ic_0 ?_
    refine lv_istore_n (lv' := [(2, .int (i32 (0))), (0, .ref (ad 68)), (1, .int (i32 (x1)))]) S.1 S.2.1 dX11_clears_1 rfl hl (by decide) rfl (fun ls hl => ?_)
    exact w_X11_clears_L2 S hr hlk hR hdj Zfuel _ _ _ _ _ _ hF hw hzz hx1 r_0 (lv_sub hl [1, 2, 0] rfl))
set_option maxRecDepth 100000 in
set_option maxHeartbeats 4000000 in
theorem w_X11_count_b62 {RR : Int × ZI} (S : CallFix p m c cX11_count 5 s args Ztbl RX11) (hr : meth.sig.returnType = some .int) (hlk : meth.locks = false) (hR : 1 ≤ R.frames ∧ 60 * (1) ≤ R.locals) (hdj : Zdj ad) : ∀ (z : ZI) (x1 : Int) (x2 : Int) (x3 : Int) (y0 : Int) (H : Heap) (locs : List Loc) (ls : Array Slot), X11_count_b62 z x1 x2 x3 y0 = some RR → ZW D cA ad (ZA ad) (Zc z) s H locs → Zok z → InR x1 → InR x2 → InR x3 → InR y0 → lv_has ls 5 [(0, .ref (ad 68)), (1, .int (i32 (x1))), (2, .int (i32 (x2))), (3, .int (i32 (x3)))] → W p l e R s m args below meth c H locs 0 0 (MQ below (YQi D cA ad RR.1 RR.2) args s 0 0 (ZA ad)) (F0 m 62 ls [.int (i32 (y0))]) := by
  intro z x1 x2 x3 y0 H locs ls hF hw hzz hx1 hx2 hx3 hy0 hl
  unfold X11_count_b62 at hF
  refine lv_istore (lv' := [(4, .int (i32 (y0))), (0, .ref (ad 68)), (1, .int (i32 (x1))), (2, .int (i32 (x2))), (3, .int (i32 (x3)))]) S.1 S.2.1 dX11_count_62 hl (by decide) rfl (fun ls hl => ?_)
  refine lv_iload S.1 S.2.1 dX11_count_64 (lv_at hl 0 rfl) ?_
  refine Yif_eq (tgt := 76) S hy0 dX11_count_66 (by decide) (fun c1_ => ?_) (fun c1_ => ?_)
  · replace hF := ZtP c1_ hF
    refine lv_aload_n S.1 S.2.1 dX11_count_76 rfl (lv_at hl 1 rfl) ?_
    refine gf_X11_180 S hw dX11_count_77 ?_
    refine lv_aload_n S.1 S.2.1 dX11_count_80 rfl (lv_at hl 1 rfl) ?_
    refine gg_X11_456 S hw dX11_count_81 ?_
    refine lv_iload_n S.1 S.2.1 dX11_count_84 rfl (lv_at hl 2 rfl) ?_
    obtain ⟨b2_, hF⟩ := Zgs hF
    refine Yiast S hw hzz zd_125 (by decide) (hzz.1 68 79 (by decide)) hx1 b2_ dX11_count_85 (fun z3_ H locs ez hzz3_ hw => ?_)
    replace hF := Zle ez hF; clear ez
    refine lv_aload_n S.1 S.2.1 dX11_count_86 rfl (lv_at hl 1 rfl) ?_
    refine gf_X11_183 S hw dX11_count_87 ?_
    refine lv_aload_n S.1 S.2.1 dX11_count_90 rfl (lv_at hl 1 rfl) ?_
    refine gg_X11_456 S hw dX11_count_91 ?_
    refine lv_iload_n S.1 S.2.1 dX11_count_94 rfl (lv_at hl 3 rfl) ?_
    obtain ⟨b4_, hF⟩ := Zgs hF
    refine Yiast S hw hzz3_ zd_126 (by decide) (hzz3_.1 68 79 (by decide)) hx2 b4_ dX11_count_95 (fun z5_ H locs ez hzz5_ hw => ?_)
    replace hF := Zle ez hF; clear ez
    refine lv_aload_n S.1 S.2.1 dX11_count_96 rfl (lv_at hl 1 rfl) ?_
    refine gf_X11_186 S hw dX11_count_97 ?_
    refine lv_aload_n S.1 S.2.1 dX11_count_100 rfl (lv_at hl 1 rfl) ?_
    refine gg_X11_456 S hw dX11_count_101 ?_
    refine lv_iload_n S.1 S.2.1 dX11_count_104 rfl (lv_at hl 4 rfl) ?_
    obtain ⟨b6_, hF⟩ := Zgs hF
    refine Yiast S hw hzz5_ zd_127 (by decide) (hzz5_.1 68 79 (by decide)) hx3 b6_ dX11_count_105 (fun z7_ H locs ez hzz7_ hw => ?_)
    replace hF := Zle ez hF; clear ez
    refine lv_aload_n S.1 S.2.1 dX11_count_106 rfl (lv_at hl 1 rfl) ?_
    refine gf_X11_189 S hw dX11_count_107 ?_
    refine lv_aload_n S.1 S.2.1 dX11_count_110 rfl (lv_at hl 1 rfl) ?_
    refine gg_X11_456 S hw dX11_count_111 ?_
    refine lv_aload_n S.1 S.2.1 dX11_count_114 rfl (lv_at hl 1 rfl) ?_
    refine gg_X11_200 S hw dX11_count_115 ?_
    obtain ⟨b8_, hF⟩ := Zgs hF
    refine Yiast S hw hzz7_ zd_128 (by decide) (hzz7_.1 68 79 (by decide)) (hzz7_.1 68 11 (by decide)) b8_ dX11_count_118 (fun z9_ H locs ez hzz9_ hw => ?_)
    replace hF := Zle ez hF; clear ez
    refine lv_aload_n S.1 S.2.1 dX11_count_119 rfl (lv_at hl 1 rfl) ?_
    refine lv_dup S.1 S.2.1 dX11_count_120 rfl ?_
    refine gg_X11_456 S hw dX11_count_121 ?_
    refine lv_iconst (v := i32 1) S.1 S.2.1 dX11_count_124 ic_1 ?_
    obtain ⟨g10_, hF⟩ := Zgs hF
    refine Yiadd S dX11_count_125 ?_
    refine pp_X11_456 S hw hzz9_ g10_ dX11_count_126 (fun z11_ H locs ez hzz11_ hw => ?_)
    replace hF := Zle ez hF; clear ez
    refine lv_aload_n S.1 S.2.1 dX11_count_129 rfl (lv_at hl 1 rfl) ?_
    refine gg_X11_456 S hw dX11_count_130 ?_
    exact Yireti S hw hzz11_ (hzz11_.1 68 79 (by decide)) hr hlk hF dX11_count_133
  · replace hF := ZtN c1_ hF
    refine lv_aload_n S.1 S.2.1 dX11_count_69 rfl (lv_at hl 1 rfl) ?_
    refine lv_iload S.1 S.2.1 dX11_count_70 (lv_at hl 0 rfl) ?_
    obtain ⟨r14_, z12_, h13_, hF⟩ := Ybs hF
    refine YcallVi (rest := []) S hw (c_X11_no hdj hzz hy0 h13_) my_X11_no mi_X11_no ml_X11_207 zd_68 zc_X11 rfl (Zrr hR (by decide)) ⟨Nat.zero_le _, Nat.zero_le _⟩ hl.1 rfl rfl (Nat.le_of_ble_eq_true rfl) dX11_count_72 (fun hrr14_ hzz12_ H locs hw => ?_)
    exact Yireti S hw hzz12_ hrr14_ hr hlk hF dX11_count_75
set_option maxRecDepth 100000 in
set_option maxHeartbeats 4000000 in
theorem w_X11_count_b27 {RR : Int × ZI} (S : CallFix p m c cX11_count 5 s args Ztbl RX11) (hr : meth.sig.returnType = some .int) (hlk : meth.locks = false) (hR : 1 ≤ R.frames ∧ 60 * (1) ≤ R.locals) (hdj : Zdj ad) : ∀ (z : ZI) (x1 : Int) (x2 : Int) (x3 : Int) (H : Heap) (locs : List Loc) (ls : Array Slot), X11_count_b27 z x1 x2 x3 = some RR → ZW D cA ad (ZA ad) (Zc z) s H locs → Zok z → InR x1 → InR x2 → InR x3 → lv_has ls 5 [(0, .ref (ad 68)), (1, .int (i32 (x1))), (2, .int (i32 (x2))), (3, .int (i32 (x3)))] → W p l e R s m args below meth c H locs 0 0 (MQ below (YQi D cA ad RR.1 RR.2) args s 0 0 (ZA ad)) (F0 m 27 ls []) := by
  intro z x1 x2 x3 H locs ls hF hw hzz hx1 hx2 hx3 hl
  unfold X11_count_b27 at hF
  refine lv_bipush (v := i32 (-4)) S.1 S.2.1 dX11_count_27 bp_m4 ?_
  refine lv_goto (tgt := 62) S.1 S.2.1 dX11_count_29 (by decide) ?_
  exact w_X11_count_b62 S hr hlk hR hdj _ _ _ _ _ _ _ _ hF hw hzz hx1 hx2 hx3 r_m4 (lv_sub hl [0, 1, 2, 3] rfl)
set_option maxRecDepth 100000 in
set_option maxHeartbeats 4000000 in
theorem w_X11_count_b56 {RR : Int × ZI} (S : CallFix p m c cX11_count 5 s args Ztbl RX11) (hr : meth.sig.returnType = some .int) (hlk : meth.locks = false) (hR : 1 ≤ R.frames ∧ 60 * (1) ≤ R.locals) (hdj : Zdj ad) : ∀ (z : ZI) (x1 : Int) (x2 : Int) (x3 : Int) (H : Heap) (locs : List Loc) (ls : Array Slot), X11_count_b56 z x1 x2 x3 = some RR → ZW D cA ad (ZA ad) (Zc z) s H locs → Zok z → InR x1 → InR x2 → InR x3 → lv_has ls 5 [(0, .ref (ad 68)), (1, .int (i32 (x1))), (2, .int (i32 (x2))), (3, .int (i32 (x3)))] → W p l e R s m args below meth c H locs 0 0 (MQ below (YQi D cA ad RR.1 RR.2) args s 0 0 (ZA ad)) (F0 m 56 ls []) := by
  intro z x1 x2 x3 H locs ls hF hw hzz hx1 hx2 hx3 hl
  unfold X11_count_b56 at hF
  refine lv_bipush (v := i32 (-6)) S.1 S.2.1 dX11_count_56 bp_m6 ?_
  refine lv_goto (tgt := 62) S.1 S.2.1 dX11_count_58 (by decide) ?_
  exact w_X11_count_b62 S hr hlk hR hdj _ _ _ _ _ _ _ _ hF hw hzz hx1 hx2 hx3 r_m6 (lv_sub hl [0, 1, 2, 3] rfl)
set_option maxRecDepth 100000 in
set_option maxHeartbeats 4000000 in
theorem c_X11_count {l : Launch} {D : va_G} {cA : Nat → ClassId} {ad : Nat → Nat} (hdj : Zdj ad) {z z1 : ZI} {x1 : Int} {x2 : Int} {x3 : Int} {r : Int} (hzz : Zok z) (hx1 : InR x1) (hx2 : InR x2) (hx3 : InR x3) (hF : F_X11_count z x1 x2 x3 = some (r, z1)) : YMi l D cA ad (1) yX11_count cX11_count 5 (some .int) [.ref (ad 68), .int (i32 x1), .int (i32 x2), .int (i32 x3)] z r z1 :=
  Zmet hdj (by decide) rfl (Nat.le_of_ble_eq_true rfl) (lv := [(0, .ref (ad 68)), (1, .int (i32 (x1))), (2, .int (i32 (x2))), (3, .int (i32 (x3)))]) rfl (fun p e s m args below meth c ls S hr hlk hw hl => by
    have hR : 1 ≤ (Zrm (1)).frames ∧ 60 * (1) ≤ (Zrm (1)).locals := ⟨Nat.le_refl _, Nat.le_refl _⟩
    unfold F_X11_count at hF
    revert hR
    generalize Zrm (1) = R
    intro hR
    refine lv_iload_n S.1 S.2.1 dX11_count_0 rfl (lv_at hl 1 rfl) ?_
    refine Yi2l S hx1 dX11_count_1 ?_
    refine lv_lconst (v := i64 0) S.1 S.2.1 dX11_count_2 lc_0 ?_
    refine lv_ldc2 (own := RX11) (v := i64 3) S.1 S.2.1 S.2.2.2.1 (S.2.2.2.2 _ yl_X11_224) dX11_count_3 ?_
    obtain ⟨r3_, z1_, h2_, hF⟩ := Ybs hF
    refine YcallSi (rest := []) S hw (c_X11_isIn hdj hzz (InR_L hx1) (InR_L r_0) (InR_L r_3) h2_) my_X11_isIn ms_X11_isIn ml_X11_226 (Zrr hR (by decide)) ⟨Nat.zero_le _, Nat.zero_le _⟩ hl.1 rfl rfl (Nat.le_of_ble_eq_true rfl) dX11_count_6 (fun hrr3_ hzz1_ H locs hw => ?_)
    refine Yif_ne (tgt := 18) S hrr3_ dX11_count_9 (by decide) (fun c4_ => ?_) (fun c4_ => ?_)
    · replace hF := ZtN c4_ hF
      refine lv_iload_n S.1 S.2.1 dX11_count_18 rfl (lv_at hl 2 rfl) ?_
      refine Yif_lt (tgt := 27) S hx2 dX11_count_19 (by decide) (fun c5_ => ?_) (fun c5_ => ?_)
      · replace hF := ZtP c5_ hF
        exact w_X11_count_b27 S hr hlk hR hdj _ _ _ _ _ _ _ hF hw hzz1_ hx1 hx2 hx3 (lv_sub hl [0, 1, 2, 3] rfl)
      · replace hF := ZtN c5_ hF
        refine lv_iload_n S.1 S.2.1 dX11_count_22 rfl (lv_at hl 3 rfl) ?_
        refine lv_iconst (v := i32 (-1)) S.1 S.2.1 dX11_count_23 ic_m1 ?_
        refine Yicmp_ge (tgt := 32) S hx3 r_m1 dX11_count_24 (by decide) (fun c6_ => ?_) (fun c6_ => ?_)
        · replace hF := ZtP c6_ hF
          refine lv_iload_n S.1 S.2.1 dX11_count_32 rfl (lv_at hl 2 rfl) ?_
          refine lv_aload_n S.1 S.2.1 dX11_count_33 rfl (lv_at hl 0 rfl) ?_
          refine gg_X11_200 S hw dX11_count_34 ?_
          refine Yicmp_gt (tgt := 56) S hx2 (hzz1_.1 68 11 (by decide)) dX11_count_37 (by decide) (fun c7_ => ?_) (fun c7_ => ?_)
          · replace hF := ZtP c7_ hF
            exact w_X11_count_b56 S hr hlk hR hdj _ _ _ _ _ _ _ hF hw hzz1_ hx1 hx2 hx3 (lv_sub hl [0, 1, 2, 3] rfl)
          · replace hF := ZtN c7_ hF
            refine lv_iload_n S.1 S.2.1 dX11_count_40 rfl (lv_at hl 3 rfl) ?_
            refine lv_sipush (v := i32 9999) S.1 S.2.1 dX11_count_41 sp_9999 ?_
            refine Yicmp_gt (tgt := 56) S hx3 r_9999 dX11_count_44 (by decide) (fun c8_ => ?_) (fun c8_ => ?_)
            · replace hF := ZtP c8_ hF
              exact w_X11_count_b56 S hr hlk hR hdj _ _ _ _ _ _ _ hF hw hzz1_ hx1 hx2 hx3 (lv_sub hl [0, 1, 2, 3] rfl)
            · replace hF := ZtN c8_ hF
              refine lv_aload_n S.1 S.2.1 dX11_count_47 rfl (lv_at hl 0 rfl) ?_
              refine gg_X11_456 S hw dX11_count_48 ?_
              refine lv_bipush (v := i32 40) S.1 S.2.1 dX11_count_51 bp_40 ?_
              refine Yicmp_ne (tgt := 61) S (hzz1_.1 68 79 (by decide)) r_40 dX11_count_53 (by decide) (fun c9_ => ?_) (fun c9_ => ?_)
              · replace hF := ZtN c9_ hF
                refine lv_iconst (v := i32 0) S.1 S.2.1 dX11_count_61 ic_0 ?_
                exact w_X11_count_b62 S hr hlk hR hdj _ _ _ _ _ _ _ _ hF hw hzz1_ hx1 hx2 hx3 r_0 (lv_sub hl [0, 1, 2, 3] rfl)
              · replace hF := ZtP c9_ hF
                exact w_X11_count_b56 S hr hlk hR hdj _ _ _ _ _ _ _ hF hw hzz1_ hx1 hx2 hx3 (lv_sub hl [0, 1, 2, 3] rfl)
        · replace hF := ZtN c6_ hF
          exact w_X11_count_b27 S hr hlk hR hdj _ _ _ _ _ _ _ hF hw hzz1_ hx1 hx2 hx3 (lv_sub hl [0, 1, 2, 3] rfl)
    · replace hF := ZtP c4_ hF
      refine lv_aload_n S.1 S.2.1 dX11_count_12 rfl (lv_at hl 0 rfl) ?_
      refine lv_iconst (v := i32 (-1)) S.1 S.2.1 dX11_count_13 ic_m1 ?_
      obtain ⟨r12_, z10_, h11_, hF⟩ := Ybs hF
      refine YcallVi (rest := []) S hw (c_X11_no hdj hzz1_ r_m1 h11_) my_X11_no mi_X11_no ml_X11_207 zd_68 zc_X11 rfl (Zrr hR (by decide)) ⟨Nat.zero_le _, Nat.zero_le _⟩ hl.1 rfl rfl (Nat.le_of_ble_eq_true rfl) dX11_count_14 (fun hrr12_ hzz10_ H locs hw => ?_)
      exact Yireti S hw hzz10_ hrr12_ hr hlk hF dX11_count_17)
set_option maxRecDepth 100000 in
set_option maxHeartbeats 4000000 in
theorem w_X11_countOf_b111 {RR : Int × ZI} (S : CallFix p m c cX11_countOf 6 s args Ztbl RX11) (hr : meth.sig.returnType = some .int) (hlk : meth.locks = false) (hR : 0 ≤ R.frames ∧ 60 * (0) ≤ R.locals) (hdj : Zdj ad) : ∀ (z : ZI) (y0 : Int) (H : Heap) (locs : List Loc) (ls : Array Slot), X11_countOf_b111 z y0 = some RR → ZW D cA ad (ZA ad) (Zc z) s H locs → Zok z → InR y0 → lv_has ls 6 [] → W p l e R s m args below meth c H locs 0 0 (MQ below (YQi D cA ad RR.1 RR.2) args s 0 0 (ZA ad)) (F0 m 111 ls [.int (i32 (y0))]) := by
  intro z y0 H locs ls hF hw hzz hy0 hl
  unfold X11_countOf_b111 at hF
  exact Yireti S hw hzz hy0 hr hlk hF dX11_countOf_111
set_option maxRecDepth 100000 in
set_option maxHeartbeats 4000000 in
theorem w_X11_countOf_b94 {RR : Int × ZI} (S : CallFix p m c cX11_countOf 6 s args Ztbl RX11) (hr : meth.sig.returnType = some .int) (hlk : meth.locks = false) (hR : 0 ≤ R.frames ∧ 60 * (0) ≤ R.locals) (hdj : Zdj ad) : ∀ (z : ZI) (x4 : Int) (H : Heap) (locs : List Loc) (ls : Array Slot), X11_countOf_b94 z x4 = some RR → ZW D cA ad (ZA ad) (Zc z) s H locs → Zok z → InR x4 → lv_has ls 6 [(0, .ref (ad 68)), (4, .int (i32 (x4)))] → W p l e R s m args below meth c H locs 0 0 (MQ below (YQi D cA ad RR.1 RR.2) args s 0 0 (ZA ad)) (F0 m 94 ls []) := by
  intro z x4 H locs ls hF hw hzz hx4 hl
  unfold X11_countOf_b94 at hF
  refine lv_iload S.1 S.2.1 dX11_countOf_94 (lv_at hl 1 rfl) ?_
  refine Yif_ge (tgt := 104) S hx4 dX11_countOf_96 (by decide) (fun c1_ => ?_) (fun c1_ => ?_)
  · replace hF := ZtP c1_ hF
    refine lv_aload_n S.1 S.2.1 dX11_countOf_104 rfl (lv_at hl 0 rfl) ?_
    refine gf_X11_186 S hw dX11_countOf_105 ?_
    refine lv_iload S.1 S.2.1 dX11_countOf_108 (lv_at hl 1 rfl) ?_
    obtain ⟨b2_, hF⟩ := Zgs hF
    refine Yiald S hw zd_127 (by decide) hx4 b2_ dX11_countOf_110 ?_
    exact w_X11_countOf_b111 S hr hlk hR hdj _ _ _ _ _ hF hw hzz (hzz.1 _ _ (by decide)) (lv_sub hl [] rfl)
  · replace hF := ZtN c1_ hF
    refine lv_bipush (v := i32 (-9)) S.1 S.2.1 dX11_countOf_99 bp_m9 ?_
    refine lv_goto (tgt := 111) S.1 S.2.1 dX11_countOf_101 (by decide) ?_
    exact w_X11_countOf_b111 S hr hlk hR hdj _ _ _ _ _ hF hw hzz r_m9 (lv_sub hl [] rfl)
set_option maxRecDepth 100000 in
set_option maxHeartbeats 4000000 in
theorem w_X11_countOf_b88 {RR : Int × ZI} (S : CallFix p m c cX11_countOf 6 s args Ztbl RX11) (hr : meth.sig.returnType = some .int) (hlk : meth.locks = false) (hR : 0 ≤ R.frames ∧ 60 * (0) ≤ R.locals) (hdj : Zdj ad) {k7 : ZI → Int → Int → Int → Int → Int → Option (Int × ZI)} (hk7 : ∀ (z : ZI) (x1 : Int) (x2 : Int) (x3 : Int) (x4 : Int) (x5 : Int) (H : Heap) (locs : List Loc) (ls : Array Slot), k7 z x1 x2 x3 x4 x5 = some RR → ZW D cA ad (ZA ad) (Zc z) s H locs → Zok z → InR x1 → InR x2 → InR x3 → InR x4 → InR x5 → lv_has ls 6 [(0, .ref (ad 68)), (1, .int (i32 (x1))), (2, .int (i32 (x2))), (3, .int (i32 (x3))), (4, .int (i32 (x4))), (5, .int (i32 (x5)))] → W p l e R s m args below meth c H locs 0 0 (MQ below (YQi D cA ad RR.1 RR.2) args s 0 0 (ZA ad)) (F0 m 7 ls [])) : ∀ (z : ZI) (x1 : Int) (x2 : Int) (x3 : Int) (x4 : Int) (x5 : Int) (H : Heap) (locs : List Loc) (ls : Array Slot), X11_countOf_b88 k7 z x1 x2 x3 x4 x5 = some RR → ZW D cA ad (ZA ad) (Zc z) s H locs → Zok z → InR x1 → InR x2 → InR x3 → InR x4 → InR x5 → lv_has ls 6 [(0, .ref (ad 68)), (1, .int (i32 (x1))), (2, .int (i32 (x2))), (3, .int (i32 (x3))), (4, .int (i32 (x4))), (5, .int (i32 (x5)))] → W p l e R s m args below meth c H locs 0 0 (MQ below (YQi D cA ad RR.1 RR.2) args s 0 0 (ZA ad)) (F0 m 88 ls []) := by
  intro z x1 x2 x3 x4 x5 H locs ls hF hw hzz hx1 hx2 hx3 hx4 hx5 hl
  unfold X11_countOf_b88 at hF
  obtain ⟨g1_, hF⟩ := Zgs hF
  refine lv_iinc (v := i32 (x5 + 1)) (lv' := [(5, .int (i32 (x5 + 1))), (0, .ref (ad 68)), (1, .int (i32 (x1))), (2, .int (i32 (x2))), (3, .int (i32 (x3))), (4, .int (i32 (x4)))]) S.1 S.2.1 dX11_countOf_88 hl (k := 5) rfl Yiinc (by decide) rfl (fun ls hl => ?_)
  refine lv_goto (tgt := 7) S.1 S.2.1 dX11_countOf_91 (by decide) ?_
  exact hk7 _ _ _ _ _ _ _ _ _ hF hw hzz hx1 hx2 hx3 hx4 g1_ (lv_sub hl [1, 2, 3, 4, 5, 0] rfl)
set_option maxRecDepth 100000 in
set_option maxHeartbeats 4000000 in
theorem w_X11_countOf_b84 {RR : Int × ZI} (S : CallFix p m c cX11_countOf 6 s args Ztbl RX11) (hr : meth.sig.returnType = some .int) (hlk : meth.locks = false) (hR : 0 ≤ R.frames ∧ 60 * (0) ≤ R.locals) (hdj : Zdj ad) {k7 : ZI → Int → Int → Int → Int → Int → Option (Int × ZI)} (hk7 : ∀ (z : ZI) (x1 : Int) (x2 : Int) (x3 : Int) (x4 : Int) (x5 : Int) (H : Heap) (locs : List Loc) (ls : Array Slot), k7 z x1 x2 x3 x4 x5 = some RR → ZW D cA ad (ZA ad) (Zc z) s H locs → Zok z → InR x1 → InR x2 → InR x3 → InR x4 → InR x5 → lv_has ls 6 [(0, .ref (ad 68)), (1, .int (i32 (x1))), (2, .int (i32 (x2))), (3, .int (i32 (x3))), (4, .int (i32 (x4))), (5, .int (i32 (x5)))] → W p l e R s m args below meth c H locs 0 0 (MQ below (YQi D cA ad RR.1 RR.2) args s 0 0 (ZA ad)) (F0 m 7 ls [])) : ∀ (z : ZI) (x1 : Int) (x2 : Int) (x3 : Int) (x5 : Int) (H : Heap) (locs : List Loc) (ls : Array Slot), X11_countOf_b84 k7 z x1 x2 x3 x5 = some RR → ZW D cA ad (ZA ad) (Zc z) s H locs → Zok z → InR x1 → InR x2 → InR x3 → InR x5 → lv_has ls 6 [(0, .ref (ad 68)), (1, .int (i32 (x1))), (2, .int (i32 (x2))), (3, .int (i32 (x3))), (5, .int (i32 (x5)))] → W p l e R s m args below meth c H locs 0 0 (MQ below (YQi D cA ad RR.1 RR.2) args s 0 0 (ZA ad)) (F0 m 84 ls []) := by
  intro z x1 x2 x3 x5 H locs ls hF hw hzz hx1 hx2 hx3 hx5 hl
  unfold X11_countOf_b84 at hF
  refine lv_iload S.1 S.2.1 dX11_countOf_84 (lv_at hl 4 rfl) ?_
  refine lv_istore (lv' := [(4, .int (i32 (x5))), (0, .ref (ad 68)), (1, .int (i32 (x1))), (2, .int (i32 (x2))), (3, .int (i32 (x3))), (5, .int (i32 (x5)))]) S.1 S.2.1 dX11_countOf_86 hl (by decide) rfl (fun ls hl => ?_)
  exact w_X11_countOf_b88 S hr hlk hR hdj hk7 _ _ _ _ _ _ _ _ _ hF hw hzz hx1 hx2 hx3 hx5 hx5 (lv_sub hl [1, 2, 3, 4, 0, 5] rfl)
set_option maxRecDepth 100000 in
set_option maxHeartbeats 4000000 in
theorem w_X11_countOf_L7 {RR : Int × ZI} (S : CallFix p m c cX11_countOf 6 s args Ztbl RX11) (hr : meth.sig.returnType = some .int) (hlk : meth.locks = false) (hR : 0 ≤ R.frames ∧ 60 * (0) ≤ R.locals) (hdj : Zdj ad) : ∀ (n : Nat) (z : ZI) (x1 : Int) (x2 : Int) (x3 : Int) (x4 : Int) (x5 : Int) (H : Heap) (locs : List Loc) (ls : Array Slot), X11_countOf_L7 n z x1 x2 x3 x4 x5 = some RR → ZW D cA ad (ZA ad) (Zc z) s H locs → Zok z → InR x1 → InR x2 → InR x3 → InR x4 → InR x5 → lv_has ls 6 [(0, .ref (ad 68)), (1, .int (i32 (x1))), (2, .int (i32 (x2))), (3, .int (i32 (x3))), (4, .int (i32 (x4))), (5, .int (i32 (x5)))] → W p l e R s m args below meth c H locs 0 0 (MQ below (YQi D cA ad RR.1 RR.2) args s 0 0 (ZA ad)) (F0 m 7 ls []) := by
  intro n
  induction n with
  | zero => intro z x1 x2 x3 x4 x5 H locs ls hF; exact nomatch hF
  | succ n hk7 =>
    intro z x1 x2 x3 x4 x5 H locs ls hF hw hzz hx1 hx2 hx3 hx4 hx5 hl
    replace hF : X11_countOf_L7b (X11_countOf_L7 n) z x1 x2 x3 x4 x5 = some RR := hF
    unfold X11_countOf_L7b at hF
    refine lv_iload S.1 S.2.1 dX11_countOf_7 (lv_at hl 5 rfl) ?_
    refine lv_aload_n S.1 S.2.1 dX11_countOf_9 rfl (lv_at hl 0 rfl) ?_
    refine gg_X11_456 S hw dX11_countOf_10 ?_
    refine Yicmp_ge (tgt := 94) S hx5 (hzz.1 68 79 (by decide)) dX11_countOf_13 (by decide) (fun c1_ => ?_) (fun c1_ => ?_)
    · replace hF := ZtP c1_ hF
      exact w_X11_countOf_b94 S hr hlk hR hdj _ _ _ _ _ hF hw hzz hx4 (lv_sub hl [0, 4] rfl)
    · replace hF := ZtN c1_ hF
      refine lv_aload_n S.1 S.2.1 dX11_countOf_16 rfl (lv_at hl 0 rfl) ?_
      refine gf_X11_180 S hw dX11_countOf_17 ?_
      refine lv_iload S.1 S.2.1 dX11_countOf_20 (lv_at hl 5 rfl) ?_
      obtain ⟨b2_, hF⟩ := Zgs hF
      refine Yiald S hw zd_125 (by decide) hx5 b2_ dX11_countOf_22 ?_
      refine lv_iload_n S.1 S.2.1 dX11_countOf_23 rfl (lv_at hl 1 rfl) ?_
      refine Yicmp_ne (tgt := 88) S (hzz.1 _ _ (by decide)) hx1 dX11_countOf_24 (by decide) (fun c3_ => ?_) (fun c3_ => ?_)
      · replace hF := ZtN c3_ hF
        exact w_X11_countOf_b88 S hr hlk hR hdj hk7 _ _ _ _ _ _ _ _ _ hF hw hzz hx1 hx2 hx3 hx4 hx5 (lv_sub hl [0, 1, 2, 3, 4, 5] rfl)
      · replace hF := ZtP c3_ hF
        refine lv_aload_n S.1 S.2.1 dX11_countOf_27 rfl (lv_at hl 0 rfl) ?_
        refine gf_X11_183 S hw dX11_countOf_28 ?_
        refine lv_iload S.1 S.2.1 dX11_countOf_31 (lv_at hl 5 rfl) ?_
        obtain ⟨b4_, hF⟩ := Zgs hF
        refine Yiald S hw zd_126 (by decide) hx5 b4_ dX11_countOf_33 ?_
        refine lv_iload_n S.1 S.2.1 dX11_countOf_34 rfl (lv_at hl 2 rfl) ?_
        refine Yicmp_gt (tgt := 88) S (hzz.1 _ _ (by decide)) hx2 dX11_countOf_35 (by decide) (fun c5_ => ?_) (fun c5_ => ?_)
        · replace hF := ZtP c5_ hF
          exact w_X11_countOf_b88 S hr hlk hR hdj hk7 _ _ _ _ _ _ _ _ _ hF hw hzz hx1 hx2 hx3 hx4 hx5 (lv_sub hl [0, 1, 2, 3, 4, 5] rfl)
        · replace hF := ZtN c5_ hF
          refine lv_aload_n S.1 S.2.1 dX11_countOf_38 rfl (lv_at hl 0 rfl) ?_
          refine gf_X11_189 S hw dX11_countOf_39 ?_
          refine lv_iload S.1 S.2.1 dX11_countOf_42 (lv_at hl 5 rfl) ?_
          obtain ⟨b6_, hF⟩ := Zgs hF
          refine Yiald S hw zd_128 (by decide) hx5 b6_ dX11_countOf_44 ?_
          refine lv_iload_n S.1 S.2.1 dX11_countOf_45 rfl (lv_at hl 3 rfl) ?_
          refine Yicmp_gt (tgt := 88) S (hzz.1 _ _ (by decide)) hx3 dX11_countOf_46 (by decide) (fun c7_ => ?_) (fun c7_ => ?_)
          · replace hF := ZtP c7_ hF
            exact w_X11_countOf_b88 S hr hlk hR hdj hk7 _ _ _ _ _ _ _ _ _ hF hw hzz hx1 hx2 hx3 hx4 hx5 (lv_sub hl [0, 1, 2, 3, 4, 5] rfl)
          · replace hF := ZtN c7_ hF
            refine lv_aload_n S.1 S.2.1 dX11_countOf_49 rfl (lv_at hl 0 rfl) ?_
            refine gf_X11_186 S hw dX11_countOf_50 ?_
            refine lv_iload S.1 S.2.1 dX11_countOf_53 (lv_at hl 5 rfl) ?_
            obtain ⟨b8_, hF⟩ := Zgs hF
            refine Yiald S hw zd_127 (by decide) hx5 b8_ dX11_countOf_55 ?_
            refine Yif_ge (tgt := 62) S (hzz.1 _ _ (by decide)) dX11_countOf_56 (by decide) (fun c9_ => ?_) (fun c9_ => ?_)
            · replace hF := ZtP c9_ hF
              refine lv_iload S.1 S.2.1 dX11_countOf_62 (lv_at hl 4 rfl) ?_
              refine Yif_lt (tgt := 84) S hx4 dX11_countOf_64 (by decide) (fun c10_ => ?_) (fun c10_ => ?_)
              · replace hF := ZtP c10_ hF
                exact w_X11_countOf_b84 S hr hlk hR hdj hk7 _ _ _ _ _ _ _ _ hF hw hzz hx1 hx2 hx3 hx5 (lv_sub hl [0, 1, 2, 3, 5] rfl)
              · replace hF := ZtN c10_ hF
                refine lv_aload_n S.1 S.2.1 dX11_countOf_67 rfl (lv_at hl 0 rfl) ?_
                refine gf_X11_183 S hw dX11_countOf_68 ?_
                refine lv_iload S.1 S.2.1 dX11_countOf_71 (lv_at hl 5 rfl) ?_
                obtain ⟨b11_, hF⟩ := Zgs hF
                refine Yiald S hw zd_126 (by decide) hx5 b11_ dX11_countOf_73 ?_
                refine lv_aload_n S.1 S.2.1 dX11_countOf_74 rfl (lv_at hl 0 rfl) ?_
                refine gf_X11_183 S hw dX11_countOf_75 ?_
                refine lv_iload S.1 S.2.1 dX11_countOf_78 (lv_at hl 4 rfl) ?_
                obtain ⟨b12_, hF⟩ := Zgs hF
                refine Yiald S hw zd_126 (by decide) hx4 b12_ dX11_countOf_80 ?_
                refine Yicmp_lt (tgt := 88) S (hzz.1 _ _ (by decide)) (hzz.1 _ _ (by decide)) dX11_countOf_81 (by decide) (fun c13_ => ?_) (fun c13_ => ?_)
                · replace hF := ZtP c13_ hF
                  exact w_X11_countOf_b88 S hr hlk hR hdj hk7 _ _ _ _ _ _ _ _ _ hF hw hzz hx1 hx2 hx3 hx4 hx5 (lv_sub hl [0, 1, 2, 3, 4, 5] rfl)
                · replace hF := ZtN c13_ hF
                  exact w_X11_countOf_b84 S hr hlk hR hdj hk7 _ _ _ _ _ _ _ _ hF hw hzz hx1 hx2 hx3 hx5 (lv_sub hl [0, 1, 2, 3, 5] rfl)
            · replace hF := ZtN c9_ hF
              refine lv_goto (tgt := 88) S.1 S.2.1 dX11_countOf_59 (by decide) ?_
              exact w_X11_countOf_b88 S hr hlk hR hdj hk7 _ _ _ _ _ _ _ _ _ hF hw hzz hx1 hx2 hx3 hx4 hx5 (lv_sub hl [0, 1, 2, 3, 4, 5] rfl)
set_option maxRecDepth 100000 in
set_option maxHeartbeats 4000000 in
theorem c_X11_countOf {l : Launch} {D : va_G} {cA : Nat → ClassId} {ad : Nat → Nat} (hdj : Zdj ad) {z z1 : ZI} {x1 : Int} {x2 : Int} {x3 : Int} {r : Int} (hzz : Zok z) (hx1 : InR x1) (hx2 : InR x2) (hx3 : InR x3) (hF : F_X11_countOf z x1 x2 x3 = some (r, z1)) : YMi l D cA ad (0) yX11_countOf cX11_countOf 6 (some .int) [.ref (ad 68), .int (i32 x1), .int (i32 x2), .int (i32 x3)] z r z1 :=
  Zmet hdj (by decide) rfl (Nat.le_of_ble_eq_true rfl) (lv := [(0, .ref (ad 68)), (1, .int (i32 (x1))), (2, .int (i32 (x2))), (3, .int (i32 (x3)))]) rfl (fun p e s m args below meth c ls S hr hlk hw hl => by
    have hR : 0 ≤ (Zrm (0)).frames ∧ 60 * (0) ≤ (Zrm (0)).locals := ⟨Nat.le_refl _, Nat.le_refl _⟩
    unfold F_X11_countOf at hF
    revert hR
    generalize Zrm (0) = R
    intro hR
    refine lv_bipush (v := i32 (-9)) S.1 S.2.1 dX11_countOf_0 bp_m9 ?_
    refine lv_istore (lv' := [(4, .int (i32 ((-9)))), (0, .ref (ad 68)), (1, .int (i32 (x1))), (2, .int (i32 (x2))), (3, .int (i32 (x3)))]) S.1 S.2.1 dX11_countOf_2 hl (by decide) rfl (fun ls hl => ?_)
    refine lv_iconst (v := i32 0) S.1 S.2.1 dX11_countOf_4 ic_0 ?_
    refine lv_istore (lv' := [(5, .int (i32 (0))), (4, .int (i32 ((-9)))), (0, .ref (ad 68)), (1, .int (i32 (x1))), (2, .int (i32 (x2))), (3, .int (i32 (x3)))]) S.1 S.2.1 dX11_countOf_5 hl (by decide) rfl (fun ls hl => ?_)
    exact w_X11_countOf_L7 S hr hlk hR hdj Zfuel _ _ _ _ _ _ _ _ _ hF hw hzz hx1 hx2 hx3 r_m9 r_0 (lv_sub hl [2, 3, 4, 5, 1, 0] rfl))
set_option maxRecDepth 100000 in
set_option maxHeartbeats 4000000 in
theorem w_X11_counted_b74 {RR : Int × ZI} (S : CallFix p m c cX11_counted 5 s args Ztbl RX11) (hr : meth.sig.returnType = some .int) (hlk : meth.locks = false) (hR : 1 ≤ R.frames ∧ 60 * (1) ≤ R.locals) (hdj : Zdj ad) : ∀ (z : ZI) (y0 : Int) (H : Heap) (locs : List Loc) (ls : Array Slot), X11_counted_b74 z y0 = some RR → ZW D cA ad (ZA ad) (Zc z) s H locs → Zok z → InR y0 → lv_has ls 5 [] → W p l e R s m args below meth c H locs 0 0 (MQ below (YQi D cA ad RR.1 RR.2) args s 0 0 (ZA ad)) (F0 m 74 ls [.int (i32 (y0))]) := by
  intro z y0 H locs ls hF hw hzz hy0 hl
  unfold X11_counted_b74 at hF
  exact Yireti S hw hzz hy0 hr hlk hF dX11_counted_74
set_option maxRecDepth 100000 in
set_option maxHeartbeats 4000000 in
theorem w_X11_counted_b51 {RR : Int × ZI} (S : CallFix p m c cX11_counted 5 s args Ztbl RX11) (hr : meth.sig.returnType = some .int) (hlk : meth.locks = false) (hR : 1 ≤ R.frames ∧ 60 * (1) ≤ R.locals) (hdj : Zdj ad) : ∀ (z : ZI) (x1 : Int) (x2 : Int) (x3 : Int) (y0 : Int) (H : Heap) (locs : List Loc) (ls : Array Slot), X11_counted_b51 z x1 x2 x3 y0 = some RR → ZW D cA ad (ZA ad) (Zc z) s H locs → Zok z → InR x1 → InR x2 → InR x3 → InR y0 → lv_has ls 5 [(0, .ref (ad 68)), (1, .int (i32 (x1))), (2, .int (i32 (x2))), (3, .int (i32 (x3)))] → W p l e R s m args below meth c H locs 0 0 (MQ below (YQi D cA ad RR.1 RR.2) args s 0 0 (ZA ad)) (F0 m 51 ls [.int (i32 (y0))]) := by
  intro z x1 x2 x3 y0 H locs ls hF hw hzz hx1 hx2 hx3 hy0 hl
  unfold X11_counted_b51 at hF
  refine lv_istore (lv' := [(4, .int (i32 (y0))), (0, .ref (ad 68)), (1, .int (i32 (x1))), (2, .int (i32 (x2))), (3, .int (i32 (x3)))]) S.1 S.2.1 dX11_counted_51 hl (by decide) rfl (fun ls hl => ?_)
  refine lv_iload S.1 S.2.1 dX11_counted_53 (lv_at hl 0 rfl) ?_
  refine Yif_eq (tgt := 67) S hy0 dX11_counted_55 (by decide) (fun c1_ => ?_) (fun c1_ => ?_)
  · replace hF := ZtP c1_ hF
    refine lv_aload_n S.1 S.2.1 dX11_counted_67 rfl (lv_at hl 1 rfl) ?_
    refine lv_iload_n S.1 S.2.1 dX11_counted_68 rfl (lv_at hl 2 rfl) ?_
    refine lv_iload_n S.1 S.2.1 dX11_counted_69 rfl (lv_at hl 3 rfl) ?_
    refine lv_iload_n S.1 S.2.1 dX11_counted_70 rfl (lv_at hl 4 rfl) ?_
    obtain ⟨r4_, z2_, h3_, hF⟩ := Ybs hF
    refine YcallVi (rest := []) S hw (c_X11_countOf hdj hzz hx1 hx2 hx3 h3_) my_X11_countOf mi_X11_countOf ml_X11_459 zd_68 zc_X11 rfl (Zrr hR (by decide)) ⟨Nat.zero_le _, Nat.zero_le _⟩ hl.1 rfl rfl (Nat.le_of_ble_eq_true rfl) dX11_counted_71 (fun hrr4_ hzz2_ H locs hw => ?_)
    exact w_X11_counted_b74 S hr hlk hR hdj _ _ _ _ _ hF hw hzz2_ hrr4_ (lv_sub hl [] rfl)
  · replace hF := ZtN c1_ hF
    refine lv_aload_n S.1 S.2.1 dX11_counted_58 rfl (lv_at hl 1 rfl) ?_
    refine lv_iload S.1 S.2.1 dX11_counted_59 (lv_at hl 0 rfl) ?_
    obtain ⟨r7_, z5_, h6_, hF⟩ := Ybs hF
    refine YcallVi (rest := []) S hw (c_X11_no hdj hzz hy0 h6_) my_X11_no mi_X11_no ml_X11_207 zd_68 zc_X11 rfl (Zrr hR (by decide)) ⟨Nat.zero_le _, Nat.zero_le _⟩ hl.1 rfl rfl (Nat.le_of_ble_eq_true rfl) dX11_counted_61 (fun hrr7_ hzz5_ H locs hw => ?_)
    refine lv_goto (tgt := 74) S.1 S.2.1 dX11_counted_64 (by decide) ?_
    exact w_X11_counted_b74 S hr hlk hR hdj _ _ _ _ _ hF hw hzz5_ hrr7_ (lv_sub hl [] rfl)
set_option maxRecDepth 100000 in
set_option maxHeartbeats 4000000 in
theorem w_X11_counted_b26 {RR : Int × ZI} (S : CallFix p m c cX11_counted 5 s args Ztbl RX11) (hr : meth.sig.returnType = some .int) (hlk : meth.locks = false) (hR : 1 ≤ R.frames ∧ 60 * (1) ≤ R.locals) (hdj : Zdj ad) : ∀ (z : ZI) (x1 : Int) (x2 : Int) (x3 : Int) (H : Heap) (locs : List Loc) (ls : Array Slot), X11_counted_b26 z x1 x2 x3 = some RR → ZW D cA ad (ZA ad) (Zc z) s H locs → Zok z → InR x1 → InR x2 → InR x3 → lv_has ls 5 [(0, .ref (ad 68)), (1, .int (i32 (x1))), (2, .int (i32 (x2))), (3, .int (i32 (x3)))] → W p l e R s m args below meth c H locs 0 0 (MQ below (YQi D cA ad RR.1 RR.2) args s 0 0 (ZA ad)) (F0 m 26 ls []) := by
  intro z x1 x2 x3 H locs ls hF hw hzz hx1 hx2 hx3 hl
  unfold X11_counted_b26 at hF
  refine lv_bipush (v := i32 (-4)) S.1 S.2.1 dX11_counted_26 bp_m4 ?_
  refine lv_goto (tgt := 51) S.1 S.2.1 dX11_counted_28 (by decide) ?_
  exact w_X11_counted_b51 S hr hlk hR hdj _ _ _ _ _ _ _ _ hF hw hzz hx1 hx2 hx3 r_m4 (lv_sub hl [0, 1, 2, 3] rfl)
set_option maxRecDepth 100000 in
set_option maxHeartbeats 4000000 in
theorem w_X11_counted_b45 {RR : Int × ZI} (S : CallFix p m c cX11_counted 5 s args Ztbl RX11) (hr : meth.sig.returnType = some .int) (hlk : meth.locks = false) (hR : 1 ≤ R.frames ∧ 60 * (1) ≤ R.locals) (hdj : Zdj ad) : ∀ (z : ZI) (x1 : Int) (x2 : Int) (x3 : Int) (H : Heap) (locs : List Loc) (ls : Array Slot), X11_counted_b45 z x1 x2 x3 = some RR → ZW D cA ad (ZA ad) (Zc z) s H locs → Zok z → InR x1 → InR x2 → InR x3 → lv_has ls 5 [(0, .ref (ad 68)), (1, .int (i32 (x1))), (2, .int (i32 (x2))), (3, .int (i32 (x3)))] → W p l e R s m args below meth c H locs 0 0 (MQ below (YQi D cA ad RR.1 RR.2) args s 0 0 (ZA ad)) (F0 m 45 ls []) := by
  intro z x1 x2 x3 H locs ls hF hw hzz hx1 hx2 hx3 hl
  unfold X11_counted_b45 at hF
  refine lv_bipush (v := i32 (-6)) S.1 S.2.1 dX11_counted_45 bp_m6 ?_
  refine lv_goto (tgt := 51) S.1 S.2.1 dX11_counted_47 (by decide) ?_
  exact w_X11_counted_b51 S hr hlk hR hdj _ _ _ _ _ _ _ _ hF hw hzz hx1 hx2 hx3 r_m6 (lv_sub hl [0, 1, 2, 3] rfl)
set_option maxRecDepth 100000 in
set_option maxHeartbeats 4000000 in
theorem c_X11_counted {l : Launch} {D : va_G} {cA : Nat → ClassId} {ad : Nat → Nat} (hdj : Zdj ad) {z z1 : ZI} {x1 : Int} {x2 : Int} {x3 : Int} {r : Int} (hzz : Zok z) (hx1 : InR x1) (hx2 : InR x2) (hx3 : InR x3) (hF : F_X11_counted z x1 x2 x3 = some (r, z1)) : YMi l D cA ad (1) yX11_counted cX11_counted 5 (some .int) [.ref (ad 68), .int (i32 x1), .int (i32 x2), .int (i32 x3)] z r z1 :=
  Zmet hdj (by decide) rfl (Nat.le_of_ble_eq_true rfl) (lv := [(0, .ref (ad 68)), (1, .int (i32 (x1))), (2, .int (i32 (x2))), (3, .int (i32 (x3)))]) rfl (fun p e s m args below meth c ls S hr hlk hw hl => by
    have hR : 1 ≤ (Zrm (1)).frames ∧ 60 * (1) ≤ (Zrm (1)).locals := ⟨Nat.le_refl _, Nat.le_refl _⟩
    unfold F_X11_counted at hF
    revert hR
    generalize Zrm (1) = R
    intro hR
    refine lv_iload_n S.1 S.2.1 dX11_counted_0 rfl (lv_at hl 1 rfl) ?_
    refine Yi2l S hx1 dX11_counted_1 ?_
    refine lv_lconst (v := i64 0) S.1 S.2.1 dX11_counted_2 lc_0 ?_
    refine lv_ldc2 (own := RX11) (v := i64 3) S.1 S.2.1 S.2.2.2.1 (S.2.2.2.2 _ yl_X11_224) dX11_counted_3 ?_
    obtain ⟨r3_, z1_, h2_, hF⟩ := Ybs hF
    refine YcallSi (rest := []) S hw (c_X11_isIn hdj hzz (InR_L hx1) (InR_L r_0) (InR_L r_3) h2_) my_X11_isIn ms_X11_isIn ml_X11_226 (Zrr hR (by decide)) ⟨Nat.zero_le _, Nat.zero_le _⟩ hl.1 rfl rfl (Nat.le_of_ble_eq_true rfl) dX11_counted_6 (fun hrr3_ hzz1_ H locs hw => ?_)
    refine Yif_ne (tgt := 18) S hrr3_ dX11_counted_9 (by decide) (fun c4_ => ?_) (fun c4_ => ?_)
    · replace hF := ZtN c4_ hF
      refine lv_iload_n S.1 S.2.1 dX11_counted_18 rfl (lv_at hl 2 rfl) ?_
      refine Yif_lt (tgt := 26) S hx2 dX11_counted_19 (by decide) (fun c5_ => ?_) (fun c5_ => ?_)
      · replace hF := ZtP c5_ hF
        exact w_X11_counted_b26 S hr hlk hR hdj _ _ _ _ _ _ _ hF hw hzz1_ hx1 hx2 hx3 (lv_sub hl [0, 1, 2, 3] rfl)
      · replace hF := ZtN c5_ hF
        refine lv_iload_n S.1 S.2.1 dX11_counted_22 rfl (lv_at hl 3 rfl) ?_
        refine Yif_ge (tgt := 31) S hx3 dX11_counted_23 (by decide) (fun c6_ => ?_) (fun c6_ => ?_)
        · replace hF := ZtP c6_ hF
          refine lv_iload_n S.1 S.2.1 dX11_counted_31 rfl (lv_at hl 2 rfl) ?_
          refine lv_sipush (v := i32 999) S.1 S.2.1 dX11_counted_32 sp_999 ?_
          refine Yicmp_gt (tgt := 45) S hx2 r_999 dX11_counted_35 (by decide) (fun c7_ => ?_) (fun c7_ => ?_)
          · replace hF := ZtP c7_ hF
            exact w_X11_counted_b45 S hr hlk hR hdj _ _ _ _ _ _ _ hF hw hzz1_ hx1 hx2 hx3 (lv_sub hl [0, 1, 2, 3] rfl)
          · replace hF := ZtN c7_ hF
            refine lv_iload_n S.1 S.2.1 dX11_counted_38 rfl (lv_at hl 3 rfl) ?_
            refine lv_sipush (v := i32 999) S.1 S.2.1 dX11_counted_39 sp_999 ?_
            refine Yicmp_le (tgt := 50) S hx3 r_999 dX11_counted_42 (by decide) (fun c8_ => ?_) (fun c8_ => ?_)
            · replace hF := ZtP c8_ hF
              refine lv_iconst (v := i32 0) S.1 S.2.1 dX11_counted_50 ic_0 ?_
              exact w_X11_counted_b51 S hr hlk hR hdj _ _ _ _ _ _ _ _ hF hw hzz1_ hx1 hx2 hx3 r_0 (lv_sub hl [0, 1, 2, 3] rfl)
            · replace hF := ZtN c8_ hF
              exact w_X11_counted_b45 S hr hlk hR hdj _ _ _ _ _ _ _ hF hw hzz1_ hx1 hx2 hx3 (lv_sub hl [0, 1, 2, 3] rfl)
        · replace hF := ZtN c6_ hF
          exact w_X11_counted_b26 S hr hlk hR hdj _ _ _ _ _ _ _ hF hw hzz1_ hx1 hx2 hx3 (lv_sub hl [0, 1, 2, 3] rfl)
    · replace hF := ZtP c4_ hF
      refine lv_aload_n S.1 S.2.1 dX11_counted_12 rfl (lv_at hl 0 rfl) ?_
      refine lv_iconst (v := i32 (-1)) S.1 S.2.1 dX11_counted_13 ic_m1 ?_
      obtain ⟨r11_, z9_, h10_, hF⟩ := Ybs hF
      refine YcallVi (rest := []) S hw (c_X11_no hdj hzz1_ r_m1 h10_) my_X11_no mi_X11_no ml_X11_207 zd_68 zc_X11 rfl (Zrr hR (by decide)) ⟨Nat.zero_le _, Nat.zero_le _⟩ hl.1 rfl rfl (Nat.le_of_ble_eq_true rfl) dX11_counted_14 (fun hrr11_ hzz9_ H locs hw => ?_)
      exact Yireti S hw hzz9_ hrr11_ hr hlk hF dX11_counted_17)
set_option maxRecDepth 100000 in
set_option maxHeartbeats 4000000 in
theorem c_X11_days {l : Launch} {D : va_G} {cA : Nat → ClassId} {ad : Nat → Nat} (hdj : Zdj ad) {z z1 : ZI} {x1 : Int} {r : Int} (hzz : Zok z) (hx1 : InR x1) (hF : F_X11_days z x1 = some (r, z1)) : YMi l D cA ad (1) yX11_days cX11_days 3 (some .int) [.ref (ad 68), .int (i32 x1)] z r z1 :=
  Zmet hdj (by decide) rfl (Nat.le_of_ble_eq_true rfl) (lv := [(0, .ref (ad 68)), (1, .int (i32 (x1)))]) rfl (fun p e s m args below meth c ls S hr hlk hw hl => by
    have hR : 1 ≤ (Zrm (1)).frames ∧ 60 * (1) ≤ (Zrm (1)).locals := ⟨Nat.le_refl _, Nat.le_refl _⟩
    unfold F_X11_days at hF
    revert hR
    generalize Zrm (1) = R
    intro hR
    refine lv_iload_n S.1 S.2.1 dX11_days_0 rfl (lv_at hl 1 rfl) ?_
    refine Yi2l S hx1 dX11_days_1 ?_
    refine lv_lconst (v := i64 1) S.1 S.2.1 dX11_days_2 lc_1 ?_
    refine lv_sipush (v := i32 999) S.1 S.2.1 dX11_days_3 sp_999 ?_
    refine lv_aload_n S.1 S.2.1 dX11_days_6 rfl (lv_at hl 0 rfl) ?_
    refine gg_X11_200 S hw dX11_days_7 ?_
    obtain ⟨g1_, hF⟩ := Zgs hF
    refine Yisub S dX11_days_10 ?_
    refine Yi2l S g1_ dX11_days_11 ?_
    obtain ⟨r4_, z2_, h3_, hF⟩ := Ybs hF
    refine YcallSi (rest := []) S hw (c_X11_out hdj hzz (InR_L hx1) (InR_L r_1) (InR_L g1_) h3_) my_X11_out ms_X11_out ml_X11_203 (Zrr hR (by decide)) ⟨Nat.zero_le _, Nat.zero_le _⟩ hl.1 rfl rfl (Nat.le_of_ble_eq_true rfl) dX11_days_12 (fun hrr4_ hzz2_ H locs hw => ?_)
    refine lv_istore_n (lv' := [(2, .int (i32 (r4_))), (0, .ref (ad 68)), (1, .int (i32 (x1)))]) S.1 S.2.1 dX11_days_15 rfl hl (by decide) rfl (fun ls hl => ?_)
    refine lv_iload_n S.1 S.2.1 dX11_days_16 rfl (lv_at hl 0 rfl) ?_
    refine Yif_eq (tgt := 26) S hrr4_ dX11_days_17 (by decide) (fun c5_ => ?_) (fun c5_ => ?_)
    · replace hF := ZtP c5_ hF
      refine lv_aload_n S.1 S.2.1 dX11_days_26 rfl (lv_at hl 1 rfl) ?_
      refine lv_dup S.1 S.2.1 dX11_days_27 rfl ?_
      refine gg_X11_200 S hw dX11_days_28 ?_
      refine lv_iload_n S.1 S.2.1 dX11_days_31 rfl (lv_at hl 2 rfl) ?_
      obtain ⟨g6_, hF⟩ := Zgs hF
      refine Yiadd S dX11_days_32 ?_
      refine pp_X11_200 S hw hzz2_ g6_ dX11_days_33 (fun z7_ H locs ez hzz7_ hw => ?_)
      replace hF := Zle ez hF; clear ez
      refine lv_aload_n S.1 S.2.1 dX11_days_36 rfl (lv_at hl 1 rfl) ?_
      refine gg_X11_200 S hw dX11_days_37 ?_
      exact Yireti S hw hzz7_ (hzz7_.1 68 11 (by decide)) hr hlk hF dX11_days_40
    · replace hF := ZtN c5_ hF
      refine lv_aload_n S.1 S.2.1 dX11_days_20 rfl (lv_at hl 1 rfl) ?_
      refine lv_iload_n S.1 S.2.1 dX11_days_21 rfl (lv_at hl 0 rfl) ?_
      obtain ⟨r10_, z8_, h9_, hF⟩ := Ybs hF
      refine YcallVi (rest := []) S hw (c_X11_no hdj hzz2_ hrr4_ h9_) my_X11_no mi_X11_no ml_X11_207 zd_68 zc_X11 rfl (Zrr hR (by decide)) ⟨Nat.zero_le _, Nat.zero_le _⟩ hl.1 rfl rfl (Nat.le_of_ble_eq_true rfl) dX11_days_22 (fun hrr10_ hzz8_ H locs hw => ?_)
      exact Yireti S hw hzz8_ hrr10_ hr hlk hF dX11_days_25)
set_option maxRecDepth 100000 in
set_option maxHeartbeats 4000000 in
theorem w_X11_lowerOf_b59 {RR : Int × ZI} (S : CallFix p m c cX11_lowerOf 4 s args Ztbl RX11) (hr : meth.sig.returnType = some .int) (hlk : meth.locks = false) (hR : 0 ≤ R.frames ∧ 60 * (0) ≤ R.locals) (hdj : Zdj ad) : ∀ (z : ZI) (y0 : Int) (H : Heap) (locs : List Loc) (ls : Array Slot), X11_lowerOf_b59 z y0 = some RR → ZW D cA ad (ZA ad) (Zc z) s H locs → Zok z → InR y0 → lv_has ls 4 [] → W p l e R s m args below meth c H locs 0 0 (MQ below (YQi D cA ad RR.1 RR.2) args s 0 0 (ZA ad)) (F0 m 59 ls [.int (i32 (y0))]) := by
  intro z y0 H locs ls hF hw hzz hy0 hl
  unfold X11_lowerOf_b59 at hF
  exact Yireti S hw hzz hy0 hr hlk hF dX11_lowerOf_59
set_option maxRecDepth 100000 in
set_option maxHeartbeats 4000000 in
theorem w_X11_lowerOf_b58 {RR : Int × ZI} (S : CallFix p m c cX11_lowerOf 4 s args Ztbl RX11) (hr : meth.sig.returnType = some .int) (hlk : meth.locks = false) (hR : 0 ≤ R.frames ∧ 60 * (0) ≤ R.locals) (hdj : Zdj ad) : ∀ (z : ZI) (x1 : Int) (H : Heap) (locs : List Loc) (ls : Array Slot), X11_lowerOf_b58 z x1 = some RR → ZW D cA ad (ZA ad) (Zc z) s H locs → Zok z → InR x1 → lv_has ls 4 [(1, .int (i32 (x1)))] → W p l e R s m args below meth c H locs 0 0 (MQ below (YQi D cA ad RR.1 RR.2) args s 0 0 (ZA ad)) (F0 m 58 ls []) := by
  intro z x1 H locs ls hF hw hzz hx1 hl
  unfold X11_lowerOf_b58 at hF
  refine lv_iload_n S.1 S.2.1 dX11_lowerOf_58 rfl (lv_at hl 0 rfl) ?_
  exact w_X11_lowerOf_b59 S hr hlk hR hdj _ _ _ _ _ hF hw hzz hx1 (lv_sub hl [] rfl)
set_option maxRecDepth 100000 in
set_option maxHeartbeats 4000000 in
theorem w_X11_lowerOf_b54 {RR : Int × ZI} (S : CallFix p m c cX11_lowerOf 4 s args Ztbl RX11) (hr : meth.sig.returnType = some .int) (hlk : meth.locks = false) (hR : 0 ≤ R.frames ∧ 60 * (0) ≤ R.locals) (hdj : Zdj ad) : ∀ (z : ZI) (x3 : Int) (H : Heap) (locs : List Loc) (ls : Array Slot), X11_lowerOf_b54 z x3 = some RR → ZW D cA ad (ZA ad) (Zc z) s H locs → Zok z → InR x3 → lv_has ls 4 [(3, .int (i32 (x3)))] → W p l e R s m args below meth c H locs 0 0 (MQ below (YQi D cA ad RR.1 RR.2) args s 0 0 (ZA ad)) (F0 m 54 ls []) := by
  intro z x3 H locs ls hF hw hzz hx3 hl
  unfold X11_lowerOf_b54 at hF
  refine lv_iload_n S.1 S.2.1 dX11_lowerOf_54 rfl (lv_at hl 0 rfl) ?_
  refine lv_goto (tgt := 59) S.1 S.2.1 dX11_lowerOf_55 (by decide) ?_
  exact w_X11_lowerOf_b59 S hr hlk hR hdj _ _ _ _ _ hF hw hzz hx3 (lv_sub hl [] rfl)
set_option maxRecDepth 100000 in
set_option maxHeartbeats 4000000 in
theorem c_X11_lowerOf {l : Launch} {D : va_G} {cA : Nat → ClassId} {ad : Nat → Nat} (hdj : Zdj ad) {z z1 : ZI} {x1 : Int} {x2 : Int} {x3 : Int} {r : Int} (hzz : Zok z) (hx1 : InR x1) (hx2 : InR x2) (hx3 : InR x3) (hF : F_X11_lowerOf z x1 x2 x3 = some (r, z1)) : YMi l D cA ad (0) yX11_lowerOf cX11_lowerOf 4 (some .int) [.ref (ad 68), .int (i32 x1), .int (i32 x2), .int (i32 x3)] z r z1 :=
  Zmet hdj (by decide) rfl (Nat.le_of_ble_eq_true rfl) (lv := [(0, .ref (ad 68)), (1, .int (i32 (x1))), (2, .int (i32 (x2))), (3, .int (i32 (x3)))]) rfl (fun p e s m args below meth c ls S hr hlk hw hl => by
    have hR : 0 ≤ (Zrm (0)).frames ∧ 60 * (0) ≤ (Zrm (0)).locals := ⟨Nat.le_refl _, Nat.le_refl _⟩
    unfold F_X11_lowerOf at hF
    revert hR
    generalize Zrm (0) = R
    intro hR
    refine lv_aload_n S.1 S.2.1 dX11_lowerOf_0 rfl (lv_at hl 0 rfl) ?_
    refine gf_X11_13 S hw dX11_lowerOf_1 ?_
    refine lv_iload_n S.1 S.2.1 dX11_lowerOf_4 rfl (lv_at hl 3 rfl) ?_
    obtain ⟨b1_, hF⟩ := Zgs hF
    refine Yiald S hw zd_70 (by decide) hx3 b1_ dX11_lowerOf_5 ?_
    refine lv_aload_n S.1 S.2.1 dX11_lowerOf_6 rfl (lv_at hl 0 rfl) ?_
    refine gf_X11_13 S hw dX11_lowerOf_7 ?_
    refine lv_iload_n S.1 S.2.1 dX11_lowerOf_10 rfl (lv_at hl 2 rfl) ?_
    obtain ⟨b2_, hF⟩ := Zgs hF
    refine Yiald S hw zd_70 (by decide) hx2 b2_ dX11_lowerOf_11 ?_
    refine Yicmp_ge (tgt := 58) S (hzz.1 _ _ (by decide)) (hzz.1 _ _ (by decide)) dX11_lowerOf_12 (by decide) (fun c3_ => ?_) (fun c3_ => ?_)
    · replace hF := ZtP c3_ hF
      exact w_X11_lowerOf_b58 S hr hlk hR hdj _ _ _ _ _ hF hw hzz hx1 (lv_sub hl [1] rfl)
    · replace hF := ZtN c3_ hF
      refine lv_iload_n S.1 S.2.1 dX11_lowerOf_15 rfl (lv_at hl 1 rfl) ?_
      refine Yif_lt (tgt := 54) S hx1 dX11_lowerOf_16 (by decide) (fun c4_ => ?_) (fun c4_ => ?_)
      · replace hF := ZtP c4_ hF
        exact w_X11_lowerOf_b54 S hr hlk hR hdj _ _ _ _ _ hF hw hzz hx3 (lv_sub hl [3] rfl)
      · replace hF := ZtN c4_ hF
        refine lv_aload_n S.1 S.2.1 dX11_lowerOf_19 rfl (lv_at hl 0 rfl) ?_
        refine gf_X11_13 S hw dX11_lowerOf_20 ?_
        refine lv_iload_n S.1 S.2.1 dX11_lowerOf_23 rfl (lv_at hl 3 rfl) ?_
        obtain ⟨b5_, hF⟩ := Zgs hF
        refine Yiald S hw zd_70 (by decide) hx3 b5_ dX11_lowerOf_24 ?_
        refine lv_aload_n S.1 S.2.1 dX11_lowerOf_25 rfl (lv_at hl 0 rfl) ?_
        refine gf_X11_13 S hw dX11_lowerOf_26 ?_
        refine lv_iload_n S.1 S.2.1 dX11_lowerOf_29 rfl (lv_at hl 1 rfl) ?_
        obtain ⟨b6_, hF⟩ := Zgs hF
        refine Yiald S hw zd_70 (by decide) hx1 b6_ dX11_lowerOf_30 ?_
        refine Yicmp_lt (tgt := 54) S (hzz.1 _ _ (by decide)) (hzz.1 _ _ (by decide)) dX11_lowerOf_31 (by decide) (fun c7_ => ?_) (fun c7_ => ?_)
        · replace hF := ZtP c7_ hF
          exact w_X11_lowerOf_b54 S hr hlk hR hdj _ _ _ _ _ hF hw hzz hx3 (lv_sub hl [3] rfl)
        · replace hF := ZtN c7_ hF
          refine lv_aload_n S.1 S.2.1 dX11_lowerOf_34 rfl (lv_at hl 0 rfl) ?_
          refine gf_X11_13 S hw dX11_lowerOf_35 ?_
          refine lv_iload_n S.1 S.2.1 dX11_lowerOf_38 rfl (lv_at hl 3 rfl) ?_
          obtain ⟨b8_, hF⟩ := Zgs hF
          refine Yiald S hw zd_70 (by decide) hx3 b8_ dX11_lowerOf_39 ?_
          refine lv_aload_n S.1 S.2.1 dX11_lowerOf_40 rfl (lv_at hl 0 rfl) ?_
          refine gf_X11_13 S hw dX11_lowerOf_41 ?_
          refine lv_iload_n S.1 S.2.1 dX11_lowerOf_44 rfl (lv_at hl 1 rfl) ?_
          obtain ⟨b9_, hF⟩ := Zgs hF
          refine Yiald S hw zd_70 (by decide) hx1 b9_ dX11_lowerOf_45 ?_
          refine Yicmp_ne (tgt := 58) S (hzz.1 _ _ (by decide)) (hzz.1 _ _ (by decide)) dX11_lowerOf_46 (by decide) (fun c10_ => ?_) (fun c10_ => ?_)
          · replace hF := ZtN c10_ hF
            exact w_X11_lowerOf_b58 S hr hlk hR hdj _ _ _ _ _ hF hw hzz hx1 (lv_sub hl [1] rfl)
          · replace hF := ZtP c10_ hF
            refine lv_iload_n S.1 S.2.1 dX11_lowerOf_49 rfl (lv_at hl 3 rfl) ?_
            refine lv_iload_n S.1 S.2.1 dX11_lowerOf_50 rfl (lv_at hl 1 rfl) ?_
            refine Yicmp_ge (tgt := 58) S hx3 hx1 dX11_lowerOf_51 (by decide) (fun c11_ => ?_) (fun c11_ => ?_)
            · replace hF := ZtP c11_ hF
              exact w_X11_lowerOf_b58 S hr hlk hR hdj _ _ _ _ _ hF hw hzz hx1 (lv_sub hl [1] rfl)
            · replace hF := ZtN c11_ hF
              exact w_X11_lowerOf_b54 S hr hlk hR hdj _ _ _ _ _ hF hw hzz hx3 (lv_sub hl [3] rfl))
set_option maxRecDepth 100000 in
set_option maxHeartbeats 4000000 in
theorem w_X11_downOf_b74 {RR : Int × ZI} (S : CallFix p m c cX11_downOf 3 s args Ztbl RX11) (hr : meth.sig.returnType = some .int) (hlk : meth.locks = false) (hR : 1 ≤ R.frames ∧ 60 * (1) ≤ R.locals) (hdj : Zdj ad) : ∀ (z : ZI) (x2 : Int) (H : Heap) (locs : List Loc) (ls : Array Slot), X11_downOf_b74 z x2 = some RR → ZW D cA ad (ZA ad) (Zc z) s H locs → Zok z → InR x2 → lv_has ls 3 [(2, .int (i32 (x2)))] → W p l e R s m args below meth c H locs 0 0 (MQ below (YQi D cA ad RR.1 RR.2) args s 0 0 (ZA ad)) (F0 m 74 ls []) := by
  intro z x2 H locs ls hF hw hzz hx2 hl
  unfold X11_downOf_b74 at hF
  refine lv_iload_n S.1 S.2.1 dX11_downOf_74 rfl (lv_at hl 0 rfl) ?_
  exact Yireti S hw hzz hx2 hr hlk hF dX11_downOf_75
set_option maxRecDepth 100000 in
set_option maxHeartbeats 4000000 in
theorem w_X11_downOf_b56 {RR : Int × ZI} (S : CallFix p m c cX11_downOf 3 s args Ztbl RX11) (hr : meth.sig.returnType = some .int) (hlk : meth.locks = false) (hR : 1 ≤ R.frames ∧ 60 * (1) ≤ R.locals) (hdj : Zdj ad) : ∀ (z : ZI) (x1 : Int) (x2 : Int) (H : Heap) (locs : List Loc) (ls : Array Slot), X11_downOf_b56 z x1 x2 = some RR → ZW D cA ad (ZA ad) (Zc z) s H locs → Zok z → InR x1 → InR x2 → lv_has ls 3 [(0, .ref (ad 68)), (1, .int (i32 (x1))), (2, .int (i32 (x2)))] → W p l e R s m args below meth c H locs 0 0 (MQ below (YQi D cA ad RR.1 RR.2) args s 0 0 (ZA ad)) (F0 m 56 ls []) := by
  intro z x1 x2 H locs ls hF hw hzz hx1 hx2 hl
  unfold X11_downOf_b56 at hF
  refine lv_iload_n S.1 S.2.1 dX11_downOf_56 rfl (lv_at hl 1 rfl) ?_
  refine lv_sipush (v := i32 132) S.1 S.2.1 dX11_downOf_57 sp_132 ?_
  refine Yicmp_ge (tgt := 74) S hx1 r_132 dX11_downOf_60 (by decide) (fun c1_ => ?_) (fun c1_ => ?_)
  · replace hF := ZtP c1_ hF
    exact w_X11_downOf_b74 S hr hlk hR hdj _ _ _ _ _ hF hw hzz hx2 (lv_sub hl [2] rfl)
  · replace hF := ZtN c1_ hF
    refine lv_aload_n S.1 S.2.1 dX11_downOf_63 rfl (lv_at hl 0 rfl) ?_
    refine lv_iload_n S.1 S.2.1 dX11_downOf_64 rfl (lv_at hl 2 rfl) ?_
    refine lv_iload_n S.1 S.2.1 dX11_downOf_65 rfl (lv_at hl 1 rfl) ?_
    refine lv_iload_n S.1 S.2.1 dX11_downOf_66 rfl (lv_at hl 1 rfl) ?_
    refine lv_bipush (v := i32 12) S.1 S.2.1 dX11_downOf_67 bp_12 ?_
    obtain ⟨g2_, hF⟩ := Zgs hF
    refine Yiadd S dX11_downOf_69 ?_
    obtain ⟨r5_, z3_, h4_, hF⟩ := Ybs hF
    refine YcallVi (rest := []) S hw (c_X11_lowerOf hdj hzz hx2 hx1 g2_ h4_) my_X11_lowerOf mi_X11_lowerOf ml_X11_217 zd_68 zc_X11 rfl (Zrr hR (by decide)) ⟨Nat.zero_le _, Nat.zero_le _⟩ hl.1 rfl rfl (Nat.le_of_ble_eq_true rfl) dX11_downOf_70 (fun hrr5_ hzz3_ H locs hw => ?_)
    refine lv_istore_n (lv' := [(2, .int (i32 (r5_))), (0, .ref (ad 68)), (1, .int (i32 (x1)))]) S.1 S.2.1 dX11_downOf_73 rfl hl (by decide) rfl (fun ls hl => ?_)
    exact w_X11_downOf_b74 S hr hlk hR hdj _ _ _ _ _ hF hw hzz3_ hrr5_ (lv_sub hl [0] rfl)
set_option maxRecDepth 100000 in
set_option maxHeartbeats 4000000 in
theorem w_X11_downOf_b37 {RR : Int × ZI} (S : CallFix p m c cX11_downOf 3 s args Ztbl RX11) (hr : meth.sig.returnType = some .int) (hlk : meth.locks = false) (hR : 1 ≤ R.frames ∧ 60 * (1) ≤ R.locals) (hdj : Zdj ad) : ∀ (z : ZI) (x1 : Int) (x2 : Int) (H : Heap) (locs : List Loc) (ls : Array Slot), X11_downOf_b37 z x1 x2 = some RR → ZW D cA ad (ZA ad) (Zc z) s H locs → Zok z → InR x1 → InR x2 → lv_has ls 3 [(0, .ref (ad 68)), (1, .int (i32 (x1))), (2, .int (i32 (x2)))] → W p l e R s m args below meth c H locs 0 0 (MQ below (YQi D cA ad RR.1 RR.2) args s 0 0 (ZA ad)) (F0 m 37 ls []) := by
  intro z x1 x2 H locs ls hF hw hzz hx1 hx2 hl
  unfold X11_downOf_b37 at hF
  refine lv_iload_n S.1 S.2.1 dX11_downOf_37 rfl (lv_at hl 1 rfl) ?_
  refine lv_bipush (v := i32 12) S.1 S.2.1 dX11_downOf_38 bp_12 ?_
  refine Yirem S hx1 r_12 (by decide) dX11_downOf_40 ?_
  refine lv_bipush (v := i32 11) S.1 S.2.1 dX11_downOf_41 bp_11 ?_
  refine Yicmp_ge (tgt := 56) S (InR_tmod hx1) r_11 dX11_downOf_43 (by decide) (fun c1_ => ?_) (fun c1_ => ?_)
  · replace hF := ZtP c1_ hF
    exact w_X11_downOf_b56 S hr hlk hR hdj _ _ _ _ _ _ hF hw hzz hx1 hx2 (lv_sub hl [0, 1, 2] rfl)
  · replace hF := ZtN c1_ hF
    refine lv_aload_n S.1 S.2.1 dX11_downOf_46 rfl (lv_at hl 0 rfl) ?_
    refine lv_iload_n S.1 S.2.1 dX11_downOf_47 rfl (lv_at hl 2 rfl) ?_
    refine lv_iload_n S.1 S.2.1 dX11_downOf_48 rfl (lv_at hl 1 rfl) ?_
    refine lv_iload_n S.1 S.2.1 dX11_downOf_49 rfl (lv_at hl 1 rfl) ?_
    refine lv_iconst (v := i32 1) S.1 S.2.1 dX11_downOf_50 ic_1 ?_
    obtain ⟨g2_, hF⟩ := Zgs hF
    refine Yiadd S dX11_downOf_51 ?_
    obtain ⟨r5_, z3_, h4_, hF⟩ := Ybs hF
    refine YcallVi (rest := []) S hw (c_X11_lowerOf hdj hzz hx2 hx1 g2_ h4_) my_X11_lowerOf mi_X11_lowerOf ml_X11_217 zd_68 zc_X11 rfl (Zrr hR (by decide)) ⟨Nat.zero_le _, Nat.zero_le _⟩ hl.1 rfl rfl (Nat.le_of_ble_eq_true rfl) dX11_downOf_52 (fun hrr5_ hzz3_ H locs hw => ?_)
    refine lv_istore_n (lv' := [(2, .int (i32 (r5_))), (0, .ref (ad 68)), (1, .int (i32 (x1)))]) S.1 S.2.1 dX11_downOf_55 rfl hl (by decide) rfl (fun ls hl => ?_)
    exact w_X11_downOf_b56 S hr hlk hR hdj _ _ _ _ _ _ hF hw hzz3_ hx1 hrr5_ (lv_sub hl [1, 2, 0] rfl)
set_option maxRecDepth 100000 in
set_option maxHeartbeats 4000000 in
theorem w_X11_downOf_b20 {RR : Int × ZI} (S : CallFix p m c cX11_downOf 3 s args Ztbl RX11) (hr : meth.sig.returnType = some .int) (hlk : meth.locks = false) (hR : 1 ≤ R.frames ∧ 60 * (1) ≤ R.locals) (hdj : Zdj ad) : ∀ (z : ZI) (x1 : Int) (x2 : Int) (H : Heap) (locs : List Loc) (ls : Array Slot), X11_downOf_b20 z x1 x2 = some RR → ZW D cA ad (ZA ad) (Zc z) s H locs → Zok z → InR x1 → InR x2 → lv_has ls 3 [(0, .ref (ad 68)), (1, .int (i32 (x1))), (2, .int (i32 (x2)))] → W p l e R s m args below meth c H locs 0 0 (MQ below (YQi D cA ad RR.1 RR.2) args s 0 0 (ZA ad)) (F0 m 20 ls []) := by
  intro z x1 x2 H locs ls hF hw hzz hx1 hx2 hl
  unfold X11_downOf_b20 at hF
  refine lv_iload_n S.1 S.2.1 dX11_downOf_20 rfl (lv_at hl 1 rfl) ?_
  refine lv_bipush (v := i32 12) S.1 S.2.1 dX11_downOf_21 bp_12 ?_
  refine Yirem S hx1 r_12 (by decide) dX11_downOf_23 ?_
  refine Yif_le (tgt := 37) S (InR_tmod hx1) dX11_downOf_24 (by decide) (fun c1_ => ?_) (fun c1_ => ?_)
  · replace hF := ZtP c1_ hF
    exact w_X11_downOf_b37 S hr hlk hR hdj _ _ _ _ _ _ hF hw hzz hx1 hx2 (lv_sub hl [0, 1, 2] rfl)
  · replace hF := ZtN c1_ hF
    refine lv_aload_n S.1 S.2.1 dX11_downOf_27 rfl (lv_at hl 0 rfl) ?_
    refine lv_iload_n S.1 S.2.1 dX11_downOf_28 rfl (lv_at hl 2 rfl) ?_
    refine lv_iload_n S.1 S.2.1 dX11_downOf_29 rfl (lv_at hl 1 rfl) ?_
    refine lv_iload_n S.1 S.2.1 dX11_downOf_30 rfl (lv_at hl 1 rfl) ?_
    refine lv_iconst (v := i32 1) S.1 S.2.1 dX11_downOf_31 ic_1 ?_
    obtain ⟨g2_, hF⟩ := Zgs hF
    refine Yisub S dX11_downOf_32 ?_
    obtain ⟨r5_, z3_, h4_, hF⟩ := Ybs hF
    refine YcallVi (rest := []) S hw (c_X11_lowerOf hdj hzz hx2 hx1 g2_ h4_) my_X11_lowerOf mi_X11_lowerOf ml_X11_217 zd_68 zc_X11 rfl (Zrr hR (by decide)) ⟨Nat.zero_le _, Nat.zero_le _⟩ hl.1 rfl rfl (Nat.le_of_ble_eq_true rfl) dX11_downOf_33 (fun hrr5_ hzz3_ H locs hw => ?_)
    refine lv_istore_n (lv' := [(2, .int (i32 (r5_))), (0, .ref (ad 68)), (1, .int (i32 (x1)))]) S.1 S.2.1 dX11_downOf_36 rfl hl (by decide) rfl (fun ls hl => ?_)
    exact w_X11_downOf_b37 S hr hlk hR hdj _ _ _ _ _ _ hF hw hzz3_ hx1 hrr5_ (lv_sub hl [1, 2, 0] rfl)
set_option maxRecDepth 100000 in
set_option maxHeartbeats 4000000 in
theorem c_X11_downOf {l : Launch} {D : va_G} {cA : Nat → ClassId} {ad : Nat → Nat} (hdj : Zdj ad) {z z1 : ZI} {x1 : Int} {r : Int} (hzz : Zok z) (hx1 : InR x1) (hF : F_X11_downOf z x1 = some (r, z1)) : YMi l D cA ad (1) yX11_downOf cX11_downOf 3 (some .int) [.ref (ad 68), .int (i32 x1)] z r z1 :=
  Zmet hdj (by decide) rfl (Nat.le_of_ble_eq_true rfl) (lv := [(0, .ref (ad 68)), (1, .int (i32 (x1)))]) rfl (fun p e s m args below meth c ls S hr hlk hw hl => by
    have hR : 1 ≤ (Zrm (1)).frames ∧ 60 * (1) ≤ (Zrm (1)).locals := ⟨Nat.le_refl _, Nat.le_refl _⟩
    unfold F_X11_downOf at hF
    revert hR
    generalize Zrm (1) = R
    intro hR
    refine lv_bipush (v := i32 (-9)) S.1 S.2.1 dX11_downOf_0 bp_m9 ?_
    refine lv_istore_n (lv' := [(2, .int (i32 ((-9)))), (0, .ref (ad 68)), (1, .int (i32 (x1)))]) S.1 S.2.1 dX11_downOf_2 rfl hl (by decide) rfl (fun ls hl => ?_)
    refine lv_iload_n S.1 S.2.1 dX11_downOf_3 rfl (lv_at hl 2 rfl) ?_
    refine lv_bipush (v := i32 12) S.1 S.2.1 dX11_downOf_4 bp_12 ?_
    refine Yicmp_lt (tgt := 20) S hx1 r_12 dX11_downOf_6 (by decide) (fun c1_ => ?_) (fun c1_ => ?_)
    · replace hF := ZtP c1_ hF
      exact w_X11_downOf_b20 S hr hlk hR hdj _ _ _ _ _ _ hF hw hzz hx1 r_m9 (lv_sub hl [1, 2, 0] rfl)
    · replace hF := ZtN c1_ hF
      refine lv_aload_n S.1 S.2.1 dX11_downOf_9 rfl (lv_at hl 1 rfl) ?_
      refine lv_iload_n S.1 S.2.1 dX11_downOf_10 rfl (lv_at hl 0 rfl) ?_
      refine lv_iload_n S.1 S.2.1 dX11_downOf_11 rfl (lv_at hl 2 rfl) ?_
      refine lv_iload_n S.1 S.2.1 dX11_downOf_12 rfl (lv_at hl 2 rfl) ?_
      refine lv_bipush (v := i32 12) S.1 S.2.1 dX11_downOf_13 bp_12 ?_
      obtain ⟨g2_, hF⟩ := Zgs hF
      refine Yisub S dX11_downOf_15 ?_
      obtain ⟨r5_, z3_, h4_, hF⟩ := Ybs hF
      refine YcallVi (rest := []) S hw (c_X11_lowerOf hdj hzz r_m9 hx1 g2_ h4_) my_X11_lowerOf mi_X11_lowerOf ml_X11_217 zd_68 zc_X11 rfl (Zrr hR (by decide)) ⟨Nat.zero_le _, Nat.zero_le _⟩ hl.1 rfl rfl (Nat.le_of_ble_eq_true rfl) dX11_downOf_16 (fun hrr5_ hzz3_ H locs hw => ?_)
      refine lv_istore_n (lv' := [(2, .int (i32 (r5_))), (0, .ref (ad 68)), (1, .int (i32 (x1)))]) S.1 S.2.1 dX11_downOf_19 rfl hl (by decide) rfl (fun ls hl => ?_)
      exact w_X11_downOf_b20 S hr hlk hR hdj _ _ _ _ _ _ hF hw hzz3_ hx1 hrr5_ (lv_sub hl [1, 2, 0] rfl))
set_option maxRecDepth 100000 in
set_option maxHeartbeats 4000000 in
theorem w_X11_isCell_b16 {RR : Int × ZI} (S : CallFix p m c cX11_isCell 1 s args Ztbl RX11) (hr : meth.sig.returnType = some .boolean) (hlk : meth.locks = false) (hR : 0 ≤ R.frames ∧ 60 * (0) ≤ R.locals) (hdj : Zdj ad) : ∀ (z : ZI) (y0 : Int) (H : Heap) (locs : List Loc) (ls : Array Slot), X11_isCell_b16 z y0 = some RR → ZW D cA ad (ZA ad) (Zc z) s H locs → Zok z → InR y0 → lv_has ls 1 [] → W p l e R s m args below meth c H locs 0 0 (MQ below (YQi D cA ad RR.1 RR.2) args s 0 0 (ZA ad)) (F0 m 16 ls [.int (i32 (y0))]) := by
  intro z y0 H locs ls hF hw hzz hy0 hl
  unfold X11_isCell_b16 at hF
  obtain ⟨b1_, hF⟩ := Zgs hF
  exact Yiretz S hw hzz hy0 hr hlk b1_ hF dX11_isCell_16
set_option maxRecDepth 100000 in
set_option maxHeartbeats 4000000 in
theorem w_X11_isCell_b15 {RR : Int × ZI} (S : CallFix p m c cX11_isCell 1 s args Ztbl RX11) (hr : meth.sig.returnType = some .boolean) (hlk : meth.locks = false) (hR : 0 ≤ R.frames ∧ 60 * (0) ≤ R.locals) (hdj : Zdj ad) : ∀ (z : ZI) (H : Heap) (locs : List Loc) (ls : Array Slot), X11_isCell_b15 z  = some RR → ZW D cA ad (ZA ad) (Zc z) s H locs → Zok z → lv_has ls 1 [] → W p l e R s m args below meth c H locs 0 0 (MQ below (YQi D cA ad RR.1 RR.2) args s 0 0 (ZA ad)) (F0 m 15 ls []) := by
  intro z  H locs ls hF hw hzz  hl
  unfold X11_isCell_b15 at hF
  refine lv_iconst (v := i32 0) S.1 S.2.1 dX11_isCell_15 ic_0 ?_
  exact w_X11_isCell_b16 S hr hlk hR hdj _ _ _ _ _ hF hw hzz r_0 (lv_sub hl [] rfl)
set_option maxRecDepth 100000 in
set_option maxHeartbeats 4000000 in
theorem c_X11_isCell {l : Launch} {D : va_G} {cA : Nat → ClassId} {ad : Nat → Nat} (hdj : Zdj ad) {z z1 : ZI} {x0 : Int} {r : Int} (hzz : Zok z) (hx0 : InR x0) (hF : F_X11_isCell z x0 = some (r, z1)) : YMi l D cA ad (0) yX11_isCell cX11_isCell 1 (some .boolean) [.int (i32 x0)] z r z1 :=
  Zmet hdj (by decide) rfl (Nat.le_of_ble_eq_true rfl) (lv := [(0, .int (i32 (x0)))]) rfl (fun p e s m args below meth c ls S hr hlk hw hl => by
    have hR : 0 ≤ (Zrm (0)).frames ∧ 60 * (0) ≤ (Zrm (0)).locals := ⟨Nat.le_refl _, Nat.le_refl _⟩
    unfold F_X11_isCell at hF
    revert hR
    generalize Zrm (0) = R
    intro hR
    refine lv_iload_n S.1 S.2.1 dX11_isCell_0 rfl (lv_at hl 0 rfl) ?_
    refine Yif_lt (tgt := 15) S hx0 dX11_isCell_1 (by decide) (fun c1_ => ?_) (fun c1_ => ?_)
    · replace hF := ZtP c1_ hF
      exact w_X11_isCell_b15 S hr hlk hR hdj _ _ _ _ hF hw hzz  (lv_sub hl [] rfl)
    · replace hF := ZtN c1_ hF
      refine lv_iload_n S.1 S.2.1 dX11_isCell_4 rfl (lv_at hl 0 rfl) ?_
      refine lv_sipush (v := i32 144) S.1 S.2.1 dX11_isCell_5 sp_144 ?_
      refine Yicmp_ge (tgt := 15) S hx0 r_144 dX11_isCell_8 (by decide) (fun c2_ => ?_) (fun c2_ => ?_)
      · replace hF := ZtP c2_ hF
        exact w_X11_isCell_b15 S hr hlk hR hdj _ _ _ _ hF hw hzz  (lv_sub hl [] rfl)
      · replace hF := ZtN c2_ hF
        refine lv_iconst (v := i32 1) S.1 S.2.1 dX11_isCell_11 ic_1 ?_
        refine lv_goto (tgt := 16) S.1 S.2.1 dX11_isCell_12 (by decide) ?_
        exact w_X11_isCell_b16 S hr hlk hR hdj _ _ _ _ _ hF hw hzz r_1 (lv_sub hl [] rfl))
set_option maxRecDepth 100000 in
set_option maxHeartbeats 4000000 in
theorem w_X11_down_b20 {RR : Int × ZI} (S : CallFix p m c cX11_down 2 s args Ztbl RX11) (hr : meth.sig.returnType = some .int) (hlk : meth.locks = false) (hR : 2 ≤ R.frames ∧ 60 * (2) ≤ R.locals) (hdj : Zdj ad) : ∀ (z : ZI) (y0 : Int) (H : Heap) (locs : List Loc) (ls : Array Slot), X11_down_b20 z y0 = some RR → ZW D cA ad (ZA ad) (Zc z) s H locs → Zok z → InR y0 → lv_has ls 2 [] → W p l e R s m args below meth c H locs 0 0 (MQ below (YQi D cA ad RR.1 RR.2) args s 0 0 (ZA ad)) (F0 m 20 ls [.int (i32 (y0))]) := by
  intro z y0 H locs ls hF hw hzz hy0 hl
  unfold X11_down_b20 at hF
  exact Yireti S hw hzz hy0 hr hlk hF dX11_down_20
set_option maxRecDepth 100000 in
set_option maxHeartbeats 4000000 in
theorem c_X11_down {l : Launch} {D : va_G} {cA : Nat → ClassId} {ad : Nat → Nat} (hdj : Zdj ad) {z z1 : ZI} {x1 : Int} {r : Int} (hzz : Zok z) (hx1 : InR x1) (hF : F_X11_down z x1 = some (r, z1)) : YMi l D cA ad (2) yX11_down cX11_down 2 (some .int) [.ref (ad 68), .int (i32 x1)] z r z1 :=
  Zmet hdj (by decide) rfl (Nat.le_of_ble_eq_true rfl) (lv := [(0, .ref (ad 68)), (1, .int (i32 (x1)))]) rfl (fun p e s m args below meth c ls S hr hlk hw hl => by
    have hR : 2 ≤ (Zrm (2)).frames ∧ 60 * (2) ≤ (Zrm (2)).locals := ⟨Nat.le_refl _, Nat.le_refl _⟩
    unfold F_X11_down at hF
    revert hR
    generalize Zrm (2) = R
    intro hR
    refine lv_iload_n S.1 S.2.1 dX11_down_0 rfl (lv_at hl 1 rfl) ?_
    obtain ⟨r3_, z1_, h2_, hF⟩ := Ybs hF
    refine YcallSi (rest := []) S hw (c_X11_isCell hdj hzz hx1 h2_) my_X11_isCell ms_X11_isCell ml_X11_211 (Zrr hR (by decide)) ⟨Nat.zero_le _, Nat.zero_le _⟩ hl.1 rfl rfl (Nat.le_of_ble_eq_true rfl) dX11_down_1 (fun hrr3_ hzz1_ H locs hw => ?_)
    refine Yif_eq (tgt := 15) S hrr3_ dX11_down_4 (by decide) (fun c4_ => ?_) (fun c4_ => ?_)
    · replace hF := ZtP c4_ hF
      refine lv_aload_n S.1 S.2.1 dX11_down_15 rfl (lv_at hl 0 rfl) ?_
      refine lv_iconst (v := i32 (-1)) S.1 S.2.1 dX11_down_16 ic_m1 ?_
      obtain ⟨r7_, z5_, h6_, hF⟩ := Ybs hF
      refine YcallVi (rest := []) S hw (c_X11_no hdj hzz1_ r_m1 h6_) my_X11_no mi_X11_no ml_X11_207 zd_68 zc_X11 rfl (Zrr hR (by decide)) ⟨Nat.zero_le _, Nat.zero_le _⟩ hl.1 rfl rfl (Nat.le_of_ble_eq_true rfl) dX11_down_17 (fun hrr7_ hzz5_ H locs hw => ?_)
      exact w_X11_down_b20 S hr hlk hR hdj _ _ _ _ _ hF hw hzz5_ hrr7_ (lv_sub hl [] rfl)
    · replace hF := ZtN c4_ hF
      refine lv_aload_n S.1 S.2.1 dX11_down_7 rfl (lv_at hl 0 rfl) ?_
      refine lv_iload_n S.1 S.2.1 dX11_down_8 rfl (lv_at hl 1 rfl) ?_
      obtain ⟨r10_, z8_, h9_, hF⟩ := Ybs hF
      refine YcallVi (rest := []) S hw (c_X11_downOf hdj hzz1_ hx1 h9_) my_X11_downOf mi_X11_downOf ml_X11_221 zd_68 zc_X11 rfl (Zrr hR (by decide)) ⟨Nat.zero_le _, Nat.zero_le _⟩ hl.1 rfl rfl (Nat.le_of_ble_eq_true rfl) dX11_down_9 (fun hrr10_ hzz8_ H locs hw => ?_)
      refine lv_goto (tgt := 20) S.1 S.2.1 dX11_down_12 (by decide) ?_
      exact w_X11_down_b20 S hr hlk hR hdj _ _ _ _ _ hF hw hzz8_ hrr10_ (lv_sub hl [] rfl))
set_option maxRecDepth 100000 in
set_option maxHeartbeats 4000000 in
theorem w_X11_drain_b46 {RR : Int × ZI} (S : CallFix p m c cX11_drain 3 s args Ztbl RX11) (hr : meth.sig.returnType = some .int) (hlk : meth.locks = false) (hR : 1 ≤ R.frames ∧ 60 * (1) ≤ R.locals) (hdj : Zdj ad) : ∀ (z : ZI) (x1 : Int) (H : Heap) (locs : List Loc) (ls : Array Slot), X11_drain_b46 z x1 = some RR → ZW D cA ad (ZA ad) (Zc z) s H locs → Zok z → InR x1 → lv_has ls 3 [(0, .ref (ad 68)), (1, .int (i32 (x1)))] → W p l e R s m args below meth c H locs 0 0 (MQ below (YQi D cA ad RR.1 RR.2) args s 0 0 (ZA ad)) (F0 m 46 ls []) := by
  intro z x1 H locs ls hF hw hzz hx1 hl
  unfold X11_drain_b46 at hF
  refine lv_aload_n S.1 S.2.1 dX11_drain_46 rfl (lv_at hl 0 rfl) ?_
  refine gg_X11_412 S hw dX11_drain_47 ?_
  refine lv_bipush (v := i32 10) S.1 S.2.1 dX11_drain_50 bp_10 ?_
  refine Yicmp_ne (tgt := 62) S (hzz.1 68 62 (by decide)) r_10 dX11_drain_52 (by decide) (fun c1_ => ?_) (fun c1_ => ?_)
  · replace hF := ZtN c1_ hF
    refine lv_aload_n S.1 S.2.1 dX11_drain_62 rfl (lv_at hl 0 rfl) ?_
    refine gf_X11_135 S hw dX11_drain_63 ?_
    refine lv_aload_n S.1 S.2.1 dX11_drain_66 rfl (lv_at hl 0 rfl) ?_
    refine gg_X11_412 S hw dX11_drain_67 ?_
    refine lv_iload_n S.1 S.2.1 dX11_drain_70 rfl (lv_at hl 1 rfl) ?_
    obtain ⟨b2_, hF⟩ := Zgs hF
    refine Yiast S hw hzz zd_110 (by decide) (hzz.1 68 62 (by decide)) hx1 b2_ dX11_drain_71 (fun z3_ H locs ez hzz3_ hw => ?_)
    replace hF := Zle ez hF; clear ez
    refine lv_aload_n S.1 S.2.1 dX11_drain_72 rfl (lv_at hl 0 rfl) ?_
    refine lv_dup S.1 S.2.1 dX11_drain_73 rfl ?_
    refine gg_X11_412 S hw dX11_drain_74 ?_
    refine lv_iconst (v := i32 1) S.1 S.2.1 dX11_drain_77 ic_1 ?_
    obtain ⟨g4_, hF⟩ := Zgs hF
    refine Yiadd S dX11_drain_78 ?_
    refine pp_X11_412 S hw hzz3_ g4_ dX11_drain_79 (fun z5_ H locs ez hzz5_ hw => ?_)
    replace hF := Zle ez hF; clear ez
    refine lv_aload_n S.1 S.2.1 dX11_drain_82 rfl (lv_at hl 0 rfl) ?_
    refine gg_X11_412 S hw dX11_drain_83 ?_
    refine lv_iconst (v := i32 1) S.1 S.2.1 dX11_drain_86 ic_1 ?_
    obtain ⟨g6_, hF⟩ := Zgs hF
    refine Yisub S dX11_drain_87 ?_
    exact Yireti S hw hzz5_ g6_ hr hlk hF dX11_drain_88
  · replace hF := ZtP c1_ hF
    refine lv_aload_n S.1 S.2.1 dX11_drain_55 rfl (lv_at hl 0 rfl) ?_
    refine lv_bipush (v := i32 (-6)) S.1 S.2.1 dX11_drain_56 bp_m6 ?_
    obtain ⟨r9_, z7_, h8_, hF⟩ := Ybs hF
    refine YcallVi (rest := []) S hw (c_X11_no hdj hzz r_m6 h8_) my_X11_no mi_X11_no ml_X11_207 zd_68 zc_X11 rfl (Zrr hR (by decide)) ⟨Nat.zero_le _, Nat.zero_le _⟩ hl.1 rfl rfl (Nat.le_of_ble_eq_true rfl) dX11_drain_58 (fun hrr9_ hzz7_ H locs hw => ?_)
    exact Yireti S hw hzz7_ hrr9_ hr hlk hF dX11_drain_61
set_option maxRecDepth 100000 in
set_option maxHeartbeats 4000000 in
theorem w_X11_drain_b33 {RR : Int × ZI} (S : CallFix p m c cX11_drain 3 s args Ztbl RX11) (hr : meth.sig.returnType = some .int) (hlk : meth.locks = false) (hR : 1 ≤ R.frames ∧ 60 * (1) ≤ R.locals) (hdj : Zdj ad) : ∀ (z : ZI) (H : Heap) (locs : List Loc) (ls : Array Slot), X11_drain_b33 z  = some RR → ZW D cA ad (ZA ad) (Zc z) s H locs → Zok z → lv_has ls 3 [(0, .ref (ad 68))] → W p l e R s m args below meth c H locs 0 0 (MQ below (YQi D cA ad RR.1 RR.2) args s 0 0 (ZA ad)) (F0 m 33 ls []) := by
  intro z  H locs ls hF hw hzz  hl
  unfold X11_drain_b33 at hF
  refine lv_aload_n S.1 S.2.1 dX11_drain_33 rfl (lv_at hl 0 rfl) ?_
  refine lv_bipush (v := i32 (-3)) S.1 S.2.1 dX11_drain_34 bp_m3 ?_
  obtain ⟨r3_, z1_, h2_, hF⟩ := Ybs hF
  refine YcallVi (rest := []) S hw (c_X11_no hdj hzz r_m3 h2_) my_X11_no mi_X11_no ml_X11_207 zd_68 zc_X11 rfl (Zrr hR (by decide)) ⟨Nat.zero_le _, Nat.zero_le _⟩ hl.1 rfl rfl (Nat.le_of_ble_eq_true rfl) dX11_drain_36 (fun hrr3_ hzz1_ H locs hw => ?_)
  exact Yireti S hw hzz1_ hrr3_ hr hlk hF dX11_drain_39
set_option maxRecDepth 100000 in
set_option maxHeartbeats 4000000 in
theorem w_X11_drain_L15 {RR : Int × ZI} (S : CallFix p m c cX11_drain 3 s args Ztbl RX11) (hr : meth.sig.returnType = some .int) (hlk : meth.locks = false) (hR : 1 ≤ R.frames ∧ 60 * (1) ≤ R.locals) (hdj : Zdj ad) : ∀ (n : Nat) (z : ZI) (x1 : Int) (x2 : Int) (H : Heap) (locs : List Loc) (ls : Array Slot), X11_drain_L15 n z x1 x2 = some RR → ZW D cA ad (ZA ad) (Zc z) s H locs → Zok z → InR x1 → InR x2 → lv_has ls 3 [(0, .ref (ad 68)), (1, .int (i32 (x1))), (2, .int (i32 (x2)))] → W p l e R s m args below meth c H locs 0 0 (MQ below (YQi D cA ad RR.1 RR.2) args s 0 0 (ZA ad)) (F0 m 15 ls []) := by
  intro n
  induction n with
  | zero => intro z x1 x2 H locs ls hF; exact nomatch hF
  | succ n hk15 =>
    intro z x1 x2 H locs ls hF hw hzz hx1 hx2 hl
    replace hF : X11_drain_L15b (X11_drain_L15 n) z x1 x2 = some RR := hF
    unfold X11_drain_L15b at hF
    refine lv_iload_n S.1 S.2.1 dX11_drain_15 rfl (lv_at hl 2 rfl) ?_
    refine lv_aload_n S.1 S.2.1 dX11_drain_16 rfl (lv_at hl 0 rfl) ?_
    refine gg_X11_412 S hw dX11_drain_17 ?_
    refine Yicmp_ge (tgt := 46) S hx2 (hzz.1 68 62 (by decide)) dX11_drain_20 (by decide) (fun c1_ => ?_) (fun c1_ => ?_)
    · replace hF := ZtP c1_ hF
      exact w_X11_drain_b46 S hr hlk hR hdj _ _ _ _ _ hF hw hzz hx1 (lv_sub hl [0, 1] rfl)
    · replace hF := ZtN c1_ hF
      refine lv_aload_n S.1 S.2.1 dX11_drain_23 rfl (lv_at hl 0 rfl) ?_
      refine gf_X11_135 S hw dX11_drain_24 ?_
      refine lv_iload_n S.1 S.2.1 dX11_drain_27 rfl (lv_at hl 2 rfl) ?_
      obtain ⟨b2_, hF⟩ := Zgs hF
      refine Yiald S hw zd_110 (by decide) hx2 b2_ dX11_drain_28 ?_
      refine lv_iload_n S.1 S.2.1 dX11_drain_29 rfl (lv_at hl 1 rfl) ?_
      refine Yicmp_ne (tgt := 40) S (hzz.1 _ _ (by decide)) hx1 dX11_drain_30 (by decide) (fun c3_ => ?_) (fun c3_ => ?_)
      · replace hF := ZtN c3_ hF
        obtain ⟨g4_, hF⟩ := Zgs hF
        refine lv_iinc (v := i32 (x2 + 1)) (lv' := [(2, .int (i32 (x2 + 1))), (0, .ref (ad 68)), (1, .int (i32 (x1)))]) S.1 S.2.1 dX11_drain_40 hl (k := 2) rfl Yiinc (by decide) rfl (fun ls hl => ?_)
        refine lv_goto (tgt := 15) S.1 S.2.1 dX11_drain_43 (by decide) ?_
        exact hk15 _ _ _ _ _ _ hF hw hzz hx1 g4_ (lv_sub hl [1, 2, 0] rfl)
      · replace hF := ZtP c3_ hF
        exact w_X11_drain_b33 S hr hlk hR hdj _ _ _ _ hF hw hzz  (lv_sub hl [0] rfl)
set_option maxRecDepth 100000 in
set_option maxHeartbeats 4000000 in
theorem c_X11_drain {l : Launch} {D : va_G} {cA : Nat → ClassId} {ad : Nat → Nat} (hdj : Zdj ad) {z z1 : ZI} {x1 : Int} {r : Int} (hzz : Zok z) (hx1 : InR x1) (hF : F_X11_drain z x1 = some (r, z1)) : YMi l D cA ad (1) yX11_drain cX11_drain 3 (some .int) [.ref (ad 68), .int (i32 x1)] z r z1 :=
  Zmet hdj (by decide) rfl (Nat.le_of_ble_eq_true rfl) (lv := [(0, .ref (ad 68)), (1, .int (i32 (x1)))]) rfl (fun p e s m args below meth c ls S hr hlk hw hl => by
    have hR : 1 ≤ (Zrm (1)).frames ∧ 60 * (1) ≤ (Zrm (1)).locals := ⟨Nat.le_refl _, Nat.le_refl _⟩
    unfold F_X11_drain at hF
    revert hR
    generalize Zrm (1) = R
    intro hR
    refine lv_iload_n S.1 S.2.1 dX11_drain_0 rfl (lv_at hl 1 rfl) ?_
    obtain ⟨r3_, z1_, h2_, hF⟩ := Ybs hF
    refine YcallSi (rest := []) S hw (c_X11_isCell hdj hzz hx1 h2_) my_X11_isCell ms_X11_isCell ml_X11_211 (Zrr hR (by decide)) ⟨Nat.zero_le _, Nat.zero_le _⟩ hl.1 rfl rfl (Nat.le_of_ble_eq_true rfl) dX11_drain_1 (fun hrr3_ hzz1_ H locs hw => ?_)
    refine Yif_ne (tgt := 13) S hrr3_ dX11_drain_4 (by decide) (fun c4_ => ?_) (fun c4_ => ?_)
    · replace hF := ZtN c4_ hF
      refine lv_iconst (v := i32 0) S.1 S.2.1 dX11_drain_13 ic_0 ?_
      refine lv_istore_n (lv' := [(2, .int (i32 (0))), (0, .ref (ad 68)), (1, .int (i32 (x1)))]) S.1 S.2.1 dX11_drain_14 rfl hl (by decide) rfl (fun ls hl => ?_)
      exact w_X11_drain_L15 S hr hlk hR hdj Zfuel _ _ _ _ _ _ hF hw hzz1_ hx1 r_0 (lv_sub hl [1, 2, 0] rfl)
    · replace hF := ZtP c4_ hF
      refine lv_aload_n S.1 S.2.1 dX11_drain_7 rfl (lv_at hl 0 rfl) ?_
      refine lv_iconst (v := i32 (-1)) S.1 S.2.1 dX11_drain_8 ic_m1 ?_
      obtain ⟨r7_, z5_, h6_, hF⟩ := Ybs hF
      refine YcallVi (rest := []) S hw (c_X11_no hdj hzz1_ r_m1 h6_) my_X11_no mi_X11_no ml_X11_207 zd_68 zc_X11 rfl (Zrr hR (by decide)) ⟨Nat.zero_le _, Nat.zero_le _⟩ hl.1 rfl rfl (Nat.le_of_ble_eq_true rfl) dX11_drain_9 (fun hrr7_ hzz5_ H locs hw => ?_)
      exact Yireti S hw hzz5_ hrr7_ hr hlk hF dX11_drain_12)
set_option maxRecDepth 100000 in
set_option maxHeartbeats 4000000 in
theorem w_X11_findDown_b70 {RR : Unit × ZI} (S : CallFix p m c cX11_findDown 4 s args Ztbl RX11) (hr : meth.sig.returnType = none) (hlk : meth.locks = false) (hR : 2 ≤ R.frames ∧ 60 * (2) ≤ R.locals) (hdj : Zdj ad) {k4 : ZI → Int → Int → Option (Unit × ZI)} (hk4 : ∀ (z : ZI) (x1 : Int) (x2 : Int) (H : Heap) (locs : List Loc) (ls : Array Slot), k4 z x1 x2 = some RR → ZW D cA ad (ZA ad) (Zc z) s H locs → Zok z → InR x1 → InR x2 → lv_has ls 4 [(0, .ref (ad 68)), (1, .int (i32 (x1))), (2, .int (i32 (x2)))] → W p l e R s m args below meth c H locs 0 0 (MQ below (YQv D cA ad RR.2) args s 0 0 (ZA ad)) (F0 m 4 ls [])) : ∀ (z : ZI) (x1 : Int) (x2 : Int) (x3 : Int) (H : Heap) (locs : List Loc) (ls : Array Slot), X11_findDown_b70 k4 z x1 x2 x3 = some RR → ZW D cA ad (ZA ad) (Zc z) s H locs → Zok z → InR x1 → InR x2 → InR x3 → lv_has ls 4 [(0, .ref (ad 68)), (1, .int (i32 (x1))), (2, .int (i32 (x2))), (3, .int (i32 (x3)))] → W p l e R s m args below meth c H locs 0 0 (MQ below (YQv D cA ad RR.2) args s 0 0 (ZA ad)) (F0 m 70 ls []) := by
  intro z x1 x2 x3 H locs ls hF hw hzz hx1 hx2 hx3 hl
  unfold X11_findDown_b70 at hF
  refine lv_aload_n S.1 S.2.1 dX11_findDown_70 rfl (lv_at hl 0 rfl) ?_
  refine gf_X11_150 S hw dX11_findDown_71 ?_
  refine lv_iload_n S.1 S.2.1 dX11_findDown_74 rfl (lv_at hl 3 rfl) ?_
  refine lv_iload_n S.1 S.2.1 dX11_findDown_75 rfl (lv_at hl 2 rfl) ?_
  obtain ⟨b1_, hF⟩ := Zgs hF
  refine Yiast S hw hzz zd_115 (by decide) hx3 hx2 b1_ dX11_findDown_76 (fun z2_ H locs ez hzz2_ hw => ?_)
  replace hF := Zle ez hF; clear ez
  obtain ⟨g3_, hF⟩ := Zgs hF
  refine lv_iinc (v := i32 (x1 + 1)) (lv' := [(1, .int (i32 (x1 + 1))), (0, .ref (ad 68)), (2, .int (i32 (x2))), (3, .int (i32 (x3)))]) S.1 S.2.1 dX11_findDown_77 hl (k := 1) rfl Yiinc (by decide) rfl (fun ls hl => ?_)
  obtain ⟨g4_, hF⟩ := Zgs hF
  refine lv_iinc (v := i32 (x2 + 1)) (lv' := [(2, .int (i32 (x2 + 1))), (1, .int (i32 (x1 + 1))), (0, .ref (ad 68)), (3, .int (i32 (x3)))]) S.1 S.2.1 dX11_findDown_80 hl (k := 2) rfl Yiinc (by decide) rfl (fun ls hl => ?_)
  refine lv_goto (tgt := 4) S.1 S.2.1 dX11_findDown_83 (by decide) ?_
  exact hk4 _ _ _ _ _ _ hF hw hzz2_ g3_ g4_ (lv_sub hl [2, 1, 0] rfl)
set_option maxRecDepth 100000 in
set_option maxHeartbeats 4000000 in
theorem w_X11_findDown_L24 {RR : Unit × ZI} (S : CallFix p m c cX11_findDown 4 s args Ztbl RX11) (hr : meth.sig.returnType = none) (hlk : meth.locks = false) (hR : 2 ≤ R.frames ∧ 60 * (2) ≤ R.locals) (hdj : Zdj ad) {k4 : ZI → Int → Int → Option (Unit × ZI)} (hk4 : ∀ (z : ZI) (x1 : Int) (x2 : Int) (H : Heap) (locs : List Loc) (ls : Array Slot), k4 z x1 x2 = some RR → ZW D cA ad (ZA ad) (Zc z) s H locs → Zok z → InR x1 → InR x2 → lv_has ls 4 [(0, .ref (ad 68)), (1, .int (i32 (x1))), (2, .int (i32 (x2)))] → W p l e R s m args below meth c H locs 0 0 (MQ below (YQv D cA ad RR.2) args s 0 0 (ZA ad)) (F0 m 4 ls [])) : ∀ (n : Nat) (z : ZI) (x1 : Int) (x2 : Int) (x3 : Int) (H : Heap) (locs : List Loc) (ls : Array Slot), X11_findDown_L24 k4 n z x1 x2 x3 = some RR → ZW D cA ad (ZA ad) (Zc z) s H locs → Zok z → InR x1 → InR x2 → InR x3 → lv_has ls 4 [(0, .ref (ad 68)), (1, .int (i32 (x1))), (2, .int (i32 (x2))), (3, .int (i32 (x3)))] → W p l e R s m args below meth c H locs 0 0 (MQ below (YQv D cA ad RR.2) args s 0 0 (ZA ad)) (F0 m 24 ls []) := by
  intro n
  induction n with
  | zero => intro z x1 x2 x3 H locs ls hF; exact nomatch hF
  | succ n hk24 =>
    intro z x1 x2 x3 H locs ls hF hw hzz hx1 hx2 hx3 hl
    replace hF : X11_findDown_L24b k4 (X11_findDown_L24 k4 n) z x1 x2 x3 = some RR := hF
    unfold X11_findDown_L24b at hF
    refine lv_iload_n S.1 S.2.1 dX11_findDown_24 rfl (lv_at hl 3 rfl) ?_
    refine Yif_le (tgt := 70) S hx3 dX11_findDown_25 (by decide) (fun c1_ => ?_) (fun c1_ => ?_)
    · replace hF := ZtP c1_ hF
      exact w_X11_findDown_b70 S hr hlk hR hdj hk4 _ _ _ _ _ _ _ hF hw hzz hx1 hx2 hx3 (lv_sub hl [0, 1, 2, 3] rfl)
    · replace hF := ZtN c1_ hF
      refine lv_aload_n S.1 S.2.1 dX11_findDown_28 rfl (lv_at hl 0 rfl) ?_
      refine gf_X11_13 S hw dX11_findDown_29 ?_
      refine lv_aload_n S.1 S.2.1 dX11_findDown_32 rfl (lv_at hl 0 rfl) ?_
      refine gf_X11_150 S hw dX11_findDown_33 ?_
      refine lv_iload_n S.1 S.2.1 dX11_findDown_36 rfl (lv_at hl 3 rfl) ?_
      refine lv_iconst (v := i32 1) S.1 S.2.1 dX11_findDown_37 ic_1 ?_
      obtain ⟨g2_, hF⟩ := Zgs hF
      refine Yisub S dX11_findDown_38 ?_
      obtain ⟨b3_, hF⟩ := Zgs hF
      refine Yiald S hw zd_115 (by decide) g2_ b3_ dX11_findDown_39 ?_
      obtain ⟨b4_, hF⟩ := Zgs hF
      refine Yiald S hw zd_70 (by decide) (hzz.1 _ _ (by decide)) b4_ dX11_findDown_40 ?_
      refine lv_aload_n S.1 S.2.1 dX11_findDown_41 rfl (lv_at hl 0 rfl) ?_
      refine gf_X11_13 S hw dX11_findDown_42 ?_
      refine lv_iload_n S.1 S.2.1 dX11_findDown_45 rfl (lv_at hl 2 rfl) ?_
      obtain ⟨b5_, hF⟩ := Zgs hF
      refine Yiald S hw zd_70 (by decide) hx2 b5_ dX11_findDown_46 ?_
      refine Yicmp_ge (tgt := 70) S (hzz.1 _ _ (by decide)) (hzz.1 _ _ (by decide)) dX11_findDown_47 (by decide) (fun c6_ => ?_) (fun c6_ => ?_)
      · replace hF := ZtP c6_ hF
        exact w_X11_findDown_b70 S hr hlk hR hdj hk4 _ _ _ _ _ _ _ hF hw hzz hx1 hx2 hx3 (lv_sub hl [0, 1, 2, 3] rfl)
      · replace hF := ZtN c6_ hF
        refine lv_aload_n S.1 S.2.1 dX11_findDown_50 rfl (lv_at hl 0 rfl) ?_
        refine gf_X11_150 S hw dX11_findDown_51 ?_
        refine lv_iload_n S.1 S.2.1 dX11_findDown_54 rfl (lv_at hl 3 rfl) ?_
        refine lv_aload_n S.1 S.2.1 dX11_findDown_55 rfl (lv_at hl 0 rfl) ?_
        refine gf_X11_150 S hw dX11_findDown_56 ?_
        refine lv_iload_n S.1 S.2.1 dX11_findDown_59 rfl (lv_at hl 3 rfl) ?_
        refine lv_iconst (v := i32 1) S.1 S.2.1 dX11_findDown_60 ic_1 ?_
        obtain ⟨g7_, hF⟩ := Zgs hF
        refine Yisub S dX11_findDown_61 ?_
        obtain ⟨b8_, hF⟩ := Zgs hF
        refine Yiald S hw zd_115 (by decide) g7_ b8_ dX11_findDown_62 ?_
        obtain ⟨b9_, hF⟩ := Zgs hF
        refine Yiast S hw hzz zd_115 (by decide) hx3 (hzz.1 _ _ (by decide)) b9_ dX11_findDown_63 (fun z10_ H locs ez hzz10_ hw => ?_)
        replace hF := Zle ez hF; clear ez
        obtain ⟨g11_, hF⟩ := Zgs hF
        refine lv_iinc (v := i32 (x3 + (-1))) (lv' := [(3, .int (i32 (x3 + (-1)))), (0, .ref (ad 68)), (1, .int (i32 (x1))), (2, .int (i32 (x2)))]) S.1 S.2.1 dX11_findDown_64 hl (k := 3) rfl Yiinc (by decide) rfl (fun ls hl => ?_)
        refine lv_goto (tgt := 24) S.1 S.2.1 dX11_findDown_67 (by decide) ?_
        exact hk24 _ _ _ _ _ _ _ hF hw hzz10_ hx1 hx2 g11_ (lv_sub hl [1, 2, 3, 0] rfl)
set_option maxRecDepth 100000 in
set_option maxHeartbeats 4000000 in
theorem w_X11_findDown_L4 {RR : Unit × ZI} (S : CallFix p m c cX11_findDown 4 s args Ztbl RX11) (hr : meth.sig.returnType = none) (hlk : meth.locks = false) (hR : 2 ≤ R.frames ∧ 60 * (2) ≤ R.locals) (hdj : Zdj ad) : ∀ (n : Nat) (z : ZI) (x1 : Int) (x2 : Int) (H : Heap) (locs : List Loc) (ls : Array Slot), X11_findDown_L4 n z x1 x2 = some RR → ZW D cA ad (ZA ad) (Zc z) s H locs → Zok z → InR x1 → InR x2 → lv_has ls 4 [(0, .ref (ad 68)), (1, .int (i32 (x1))), (2, .int (i32 (x2)))] → W p l e R s m args below meth c H locs 0 0 (MQ below (YQv D cA ad RR.2) args s 0 0 (ZA ad)) (F0 m 4 ls []) := by
  intro n
  induction n with
  | zero => intro z x1 x2 H locs ls hF; exact nomatch hF
  | succ n hk4 =>
    intro z x1 x2 H locs ls hF hw hzz hx1 hx2 hl
    replace hF : X11_findDown_L4b (X11_findDown_L4 n) z x1 x2 = some RR := hF
    unfold X11_findDown_L4b at hF
    refine lv_iload_n S.1 S.2.1 dX11_findDown_4 rfl (lv_at hl 2 rfl) ?_
    refine lv_sipush (v := i32 144) S.1 S.2.1 dX11_findDown_5 sp_144 ?_
    refine Yicmp_ge (tgt := 86) S hx2 r_144 dX11_findDown_8 (by decide) (fun c1_ => ?_) (fun c1_ => ?_)
    · replace hF := ZtP c1_ hF
      exact Yvret S hw hzz hr hlk hF dX11_findDown_86
    · replace hF := ZtN c1_ hF
      refine lv_aload_n S.1 S.2.1 dX11_findDown_11 rfl (lv_at hl 0 rfl) ?_
      refine gf_X11_141 S hw dX11_findDown_12 ?_
      refine lv_iload_n S.1 S.2.1 dX11_findDown_15 rfl (lv_at hl 2 rfl) ?_
      refine lv_aload_n S.1 S.2.1 dX11_findDown_16 rfl (lv_at hl 0 rfl) ?_
      refine lv_iload_n S.1 S.2.1 dX11_findDown_17 rfl (lv_at hl 2 rfl) ?_
      obtain ⟨r4_, z2_, h3_, hF⟩ := Ybs hF
      refine YcallVi (rest := [.int (i32 (x2)), .ref (ad 112)]) S hw (c_X11_downOf hdj hzz hx2 h3_) my_X11_downOf mi_X11_downOf ml_X11_221 zd_68 zc_X11 rfl (Zrr hR (by decide)) ⟨Nat.zero_le _, Nat.zero_le _⟩ hl.1 rfl rfl (Nat.le_of_ble_eq_true rfl) dX11_findDown_18 (fun hrr4_ hzz2_ H locs hw => ?_)
      obtain ⟨b5_, hF⟩ := Zgs hF
      refine Yiast S hw hzz2_ zd_112 (by decide) hx2 hrr4_ b5_ dX11_findDown_21 (fun z6_ H locs ez hzz6_ hw => ?_)
      replace hF := Zle ez hF; clear ez
      refine lv_iload_n S.1 S.2.1 dX11_findDown_22 rfl (lv_at hl 1 rfl) ?_
      refine lv_istore_n (lv' := [(3, .int (i32 (x1))), (0, .ref (ad 68)), (1, .int (i32 (x1))), (2, .int (i32 (x2)))]) S.1 S.2.1 dX11_findDown_23 rfl hl (by decide) rfl (fun ls hl => ?_)
      exact w_X11_findDown_L24 S hr hlk hR hdj hk4 Zfuel _ _ _ _ _ _ _ hF hw hzz6_ hx1 hx2 hx1 (lv_sub hl [1, 2, 3, 0] rfl)
set_option maxRecDepth 100000 in
set_option maxHeartbeats 4000000 in
theorem c_X11_findDown {l : Launch} {D : va_G} {cA : Nat → ClassId} {ad : Nat → Nat} (hdj : Zdj ad) {z z1 : ZI} (hzz : Zok z) (hF : F_X11_findDown z  = some ((), z1)) : YMv l D cA ad (2) yX11_findDown cX11_findDown 4 [.ref (ad 68)] z z1 :=
  Zmet hdj (by decide) rfl (Nat.le_of_ble_eq_true rfl) (lv := [(0, .ref (ad 68))]) rfl (fun p e s m args below meth c ls S hr hlk hw hl => by
    have hR : 2 ≤ (Zrm (2)).frames ∧ 60 * (2) ≤ (Zrm (2)).locals := ⟨Nat.le_refl _, Nat.le_refl _⟩
    unfold F_X11_findDown at hF
    revert hR
    generalize Zrm (2) = R
    intro hR
    refine lv_iconst (v := i32 0) S.1 S.2.1 dX11_findDown_0 ic_0 ?_
    refine lv_istore_n (lv' := [(1, .int (i32 (0))), (0, .ref (ad 68))]) S.1 S.2.1 dX11_findDown_1 rfl hl (by decide) rfl (fun ls hl => ?_)
    refine lv_iconst (v := i32 0) S.1 S.2.1 dX11_findDown_2 ic_0 ?_
    refine lv_istore_n (lv' := [(2, .int (i32 (0))), (1, .int (i32 (0))), (0, .ref (ad 68))]) S.1 S.2.1 dX11_findDown_3 rfl hl (by decide) rfl (fun ls hl => ?_)
    exact w_X11_findDown_L4 S hr hlk hR hdj Zfuel _ _ _ _ _ _ hF hw hzz r_0 r_0 (lv_sub hl [2, 1, 0] rfl))
set_option maxRecDepth 100000 in
set_option maxHeartbeats 4000000 in
theorem w_X11_rains_b143 {RR : Unit × ZI} (S : CallFix p m c cX11_rains 5 s args Ztbl RX11) (hr : meth.sig.returnType = none) (hlk : meth.locks = false) (hR : 0 ≤ R.frames ∧ 60 * (0) ≤ R.locals) (hdj : Zdj ad) {k86 : ZI → Int → Option (Unit × ZI)} (hk86 : ∀ (z : ZI) (x3 : Int) (H : Heap) (locs : List Loc) (ls : Array Slot), k86 z x3 = some RR → ZW D cA ad (ZA ad) (Zc z) s H locs → Zok z → InR x3 → lv_has ls 5 [(0, .ref (ad 68)), (3, .int (i32 (x3)))] → W p l e R s m args below meth c H locs 0 0 (MQ below (YQv D cA ad RR.2) args s 0 0 (ZA ad)) (F0 m 86 ls [])) : ∀ (z : ZI) (x3 : Int) (H : Heap) (locs : List Loc) (ls : Array Slot), X11_rains_b143 k86 z x3 = some RR → ZW D cA ad (ZA ad) (Zc z) s H locs → Zok z → InR x3 → lv_has ls 5 [(0, .ref (ad 68)), (3, .int (i32 (x3)))] → W p l e R s m args below meth c H locs 0 0 (MQ below (YQv D cA ad RR.2) args s 0 0 (ZA ad)) (F0 m 143 ls []) := by
  intro z x3 H locs ls hF hw hzz hx3 hl
  unfold X11_rains_b143 at hF
  obtain ⟨g1_, hF⟩ := Zgs hF
  refine lv_iinc (v := i32 (x3 + 1)) (lv' := [(3, .int (i32 (x3 + 1))), (0, .ref (ad 68))]) S.1 S.2.1 dX11_rains_143 hl (k := 1) rfl Yiinc (by decide) rfl (fun ls hl => ?_)
  refine lv_goto (tgt := 86) S.1 S.2.1 dX11_rains_146 (by decide) ?_
  exact hk86 _ _ _ _ _ hF hw hzz g1_ (lv_sub hl [1, 0] rfl)
set_option maxRecDepth 100000 in
set_option maxHeartbeats 4000000 in
theorem w_X11_rains_L86 {RR : Unit × ZI} (S : CallFix p m c cX11_rains 5 s args Ztbl RX11) (hr : meth.sig.returnType = none) (hlk : meth.locks = false) (hR : 0 ≤ R.frames ∧ 60 * (0) ≤ R.locals) (hdj : Zdj ad) : ∀ (n : Nat) (z : ZI) (x3 : Int) (H : Heap) (locs : List Loc) (ls : Array Slot), X11_rains_L86 n z x3 = some RR → ZW D cA ad (ZA ad) (Zc z) s H locs → Zok z → InR x3 → lv_has ls 5 [(0, .ref (ad 68)), (3, .int (i32 (x3)))] → W p l e R s m args below meth c H locs 0 0 (MQ below (YQv D cA ad RR.2) args s 0 0 (ZA ad)) (F0 m 86 ls []) := by
  intro n
  induction n with
  | zero => intro z x3 H locs ls hF; exact nomatch hF
  | succ n hk86 =>
    intro z x3 H locs ls hF hw hzz hx3 hl
    replace hF : X11_rains_L86b (X11_rains_L86 n) z x3 = some RR := hF
    unfold X11_rains_L86b at hF
    refine lv_iload_n S.1 S.2.1 dX11_rains_86 rfl (lv_at hl 1 rfl) ?_
    refine lv_sipush (v := i32 144) S.1 S.2.1 dX11_rains_87 sp_144 ?_
    refine Yicmp_ge (tgt := 149) S hx3 r_144 dX11_rains_90 (by decide) (fun c1_ => ?_) (fun c1_ => ?_)
    · replace hF := ZtP c1_ hF
      exact Yvret S hw hzz hr hlk hF dX11_rains_149
    · replace hF := ZtN c1_ hF
      refine lv_aload_n S.1 S.2.1 dX11_rains_93 rfl (lv_at hl 0 rfl) ?_
      refine gf_X11_150 S hw dX11_rains_94 ?_
      refine lv_iload_n S.1 S.2.1 dX11_rains_97 rfl (lv_at hl 1 rfl) ?_
      obtain ⟨b2_, hF⟩ := Zgs hF
      refine Yiald S hw zd_115 (by decide) hx3 b2_ dX11_rains_98 ?_
      refine lv_istore (lv' := [(4, .int (i32 (z 115 x3))), (0, .ref (ad 68)), (3, .int (i32 (x3)))]) S.1 S.2.1 dX11_rains_99 hl (by decide) rfl (fun ls hl => ?_)
      refine lv_aload_n S.1 S.2.1 dX11_rains_101 rfl (lv_at hl 1 rfl) ?_
      refine gf_X11_141 S hw dX11_rains_102 ?_
      refine lv_iload S.1 S.2.1 dX11_rains_105 (lv_at hl 0 rfl) ?_
      obtain ⟨b3_, hF⟩ := Zgs hF
      refine Yiald S hw zd_112 (by decide) (hzz.1 _ _ (by decide)) b3_ dX11_rains_107 ?_
      refine Yif_lt (tgt := 143) S (hzz.1 _ _ (by decide)) dX11_rains_108 (by decide) (fun c4_ => ?_) (fun c4_ => ?_)
      · replace hF := ZtP c4_ hF
        exact w_X11_rains_b143 S hr hlk hR hdj hk86 _ _ _ _ _ hF hw hzz hx3 (lv_sub hl [1, 2] rfl)
      · replace hF := ZtN c4_ hF
        refine lv_aload_n S.1 S.2.1 dX11_rains_111 rfl (lv_at hl 1 rfl) ?_
        refine gf_X11_144 S hw dX11_rains_112 ?_
        refine lv_iload S.1 S.2.1 dX11_rains_115 (lv_at hl 0 rfl) ?_
        obtain ⟨b5_, hF⟩ := Zgs hF
        refine Yzald S hw zd_113 (by decide) (hzz.1 _ _ (by decide)) b5_ dX11_rains_117 ?_
        refine Yif_ne (tgt := 143) S (hzz.1 _ _ (by decide)) dX11_rains_118 (by decide) (fun c6_ => ?_) (fun c6_ => ?_)
        · replace hF := ZtN c6_ hF
          exact w_X11_rains_b143 S hr hlk hR hdj hk86 _ _ _ _ _ hF hw hzz hx3 (lv_sub hl [1, 2] rfl)
        · replace hF := ZtP c6_ hF
          refine lv_aload_n S.1 S.2.1 dX11_rains_121 rfl (lv_at hl 1 rfl) ?_
          refine gf_X11_138 S hw dX11_rains_122 ?_
          refine lv_aload_n S.1 S.2.1 dX11_rains_125 rfl (lv_at hl 1 rfl) ?_
          refine gf_X11_141 S hw dX11_rains_126 ?_
          refine lv_iload S.1 S.2.1 dX11_rains_129 (lv_at hl 0 rfl) ?_
          obtain ⟨b7_, hF⟩ := Zgs hF
          refine Yiald S hw zd_112 (by decide) (hzz.1 _ _ (by decide)) b7_ dX11_rains_131 ?_
          refine lv_dup2_11 S.1 S.2.1 dX11_rains_132 rfl rfl ?_
          obtain ⟨b8_, hF⟩ := Zgs hF
          refine Yiald S hw zd_111 (by decide) (hzz.1 _ _ (by decide)) b8_ dX11_rains_133 ?_
          refine lv_aload_n S.1 S.2.1 dX11_rains_134 rfl (lv_at hl 1 rfl) ?_
          refine gf_X11_138 S hw dX11_rains_135 ?_
          refine lv_iload S.1 S.2.1 dX11_rains_138 (lv_at hl 0 rfl) ?_
          obtain ⟨b9_, hF⟩ := Zgs hF
          refine Yiald S hw zd_111 (by decide) (hzz.1 _ _ (by decide)) b9_ dX11_rains_140 ?_
          obtain ⟨g10_, hF⟩ := Zgs hF
          refine Yiadd S dX11_rains_141 ?_
          obtain ⟨b11_, hF⟩ := Zgs hF
          refine Yiast S hw hzz zd_111 (by decide) (hzz.1 _ _ (by decide)) g10_ b11_ dX11_rains_142 (fun z12_ H locs ez hzz12_ hw => ?_)
          replace hF := Zle ez hF; clear ez
          exact w_X11_rains_b143 S hr hlk hR hdj hk86 _ _ _ _ _ hF hw hzz12_ hx3 (lv_sub hl [1, 2] rfl)
set_option maxRecDepth 100000 in
set_option maxHeartbeats 4000000 in
theorem w_X11_rains_b84 {RR : Unit × ZI} (S : CallFix p m c cX11_rains 5 s args Ztbl RX11) (hr : meth.sig.returnType = none) (hlk : meth.locks = false) (hR : 0 ≤ R.frames ∧ 60 * (0) ≤ R.locals) (hdj : Zdj ad) : ∀ (z : ZI) (H : Heap) (locs : List Loc) (ls : Array Slot), X11_rains_b84 z  = some RR → ZW D cA ad (ZA ad) (Zc z) s H locs → Zok z → lv_has ls 5 [(0, .ref (ad 68))] → W p l e R s m args below meth c H locs 0 0 (MQ below (YQv D cA ad RR.2) args s 0 0 (ZA ad)) (F0 m 84 ls []) := by
  intro z  H locs ls hF hw hzz  hl
  unfold X11_rains_b84 at hF
  refine lv_iconst (v := i32 0) S.1 S.2.1 dX11_rains_84 ic_0 ?_
  refine lv_istore_n (lv' := [(3, .int (i32 (0))), (0, .ref (ad 68))]) S.1 S.2.1 dX11_rains_85 rfl hl (by decide) rfl (fun ls hl => ?_)
  exact w_X11_rains_L86 S hr hlk hR hdj Zfuel _ _ _ _ _ hF hw hzz r_0 (lv_sub hl [1, 0] rfl)
set_option maxRecDepth 100000 in
set_option maxHeartbeats 4000000 in
theorem w_X11_rains_b77 {RR : Unit × ZI} (S : CallFix p m c cX11_rains 5 s args Ztbl RX11) (hr : meth.sig.returnType = none) (hlk : meth.locks = false) (hR : 0 ≤ R.frames ∧ 60 * (0) ≤ R.locals) (hdj : Zdj ad) {k31 : ZI → Int → Int → Option (Unit × ZI)} (hk31 : ∀ (z : ZI) (x2 : Int) (x3 : Int) (H : Heap) (locs : List Loc) (ls : Array Slot), k31 z x2 x3 = some RR → ZW D cA ad (ZA ad) (Zc z) s H locs → Zok z → InR x2 → InR x3 → lv_has ls 5 [(0, .ref (ad 68)), (2, .int (i32 (x2))), (3, .int (i32 (x3)))] → W p l e R s m args below meth c H locs 0 0 (MQ below (YQv D cA ad RR.2) args s 0 0 (ZA ad)) (F0 m 31 ls [])) : ∀ (z : ZI) (x2 : Int) (x3 : Int) (y1 : Int) (y2 : Int) (H : Heap) (locs : List Loc) (ls : Array Slot), X11_rains_b77 k31 z x2 x3 y1 y2 = some RR → ZW D cA ad (ZA ad) (Zc z) s H locs → Zok z → InR x2 → InR x3 → InR y1 → InR y2 → lv_has ls 5 [(0, .ref (ad 68)), (2, .int (i32 (x2))), (3, .int (i32 (x3)))] → W p l e R s m args below meth c H locs 0 0 (MQ below (YQv D cA ad RR.2) args s 0 0 (ZA ad)) (F0 m 77 ls [.int (i32 (y2)), .int (i32 (y1)), .ref (ad 113)]) := by
  intro z x2 x3 y1 y2 H locs ls hF hw hzz hx2 hx3 hy1 hy2 hl
  unfold X11_rains_b77 at hF
  obtain ⟨b3_, hF⟩ := Zgs hF
  obtain ⟨b1_, hF⟩ := Zgs hF
  refine Yzast S hw hzz zd_113 (by decide) hy1 hy2 b3_ b1_ dX11_rains_77 (fun z2_ H locs ez hzz2_ hw => ?_)
  replace hF := Zle ez hF; clear ez
  obtain ⟨g4_, hF⟩ := Zgs hF
  refine lv_iinc (v := i32 (x3 + 1)) (lv' := [(3, .int (i32 (x3 + 1))), (0, .ref (ad 68)), (2, .int (i32 (x2)))]) S.1 S.2.1 dX11_rains_78 hl (k := 2) rfl Yiinc (by decide) rfl (fun ls hl => ?_)
  refine lv_goto (tgt := 31) S.1 S.2.1 dX11_rains_81 (by decide) ?_
  exact hk31 _ _ _ _ _ _ hF hw hzz2_ hx2 g4_ (lv_sub hl [1, 2, 0] rfl)
set_option maxRecDepth 100000 in
set_option maxHeartbeats 4000000 in
theorem w_X11_rains_b72 {RR : Unit × ZI} (S : CallFix p m c cX11_rains 5 s args Ztbl RX11) (hr : meth.sig.returnType = none) (hlk : meth.locks = false) (hR : 0 ≤ R.frames ∧ 60 * (0) ≤ R.locals) (hdj : Zdj ad) {k31 : ZI → Int → Int → Option (Unit × ZI)} (hk31 : ∀ (z : ZI) (x2 : Int) (x3 : Int) (H : Heap) (locs : List Loc) (ls : Array Slot), k31 z x2 x3 = some RR → ZW D cA ad (ZA ad) (Zc z) s H locs → Zok z → InR x2 → InR x3 → lv_has ls 5 [(0, .ref (ad 68)), (2, .int (i32 (x2))), (3, .int (i32 (x3)))] → W p l e R s m args below meth c H locs 0 0 (MQ below (YQv D cA ad RR.2) args s 0 0 (ZA ad)) (F0 m 31 ls [])) : ∀ (z : ZI) (x2 : Int) (x3 : Int) (y1 : Int) (H : Heap) (locs : List Loc) (ls : Array Slot), X11_rains_b72 k31 z x2 x3 y1 = some RR → ZW D cA ad (ZA ad) (Zc z) s H locs → Zok z → InR x2 → InR x3 → InR y1 → lv_has ls 5 [(0, .ref (ad 68)), (2, .int (i32 (x2))), (3, .int (i32 (x3)))] → W p l e R s m args below meth c H locs 0 0 (MQ below (YQv D cA ad RR.2) args s 0 0 (ZA ad)) (F0 m 72 ls [.int (i32 (y1)), .ref (ad 113)]) := by
  intro z x2 x3 y1 H locs ls hF hw hzz hx2 hx3 hy1 hl
  unfold X11_rains_b72 at hF
  refine lv_iconst (v := i32 1) S.1 S.2.1 dX11_rains_72 ic_1 ?_
  refine lv_goto (tgt := 77) S.1 S.2.1 dX11_rains_73 (by decide) ?_
  exact w_X11_rains_b77 S hr hlk hR hdj hk31 _ _ _ _ _ _ _ _ hF hw hzz hx2 hx3 hy1 r_1 (lv_sub hl [0, 1, 2] rfl)
set_option maxRecDepth 100000 in
set_option maxHeartbeats 4000000 in
theorem w_X11_rains_L31 {RR : Unit × ZI} (S : CallFix p m c cX11_rains 5 s args Ztbl RX11) (hr : meth.sig.returnType = none) (hlk : meth.locks = false) (hR : 0 ≤ R.frames ∧ 60 * (0) ≤ R.locals) (hdj : Zdj ad) : ∀ (n : Nat) (z : ZI) (x2 : Int) (x3 : Int) (H : Heap) (locs : List Loc) (ls : Array Slot), X11_rains_L31 n z x2 x3 = some RR → ZW D cA ad (ZA ad) (Zc z) s H locs → Zok z → InR x2 → InR x3 → lv_has ls 5 [(0, .ref (ad 68)), (2, .int (i32 (x2))), (3, .int (i32 (x3)))] → W p l e R s m args below meth c H locs 0 0 (MQ below (YQv D cA ad RR.2) args s 0 0 (ZA ad)) (F0 m 31 ls []) := by
  intro n
  induction n with
  | zero => intro z x2 x3 H locs ls hF; exact nomatch hF
  | succ n hk31 =>
    intro z x2 x3 H locs ls hF hw hzz hx2 hx3 hl
    replace hF : X11_rains_L31b (X11_rains_L31 n) z x2 x3 = some RR := hF
    unfold X11_rains_L31b at hF
    refine lv_iload_n S.1 S.2.1 dX11_rains_31 rfl (lv_at hl 2 rfl) ?_
    refine lv_aload_n S.1 S.2.1 dX11_rains_32 rfl (lv_at hl 0 rfl) ?_
    refine gg_X11_412 S hw dX11_rains_33 ?_
    refine Yicmp_ge (tgt := 84) S hx3 (hzz.1 68 62 (by decide)) dX11_rains_36 (by decide) (fun c1_ => ?_) (fun c1_ => ?_)
    · replace hF := ZtP c1_ hF
      exact w_X11_rains_b84 S hr hlk hR hdj _ _ _ _ hF hw hzz  (lv_sub hl [0] rfl)
    · replace hF := ZtN c1_ hF
      refine lv_aload_n S.1 S.2.1 dX11_rains_39 rfl (lv_at hl 0 rfl) ?_
      refine gf_X11_144 S hw dX11_rains_40 ?_
      refine lv_aload_n S.1 S.2.1 dX11_rains_43 rfl (lv_at hl 0 rfl) ?_
      refine gf_X11_135 S hw dX11_rains_44 ?_
      refine lv_iload_n S.1 S.2.1 dX11_rains_47 rfl (lv_at hl 2 rfl) ?_
      obtain ⟨b2_, hF⟩ := Zgs hF
      refine Yiald S hw zd_110 (by decide) hx3 b2_ dX11_rains_48 ?_
      refine lv_aload_n S.1 S.2.1 dX11_rains_49 rfl (lv_at hl 0 rfl) ?_
      refine gf_X11_144 S hw dX11_rains_50 ?_
      refine lv_aload_n S.1 S.2.1 dX11_rains_53 rfl (lv_at hl 0 rfl) ?_
      refine gf_X11_135 S hw dX11_rains_54 ?_
      refine lv_iload_n S.1 S.2.1 dX11_rains_57 rfl (lv_at hl 2 rfl) ?_
      obtain ⟨b3_, hF⟩ := Zgs hF
      refine Yiald S hw zd_110 (by decide) hx3 b3_ dX11_rains_58 ?_
      obtain ⟨b4_, hF⟩ := Zgs hF
      refine Yzald S hw zd_113 (by decide) (hzz.1 _ _ (by decide)) b4_ dX11_rains_59 ?_
      refine Yif_ne (tgt := 72) S (hzz.1 _ _ (by decide)) dX11_rains_60 (by decide) (fun c5_ => ?_) (fun c5_ => ?_)
      · replace hF := ZtN c5_ hF
        exact w_X11_rains_b72 S hr hlk hR hdj hk31 _ _ _ _ _ _ _ hF hw hzz hx2 hx3 (hzz.1 _ _ (by decide)) (lv_sub hl [0, 1, 2] rfl)
      · replace hF := ZtP c5_ hF
        refine lv_iload_n S.1 S.2.1 dX11_rains_63 rfl (lv_at hl 1 rfl) ?_
        refine lv_iload_n S.1 S.2.1 dX11_rains_64 rfl (lv_at hl 2 rfl) ?_
        refine Yishr S dX11_rains_65 ?_
        refine lv_iconst (v := i32 1) S.1 S.2.1 dX11_rains_66 ic_1 ?_
        refine Yiand S dX11_rains_67 ?_
        refine lv_iconst (v := i32 1) S.1 S.2.1 dX11_rains_68 ic_1 ?_
        refine Yicmp_ne (tgt := 76) S (InR_of _) r_1 dX11_rains_69 (by decide) (fun c6_ => ?_) (fun c6_ => ?_)
        · replace hF := ZtN c6_ hF
          refine lv_iconst (v := i32 0) S.1 S.2.1 dX11_rains_76 ic_0 ?_
          exact w_X11_rains_b77 S hr hlk hR hdj hk31 _ _ _ _ _ _ _ _ hF hw hzz hx2 hx3 (hzz.1 _ _ (by decide)) r_0 (lv_sub hl [0, 1, 2] rfl)
        · replace hF := ZtP c6_ hF
          exact w_X11_rains_b72 S hr hlk hR hdj hk31 _ _ _ _ _ _ _ hF hw hzz hx2 hx3 (hzz.1 _ _ (by decide)) (lv_sub hl [0, 1, 2] rfl)
set_option maxRecDepth 100000 in
set_option maxHeartbeats 4000000 in
theorem w_X11_rains_b29 {RR : Unit × ZI} (S : CallFix p m c cX11_rains 5 s args Ztbl RX11) (hr : meth.sig.returnType = none) (hlk : meth.locks = false) (hR : 0 ≤ R.frames ∧ 60 * (0) ≤ R.locals) (hdj : Zdj ad) : ∀ (z : ZI) (x2 : Int) (H : Heap) (locs : List Loc) (ls : Array Slot), X11_rains_b29 z x2 = some RR → ZW D cA ad (ZA ad) (Zc z) s H locs → Zok z → InR x2 → lv_has ls 5 [(0, .ref (ad 68)), (2, .int (i32 (x2)))] → W p l e R s m args below meth c H locs 0 0 (MQ below (YQv D cA ad RR.2) args s 0 0 (ZA ad)) (F0 m 29 ls []) := by
  intro z x2 H locs ls hF hw hzz hx2 hl
  unfold X11_rains_b29 at hF
  refine lv_iconst (v := i32 0) S.1 S.2.1 dX11_rains_29 ic_0 ?_
  refine lv_istore_n (lv' := [(3, .int (i32 (0))), (0, .ref (ad 68)), (2, .int (i32 (x2)))]) S.1 S.2.1 dX11_rains_30 rfl hl (by decide) rfl (fun ls hl => ?_)
  exact w_X11_rains_L31 S hr hlk hR hdj Zfuel _ _ _ _ _ _ hF hw hzz hx2 r_0 (lv_sub hl [1, 2, 0] rfl)
set_option maxRecDepth 100000 in
set_option maxHeartbeats 4000000 in
theorem w_X11_rains_L2 {RR : Unit × ZI} (S : CallFix p m c cX11_rains 5 s args Ztbl RX11) (hr : meth.sig.returnType = none) (hlk : meth.locks = false) (hR : 0 ≤ R.frames ∧ 60 * (0) ≤ R.locals) (hdj : Zdj ad) : ∀ (n : Nat) (z : ZI) (x1 : Int) (x2 : Int) (x3 : Int) (H : Heap) (locs : List Loc) (ls : Array Slot), X11_rains_L2 n z x1 x2 x3 = some RR → ZW D cA ad (ZA ad) (Zc z) s H locs → Zok z → InR x1 → InR x2 → InR x3 → lv_has ls 5 [(0, .ref (ad 68)), (1, .int (i32 (x1))), (2, .int (i32 (x2))), (3, .int (i32 (x3)))] → W p l e R s m args below meth c H locs 0 0 (MQ below (YQv D cA ad RR.2) args s 0 0 (ZA ad)) (F0 m 2 ls []) := by
  intro n
  induction n with
  | zero => intro z x1 x2 x3 H locs ls hF; exact nomatch hF
  | succ n hk2 =>
    intro z x1 x2 x3 H locs ls hF hw hzz hx1 hx2 hx3 hl
    replace hF : X11_rains_L2b (X11_rains_L2 n) z x1 x2 x3 = some RR := hF
    unfold X11_rains_L2b at hF
    refine lv_iload_n S.1 S.2.1 dX11_rains_2 rfl (lv_at hl 3 rfl) ?_
    refine lv_sipush (v := i32 144) S.1 S.2.1 dX11_rains_3 sp_144 ?_
    refine Yicmp_ge (tgt := 29) S hx3 r_144 dX11_rains_6 (by decide) (fun c1_ => ?_) (fun c1_ => ?_)
    · replace hF := ZtP c1_ hF
      exact w_X11_rains_b29 S hr hlk hR hdj _ _ _ _ _ hF hw hzz hx2 (lv_sub hl [0, 2] rfl)
    · replace hF := ZtN c1_ hF
      refine lv_aload_n S.1 S.2.1 dX11_rains_9 rfl (lv_at hl 0 rfl) ?_
      refine gf_X11_144 S hw dX11_rains_10 ?_
      refine lv_iload_n S.1 S.2.1 dX11_rains_13 rfl (lv_at hl 3 rfl) ?_
      refine lv_iconst (v := i32 0) S.1 S.2.1 dX11_rains_14 ic_0 ?_
      obtain ⟨b2_, hF⟩ := Zgs hF
      refine Yzast S hw hzz zd_113 (by decide) hx3 r_0 (Or.inl rfl) b2_ dX11_rains_15 (fun z3_ H locs ez hzz3_ hw => ?_)
      replace hF := Zle ez hF; clear ez
      refine lv_aload_n S.1 S.2.1 dX11_rains_16 rfl (lv_at hl 0 rfl) ?_
      refine gf_X11_138 S hw dX11_rains_17 ?_
      refine lv_iload_n S.1 S.2.1 dX11_rains_20 rfl (lv_at hl 3 rfl) ?_
      refine lv_iload_n S.1 S.2.1 dX11_rains_21 rfl (lv_at hl 1 rfl) ?_
      obtain ⟨b4_, hF⟩ := Zgs hF
      refine Yiast S hw hzz3_ zd_111 (by decide) hx3 hx1 b4_ dX11_rains_22 (fun z5_ H locs ez hzz5_ hw => ?_)
      replace hF := Zle ez hF; clear ez
      obtain ⟨g6_, hF⟩ := Zgs hF
      refine lv_iinc (v := i32 (x3 + 1)) (lv' := [(3, .int (i32 (x3 + 1))), (0, .ref (ad 68)), (1, .int (i32 (x1))), (2, .int (i32 (x2)))]) S.1 S.2.1 dX11_rains_23 hl (k := 3) rfl Yiinc (by decide) rfl (fun ls hl => ?_)
      refine lv_goto (tgt := 2) S.1 S.2.1 dX11_rains_26 (by decide) ?_
      exact hk2 _ _ _ _ _ _ _ hF hw hzz5_ hx1 hx2 g6_ (lv_sub hl [1, 2, 3, 0] rfl)
set_option maxRecDepth 100000 in
set_option maxHeartbeats 4000000 in
theorem c_X11_rains {l : Launch} {D : va_G} {cA : Nat → ClassId} {ad : Nat → Nat} (hdj : Zdj ad) {z z1 : ZI} {x1 : Int} {x2 : Int} (hzz : Zok z) (hx1 : InR x1) (hx2 : InR x2) (hF : F_X11_rains z x1 x2 = some ((), z1)) : YMv l D cA ad (0) yX11_rains cX11_rains 5 [.ref (ad 68), .int (i32 x1), .int (i32 x2)] z z1 :=
  Zmet hdj (by decide) rfl (Nat.le_of_ble_eq_true rfl) (lv := [(0, .ref (ad 68)), (1, .int (i32 (x1))), (2, .int (i32 (x2)))]) rfl (fun p e s m args below meth c ls S hr hlk hw hl => by
    have hR : 0 ≤ (Zrm (0)).frames ∧ 60 * (0) ≤ (Zrm (0)).locals := ⟨Nat.le_refl _, Nat.le_refl _⟩
    unfold F_X11_rains at hF
    revert hR
    generalize Zrm (0) = R
    intro hR
    refine lv_iconst (v := i32 0) S.1 S.2.1 dX11_rains_0 ic_0 ?_
    refine lv_istore_n (lv' := [(3, .int (i32 (0))), (0, .ref (ad 68)), (1, .int (i32 (x1))), (2, .int (i32 (x2)))]) S.1 S.2.1 dX11_rains_1 rfl hl (by decide) rfl (fun ls hl => ?_)
    exact w_X11_rains_L2 S hr hlk hR hdj Zfuel _ _ _ _ _ _ _ hF hw hzz hx1 hx2 r_0 (lv_sub hl [1, 2, 3, 0] rfl))
end ZWALK
