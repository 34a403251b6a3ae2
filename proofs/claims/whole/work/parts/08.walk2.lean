section ZWALK
variable {p : Program} {l : Launch} {e : Env} {R : Room} {s : State} {m : MethodId} {args : Array Value} {below : List Frame} {meth : Method} {c : Code}
variable {D : va_G} {cA : Nat → ClassId} {ad : Nat → Nat}
set_option maxRecDepth 100000 in
set_option maxHeartbeats 4000000 in
theorem w_X7_drawOf_b70 {RR : Int × ZI} (S : CallFix p m c cX7_drawOf 7 s args Ztbl RX7) (hr : meth.sig.returnType = some .int) (hlk : meth.locks = false) (hR : 45 ≤ R.frames ∧ 60 * (45) ≤ R.locals) (hdj : Zdj ad) : ∀ (z : ZI) (x3 : Int) (x4 : Int) (x5 : Int) (H : Heap) (locs : List Loc) (ls : Array Slot), X7_drawOf_b70 z x3 x4 x5 = some RR → ZW D cA ad (ZA ad) (Zc z) s H locs → Zok z → InR x3 → InR x4 → InR x5 → lv_has ls 7 [(0, .ref (ad 24)), (3, .int (i32 (x3))), (4, .int (i32 (x4))), (5, .int (i32 (x5)))] → W p l e R s m args below meth c H locs 0 0 (MQ below (YQi D cA ad RR.1 RR.2) args s 0 0 (ZA ad)) (F0 m 70 ls []) := by
  intro z x3 x4 x5 H locs ls hF hw hzz hx3 hx4 hx5 hl
  unfold X7_drawOf_b70 at hF
  refine lv_aload_n S.1 S.2.1 dX7_drawOf_70 rfl (lv_at hl 0 rfl) ?_
  refine gf_X7_31 S hw dX7_drawOf_71 ?_
  refine gf_X7_82 S hw dX7_drawOf_74 ?_
  refine lv_iconst (v := i32 4) S.1 S.2.1 dX7_drawOf_77 ic_4 ?_
  refine lv_iload_n S.1 S.2.1 dX7_drawOf_78 rfl (lv_at hl 1 rfl) ?_
  refine lv_iload S.1 S.2.1 dX7_drawOf_79 (lv_at hl 2 rfl) ?_
  obtain ⟨g1_, hF⟩ := Zgs hF
  refine Yisub S dX7_drawOf_81 ?_
  obtain ⟨b2_, hF⟩ := Zgs hF
  refine Yiast S hw hzz zd_31 (by decide) r_4 g1_ b2_ dX7_drawOf_82 (fun z3_ H locs ez hzz3_ hw => ?_)
  replace hF := Zle ez hF; clear ez
  refine lv_iconst (v := i32 0) S.1 S.2.1 dX7_drawOf_83 ic_0 ?_
  refine lv_sipush (v := i32 9999) S.1 S.2.1 dX7_drawOf_84 sp_9999 ?_
  refine lv_aload_n S.1 S.2.1 dX7_drawOf_87 rfl (lv_at hl 0 rfl) ?_
  refine lv_iload S.1 S.2.1 dX7_drawOf_88 (lv_at hl 3 rfl) ?_
  obtain ⟨r6_, z4_, h5_, hF⟩ := Ybs hF
  refine YcallVi (rest := [.int (i32 (9999)), .int (i32 (0))]) S hw (c_X7_worth hdj hzz3_ hx5 h5_) my_X7_worth mi_X7_worth ml_X7_85 zd_24 zc_X7 rfl (Zrr hR (by decide)) ⟨Nat.zero_le _, Nat.zero_le _⟩ hl.1 rfl rfl (Nat.le_of_ble_eq_true rfl) dX7_drawOf_90 (fun hrr6_ hzz4_ H locs hw => ?_)
  refine Ymmin S r_9999 hrr6_ hl ml_X7_89 (Zr1 hR (by decide)) (Zr2 hR (by decide) (Nat.le_of_ble_eq_true rfl)) ⟨Nat.zero_le _, Nat.zero_le _⟩ dX7_drawOf_93 ?_
  refine Ymmax S r_0 (InR_min r_9999 hrr6_) hl ml_X7_94 (Zr1 hR (by decide)) (Zr2 hR (by decide) (Nat.le_of_ble_eq_true rfl)) ⟨Nat.zero_le _, Nat.zero_le _⟩ dX7_drawOf_96 ?_
  exact Yireti S hw hzz4_ (InR_max r_0 (InR_min r_9999 hrr6_)) hr hlk hF dX7_drawOf_99
set_option maxRecDepth 100000 in
set_option maxHeartbeats 4000000 in
theorem w_X7_drawOf_b64 {RR : Int × ZI} (S : CallFix p m c cX7_drawOf 7 s args Ztbl RX7) (hr : meth.sig.returnType = some .int) (hlk : meth.locks = false) (hR : 45 ≤ R.frames ∧ 60 * (45) ≤ R.locals) (hdj : Zdj ad) {k27 : ZI → Int → Int → Int → Int → Int → Option (Int × ZI)} (hk27 : ∀ (z : ZI) (x2 : Int) (x3 : Int) (x4 : Int) (x5 : Int) (x6 : Int) (H : Heap) (locs : List Loc) (ls : Array Slot), k27 z x2 x3 x4 x5 x6 = some RR → ZW D cA ad (ZA ad) (Zc z) s H locs → Zok z → InR x2 → InR x3 → InR x4 → InR x5 → InR x6 → lv_has ls 7 [(0, .ref (ad 24)), (1, .ref (ad 11)), (2, .int (i32 (x2))), (3, .int (i32 (x3))), (4, .int (i32 (x4))), (5, .int (i32 (x5))), (6, .int (i32 (x6)))] → W p l e R s m args below meth c H locs 0 0 (MQ below (YQi D cA ad RR.1 RR.2) args s 0 0 (ZA ad)) (F0 m 27 ls [])) : ∀ (z : ZI) (x2 : Int) (x3 : Int) (x4 : Int) (x5 : Int) (x6 : Int) (H : Heap) (locs : List Loc) (ls : Array Slot), X7_drawOf_b64 k27 z x2 x3 x4 x5 x6 = some RR → ZW D cA ad (ZA ad) (Zc z) s H locs → Zok z → InR x2 → InR x3 → InR x4 → InR x5 → InR x6 → lv_has ls 7 [(0, .ref (ad 24)), (1, .ref (ad 11)), (2, .int (i32 (x2))), (3, .int (i32 (x3))), (4, .int (i32 (x4))), (5, .int (i32 (x5))), (6, .int (i32 (x6)))] → W p l e R s m args below meth c H locs 0 0 (MQ below (YQi D cA ad RR.1 RR.2) args s 0 0 (ZA ad)) (F0 m 64 ls []) := by
  intro z x2 x3 x4 x5 x6 H locs ls hF hw hzz hx2 hx3 hx4 hx5 hx6 hl
  unfold X7_drawOf_b64 at hF
  obtain ⟨g1_, hF⟩ := Zgs hF
  refine lv_iinc (v := i32 (x6 + 1)) (lv' := [(6, .int (i32 (x6 + 1))), (0, .ref (ad 24)), (1, .ref (ad 11)), (2, .int (i32 (x2))), (3, .int (i32 (x3))), (4, .int (i32 (x4))), (5, .int (i32 (x5)))]) S.1 S.2.1 dX7_drawOf_64 hl (k := 6) rfl Yiinc (by decide) rfl (fun ls hl => ?_)
  refine lv_goto (tgt := 27) S.1 S.2.1 dX7_drawOf_67 (by decide) ?_
  exact hk27 _ _ _ _ _ _ _ _ _ hF hw hzz hx2 hx3 hx4 hx5 g1_ (lv_sub hl [1, 2, 3, 4, 5, 6, 0] rfl)
set_option maxRecDepth 100000 in
set_option maxHeartbeats 4000000 in
theorem w_X7_drawOf_L27 {RR : Int × ZI} (S : CallFix p m c cX7_drawOf 7 s args Ztbl RX7) (hr : meth.sig.returnType = some .int) (hlk : meth.locks = false) (hR : 45 ≤ R.frames ∧ 60 * (45) ≤ R.locals) (hdj : Zdj ad) : ∀ (n : Nat) (z : ZI) (x2 : Int) (x3 : Int) (x4 : Int) (x5 : Int) (x6 : Int) (H : Heap) (locs : List Loc) (ls : Array Slot), X7_drawOf_L27 n z x2 x3 x4 x5 x6 = some RR → ZW D cA ad (ZA ad) (Zc z) s H locs → Zok z → InR x2 → InR x3 → InR x4 → InR x5 → InR x6 → lv_has ls 7 [(0, .ref (ad 24)), (1, .ref (ad 11)), (2, .int (i32 (x2))), (3, .int (i32 (x3))), (4, .int (i32 (x4))), (5, .int (i32 (x5))), (6, .int (i32 (x6)))] → W p l e R s m args below meth c H locs 0 0 (MQ below (YQi D cA ad RR.1 RR.2) args s 0 0 (ZA ad)) (F0 m 27 ls []) := by
  intro n
  induction n with
  | zero => intro z x2 x3 x4 x5 x6 H locs ls hF; exact nomatch hF
  | succ n hk27 =>
    intro z x2 x3 x4 x5 x6 H locs ls hF hw hzz hx2 hx3 hx4 hx5 hx6 hl
    replace hF : X7_drawOf_L27b (X7_drawOf_L27 n) z x2 x3 x4 x5 x6 = some RR := hF
    unfold X7_drawOf_L27b at hF
    refine lv_iload S.1 S.2.1 dX7_drawOf_27 (lv_at hl 6 rfl) ?_
    refine lv_aload_n S.1 S.2.1 dX7_drawOf_29 rfl (lv_at hl 1 rfl) ?_
    refine gg_X7_66 S hw dX7_drawOf_30 ?_
    refine Yicmp_ge (tgt := 70) S hx6 (hzz.1 11 4 (by decide)) dX7_drawOf_33 (by decide) (fun c1_ => ?_) (fun c1_ => ?_)
    · replace hF := ZtP c1_ hF
      exact w_X7_drawOf_b70 S hr hlk hR hdj _ _ _ _ _ _ _ hF hw hzz hx3 hx4 hx5 (lv_sub hl [0, 3, 4, 5] rfl)
    · replace hF := ZtN c1_ hF
      refine lv_aload_n S.1 S.2.1 dX7_drawOf_36 rfl (lv_at hl 1 rfl) ?_
      refine lv_iload S.1 S.2.1 dX7_drawOf_37 (lv_at hl 6 rfl) ?_
      refine lv_iload_n S.1 S.2.1 dX7_drawOf_39 rfl (lv_at hl 2 rfl) ?_
      obtain ⟨r4_, z2_, h3_, hF⟩ := Ybs hF
      refine YcallVi (rest := []) S hw (c_X3_isOfHouse hdj hzz hx6 hx2 h3_) my_X3_isOfHouse mi_X3_isOfHouse ml_X7_71 zd_11 zc_X3 rfl (Zrr hR (by decide)) ⟨Nat.zero_le _, Nat.zero_le _⟩ hl.1 rfl rfl (Nat.le_of_ble_eq_true rfl) dX7_drawOf_40 (fun hrr4_ hzz2_ H locs hw => ?_)
      refine Yif_eq (tgt := 64) S hrr4_ dX7_drawOf_43 (by decide) (fun c5_ => ?_) (fun c5_ => ?_)
      · replace hF := ZtP c5_ hF
        exact w_X7_drawOf_b64 S hr hlk hR hdj hk27 _ _ _ _ _ _ _ _ _ hF hw hzz2_ hx2 hx3 hx4 hx5 hx6 (lv_sub hl [0, 1, 2, 3, 4, 5, 6] rfl)
      · replace hF := ZtN c5_ hF
        refine lv_aload_n S.1 S.2.1 dX7_drawOf_46 rfl (lv_at hl 1 rfl) ?_
        refine lv_iload S.1 S.2.1 dX7_drawOf_47 (lv_at hl 6 rfl) ?_
        refine lv_iload_n S.1 S.2.1 dX7_drawOf_49 rfl (lv_at hl 3 rfl) ?_
        obtain ⟨r8_, z6_, h7_, hF⟩ := Ybs hF
        refine YcallVi (rest := []) S hw (c_X3_isHere hdj hzz2_ hx6 hx3 h7_) my_X3_isHere mi_X3_isHere ml_X7_75 zd_11 zc_X3 rfl (Zrr hR (by decide)) ⟨Nat.zero_le _, Nat.zero_le _⟩ hl.1 rfl rfl (Nat.le_of_ble_eq_true rfl) dX7_drawOf_50 (fun hrr8_ hzz6_ H locs hw => ?_)
        refine Yif_eq (tgt := 64) S hrr8_ dX7_drawOf_53 (by decide) (fun c9_ => ?_) (fun c9_ => ?_)
        · replace hF := ZtP c9_ hF
          exact w_X7_drawOf_b64 S hr hlk hR hdj hk27 _ _ _ _ _ _ _ _ _ hF hw hzz6_ hx2 hx3 hx4 hx5 hx6 (lv_sub hl [0, 1, 2, 3, 4, 5, 6] rfl)
        · replace hF := ZtN c9_ hF
          refine lv_aload_n S.1 S.2.1 dX7_drawOf_56 rfl (lv_at hl 0 rfl) ?_
          refine lv_aload_n S.1 S.2.1 dX7_drawOf_57 rfl (lv_at hl 1 rfl) ?_
          refine lv_iload S.1 S.2.1 dX7_drawOf_58 (lv_at hl 6 rfl) ?_
          refine lv_iload_n S.1 S.2.1 dX7_drawOf_60 rfl (lv_at hl 3 rfl) ?_
          obtain ⟨r12_, z10_, h11_, hF⟩ := Ybs hF
          refine YcallVv (rest := []) S hw (c_X7_addToLetters hdj hzz6_ hx6 hx3 h11_) my_X7_addToLetters mi_X7_addToLetters ml_X7_78 zd_24 zc_X7 rfl (Zrr hR (by decide)) ⟨Nat.zero_le _, Nat.zero_le _⟩ hl.1 rfl rfl (Nat.le_of_ble_eq_true rfl) dX7_drawOf_61 (fun hzz10_ H locs hw => ?_)
          exact w_X7_drawOf_b64 S hr hlk hR hdj hk27 _ _ _ _ _ _ _ _ _ hF hw hzz10_ hx2 hx3 hx4 hx5 hx6 (lv_sub hl [0, 1, 2, 3, 4, 5, 6] rfl)
set_option maxRecDepth 100000 in
set_option maxHeartbeats 4000000 in
theorem c_X7_drawOf {l : Launch} {D : va_G} {cA : Nat → ClassId} {ad : Nat → Nat} (hdj : Zdj ad) {z z1 : ZI} {x2 : Int} {x3 : Int} {x4 : Int} {r : Int} (hzz : Zok z) (hx2 : InR x2) (hx3 : InR x3) (hx4 : InR x4) (hF : F_X7_drawOf z x2 x3 x4 = some (r, z1)) : YMi l D cA ad (45) yX7_drawOf cX7_drawOf 7 (some .int) [.ref (ad 24), .ref (ad 11), .int (i32 x2), .int (i32 x3), .int (i32 x4)] z r z1 :=
  Zmet hdj (by decide) rfl (Nat.le_of_ble_eq_true rfl) (lv := [(0, .ref (ad 24)), (1, .ref (ad 11)), (2, .int (i32 (x2))), (3, .int (i32 (x3))), (4, .int (i32 (x4)))]) rfl (fun p e s m args below meth c ls S hr hlk hw hl => by
    have hR : 45 ≤ (Zrm (45)).frames ∧ 60 * (45) ≤ (Zrm (45)).locals := ⟨Nat.le_refl _, Nat.le_refl _⟩
    unfold F_X7_drawOf at hF
    revert hR
    generalize Zrm (45) = R
    intro hR
    refine lv_aload_n S.1 S.2.1 dX7_drawOf_0 rfl (lv_at hl 0 rfl) ?_
    refine lv_iconst (v := i32 0) S.1 S.2.1 dX7_drawOf_1 ic_0 ?_
    refine lv_iload_n S.1 S.2.1 dX7_drawOf_2 rfl (lv_at hl 3 rfl) ?_
    obtain ⟨r3_, z1_, h2_, hF⟩ := Ybs hF
    refine YcallVi (rest := []) S hw (c_X7_inForce hdj hzz r_0 hx3 h2_) my_X7_inForce mi_X7_inForce ml_X7_59 zd_24 zc_X7 rfl (Zrr hR (by decide)) ⟨Nat.zero_le _, Nat.zero_le _⟩ hl.1 rfl rfl (Nat.le_of_ble_eq_true rfl) dX7_drawOf_3 (fun hrr3_ hzz1_ H locs hw => ?_)
    refine lv_istore (lv' := [(5, .int (i32 (r3_))), (0, .ref (ad 24)), (1, .ref (ad 11)), (2, .int (i32 (x2))), (3, .int (i32 (x3))), (4, .int (i32 (x4)))]) S.1 S.2.1 dX7_drawOf_6 hl (by decide) rfl (fun ls hl => ?_)
    refine lv_iload S.1 S.2.1 dX7_drawOf_8 (lv_at hl 0 rfl) ?_
    refine lv_bipush (v := i32 (-9)) S.1 S.2.1 dX7_drawOf_10 bp_m9 ?_
    refine Yicmp_ne (tgt := 17) S hrr3_ r_m9 dX7_drawOf_12 (by decide) (fun c4_ => ?_) (fun c4_ => ?_)
    · replace hF := ZtN c4_ hF
      refine lv_aload_n S.1 S.2.1 dX7_drawOf_17 rfl (lv_at hl 1 rfl) ?_
      refine gf_X7_31 S hw dX7_drawOf_18 ?_
      obtain ⟨r7_, z5_, h6_, hF⟩ := Ybs hF
      refine YcallVv (rest := []) S hw (c_X6_clearLetters hdj hzz1_  h6_) my_X6_clearLetters mi_X6_clearLetters ml_X7_63 zd_30 zc_X6 rfl (Zrr hR (by decide)) ⟨Nat.zero_le _, Nat.zero_le _⟩ hl.1 rfl rfl (Nat.le_of_ble_eq_true rfl) dX7_drawOf_21 (fun hzz5_ H locs hw => ?_)
      refine lv_iconst (v := i32 0) S.1 S.2.1 dX7_drawOf_24 ic_0 ?_
      refine lv_istore (lv' := [(6, .int (i32 (0))), (5, .int (i32 (r3_))), (0, .ref (ad 24)), (1, .ref (ad 11)), (2, .int (i32 (x2))), (3, .int (i32 (x3))), (4, .int (i32 (x4)))]) S.1 S.2.1 dX7_drawOf_25 hl (by decide) rfl (fun ls hl => ?_)
      exact w_X7_drawOf_L27 S hr hlk hR hdj Zfuel _ _ _ _ _ _ _ _ _ hF hw hzz5_ hx2 hx3 hx4 hrr3_ r_0 (lv_sub hl [2, 3, 4, 5, 6, 1, 0] rfl)
    · replace hF := ZtP c4_ hF
      refine lv_iconst (v := i32 0) S.1 S.2.1 dX7_drawOf_15 ic_0 ?_
      exact Yireti S hw hzz1_ r_0 hr hlk hF dX7_drawOf_16)
set_option maxRecDepth 100000 in
set_option maxHeartbeats 4000000 in
theorem w_X10_draw_b80 {RR : Int × ZI} (S : CallFix p m c cX10_draw 4 s args Ztbl RX10) (hr : meth.sig.returnType = some .int) (hlk : meth.locks = false) (hR : 46 ≤ R.frames ∧ 60 * (46) ≤ R.locals) (hdj : Zdj ad) : ∀ (z : ZI) (y0 : Int) (H : Heap) (locs : List Loc) (ls : Array Slot), X10_draw_b80 z y0 = some RR → ZW D cA ad (ZA ad) (Zc z) s H locs → Zok z → InR y0 → lv_has ls 4 [] → W p l e R s m args below meth c H locs 0 0 (MQ below (YQi D cA ad RR.1 RR.2) args s 0 0 (ZA ad)) (F0 m 80 ls [.int (i32 (y0))]) := by
  intro z y0 H locs ls hF hw hzz hy0 hl
  unfold X10_draw_b80 at hF
  exact Yireti S hw hzz hy0 hr hlk hF dX10_draw_80
set_option maxRecDepth 100000 in
set_option maxHeartbeats 4000000 in
theorem c_X10_draw {l : Launch} {D : va_G} {cA : Nat → ClassId} {ad : Nat → Nat} (hdj : Zdj ad) {z z1 : ZI} {x1 : Int} {x2 : Int} {r : Int} (hzz : Zok z) (hx1 : InR x1) (hx2 : InR x2) (hF : F_X10_draw z x1 x2 = some (r, z1)) : YMi l D cA ad (46) yX10_draw cX10_draw 4 (some .int) [.ref (ad 0), .int (i32 x1), .int (i32 x2)] z r z1 :=
  Zmet hdj (by decide) rfl (Nat.le_of_ble_eq_true rfl) (lv := [(0, .ref (ad 0)), (1, .int (i32 (x1))), (2, .int (i32 (x2)))]) rfl (fun p e s m args below meth c ls S hr hlk hw hl => by
    have hR : 46 ≤ (Zrm (46)).frames ∧ 60 * (46) ≤ (Zrm (46)).locals := ⟨Nat.le_refl _, Nat.le_refl _⟩
    unfold F_X10_draw at hF
    revert hR
    generalize Zrm (46) = R
    intro hR
    refine lv_aload_n S.1 S.2.1 dX10_draw_0 rfl (lv_at hl 0 rfl) ?_
    refine gf_X10_41 S hw dX10_draw_1 ?_
    refine lv_iload_n S.1 S.2.1 dX10_draw_4 rfl (lv_at hl 1 rfl) ?_
    obtain ⟨r3_, z1_, h2_, hF⟩ := Ybs hF
    refine YcallVi (rest := []) S hw (c_X0_has hdj hzz hx1 h2_) my_X0_has mi_X0_has ml_X10_160 zd_33 zc_X0 rfl (Zrr hR (by decide)) ⟨Nat.zero_le _, Nat.zero_le _⟩ hl.1 rfl rfl (Nat.le_of_ble_eq_true rfl) dX10_draw_5 (fun hrr3_ hzz1_ H locs hw => ?_)
    refine Yif_ne (tgt := 17) S hrr3_ dX10_draw_8 (by decide) (fun c4_ => ?_) (fun c4_ => ?_)
    · replace hF := ZtN c4_ hF
      refine lv_iload_n S.1 S.2.1 dX10_draw_17 rfl (lv_at hl 2 rfl) ?_
      refine lv_iconst (v := i32 0) S.1 S.2.1 dX10_draw_18 ic_0 ?_
      refine lv_sipush (v := i32 999) S.1 S.2.1 dX10_draw_19 sp_999 ?_
      obtain ⟨r7_, z5_, h6_, hF⟩ := Ybs hF
      refine YcallSi (rest := []) S hw (c_X10_checkRange hdj hzz1_ hx2 r_0 r_999 h6_) my_X10_checkRange ms_X10_checkRange ml_X10_85 (Zrr hR (by decide)) ⟨Nat.zero_le _, Nat.zero_le _⟩ hl.1 rfl rfl (Nat.le_of_ble_eq_true rfl) dX10_draw_22 (fun hrr7_ hzz5_ H locs hw => ?_)
      refine lv_istore_n (lv' := [(3, .int (i32 (r7_))), (0, .ref (ad 0)), (1, .int (i32 (x1))), (2, .int (i32 (x2)))]) S.1 S.2.1 dX10_draw_25 rfl hl (by decide) rfl (fun ls hl => ?_)
      refine lv_iload_n S.1 S.2.1 dX10_draw_26 rfl (lv_at hl 0 rfl) ?_
      refine Yif_eq (tgt := 36) S hrr7_ dX10_draw_27 (by decide) (fun c8_ => ?_) (fun c8_ => ?_)
      · replace hF := ZtP c8_ hF
        refine lv_aload_n S.1 S.2.1 dX10_draw_36 rfl (lv_at hl 1 rfl) ?_
        refine gf_X10_41 S hw dX10_draw_37 ?_
        refine lv_iload_n S.1 S.2.1 dX10_draw_40 rfl (lv_at hl 2 rfl) ?_
        refine lv_iload_n S.1 S.2.1 dX10_draw_41 rfl (lv_at hl 3 rfl) ?_
        obtain ⟨r11_, z9_, h10_, hF⟩ := Ybs hF
        refine YcallVi (rest := []) S hw (c_X0_isGoodOn hdj hzz5_ hx1 hx2 h10_) my_X0_isGoodOn mi_X0_isGoodOn ml_X10_170 zd_33 zc_X0 rfl (Zrr hR (by decide)) ⟨Nat.zero_le _, Nat.zero_le _⟩ hl.1 rfl rfl (Nat.le_of_ble_eq_true rfl) dX10_draw_42 (fun hrr11_ hzz9_ H locs hw => ?_)
        refine Yif_eq (tgt := 79) S hrr11_ dX10_draw_45 (by decide) (fun c12_ => ?_) (fun c12_ => ?_)
        · replace hF := ZtP c12_ hF
          refine lv_iconst (v := i32 0) S.1 S.2.1 dX10_draw_79 ic_0 ?_
          exact w_X10_draw_b80 S hr hlk hR hdj _ _ _ _ _ hF hw hzz9_ r_0 (lv_sub hl [] rfl)
        · replace hF := ZtN c12_ hF
          refine lv_aload_n S.1 S.2.1 dX10_draw_48 rfl (lv_at hl 1 rfl) ?_
          refine gf_X10_34 S hw dX10_draw_49 ?_
          refine lv_aload_n S.1 S.2.1 dX10_draw_52 rfl (lv_at hl 1 rfl) ?_
          refine gf_X10_27 S hw dX10_draw_53 ?_
          refine lv_aload_n S.1 S.2.1 dX10_draw_56 rfl (lv_at hl 1 rfl) ?_
          refine gf_X10_41 S hw dX10_draw_57 ?_
          refine lv_iload_n S.1 S.2.1 dX10_draw_60 rfl (lv_at hl 2 rfl) ?_
          obtain ⟨r15_, z13_, h14_, hF⟩ := Ybs hF
          refine YcallVi (rest := [.ref (ad 11), .ref (ad 24)]) S hw (c_X0_houseOf hdj hzz9_ hx1 h14_) my_X0_houseOf mi_X0_houseOf ml_X10_174 zd_33 zc_X0 rfl (Zrr hR (by decide)) ⟨Nat.zero_le _, Nat.zero_le _⟩ hl.1 rfl rfl (Nat.le_of_ble_eq_true rfl) dX10_draw_61 (fun hrr15_ hzz13_ H locs hw => ?_)
          refine lv_iload_n S.1 S.2.1 dX10_draw_64 rfl (lv_at hl 3 rfl) ?_
          refine lv_aload_n S.1 S.2.1 dX10_draw_65 rfl (lv_at hl 1 rfl) ?_
          refine gf_X10_41 S hw dX10_draw_66 ?_
          refine lv_iload_n S.1 S.2.1 dX10_draw_69 rfl (lv_at hl 2 rfl) ?_
          obtain ⟨r18_, z16_, h17_, hF⟩ := Ybs hF
          refine YcallVi (rest := [.int (i32 (x2)), .int (i32 (r15_)), .ref (ad 11), .ref (ad 24)]) S hw (c_X0_madeOn hdj hzz13_ hx1 h17_) my_X0_madeOn mi_X0_madeOn ml_X10_177 zd_33 zc_X0 rfl (Zrr hR (by decide)) ⟨Nat.zero_le _, Nat.zero_le _⟩ hl.1 rfl rfl (Nat.le_of_ble_eq_true rfl) dX10_draw_70 (fun hrr18_ hzz16_ H locs hw => ?_)
          obtain ⟨r21_, z19_, h20_, hF⟩ := Ybs hF
          refine YcallVi (rest := []) S hw (c_X7_drawOf hdj hzz16_ hrr15_ hx2 hrr18_ h20_) my_X7_drawOf mi_X7_drawOf ml_X10_180 zd_24 zc_X7 rfl (Zrr hR (by decide)) ⟨Nat.zero_le _, Nat.zero_le _⟩ hl.1 rfl rfl (Nat.le_of_ble_eq_true rfl) dX10_draw_73 (fun hrr21_ hzz19_ H locs hw => ?_)
          refine lv_goto (tgt := 80) S.1 S.2.1 dX10_draw_76 (by decide) ?_
          exact w_X10_draw_b80 S hr hlk hR hdj _ _ _ _ _ hF hw hzz19_ hrr21_ (lv_sub hl [] rfl)
      · replace hF := ZtN c8_ hF
        refine lv_aload_n S.1 S.2.1 dX10_draw_30 rfl (lv_at hl 1 rfl) ?_
        refine lv_iload_n S.1 S.2.1 dX10_draw_31 rfl (lv_at hl 0 rfl) ?_
        obtain ⟨r24_, z22_, h23_, hF⟩ := Ybs hF
        refine YcallVi (rest := []) S hw (c_X10_refuse hdj hzz5_ hrr7_ h23_) my_X10_refuse mi_X10_refuse ml_X10_81 zd_0 zc_X10 rfl (Zrr hR (by decide)) ⟨Nat.zero_le _, Nat.zero_le _⟩ hl.1 rfl rfl (Nat.le_of_ble_eq_true rfl) dX10_draw_32 (fun hrr24_ hzz22_ H locs hw => ?_)
        exact Yireti S hw hzz22_ hrr24_ hr hlk hF dX10_draw_35
    · replace hF := ZtP c4_ hF
      refine lv_aload_n S.1 S.2.1 dX10_draw_11 rfl (lv_at hl 0 rfl) ?_
      refine lv_iconst (v := i32 (-1)) S.1 S.2.1 dX10_draw_12 ic_m1 ?_
      obtain ⟨r27_, z25_, h26_, hF⟩ := Ybs hF
      refine YcallVi (rest := []) S hw (c_X10_refuse hdj hzz1_ r_m1 h26_) my_X10_refuse mi_X10_refuse ml_X10_81 zd_0 zc_X10 rfl (Zrr hR (by decide)) ⟨Nat.zero_le _, Nat.zero_le _⟩ hl.1 rfl rfl (Nat.le_of_ble_eq_true rfl) dX10_draw_13 (fun hrr27_ hzz25_ H locs hw => ?_)
      exact Yireti S hw hzz25_ hrr27_ hr hlk hF dX10_draw_16)
set_option maxRecDepth 100000 in
set_option maxHeartbeats 4000000 in
theorem c_X10_end {l : Launch} {D : va_G} {cA : Nat → ClassId} {ad : Nat → Nat} (hdj : Zdj ad) {z z1 : ZI} {x1 : Int} {r : Int} (hzz : Zok z) (hx1 : InR x1) (hF : F_X10_end z x1 = some (r, z1)) : YMi l D cA ad (1) yX10_end cX10_end 2 (some .int) [.ref (ad 0), .int (i32 x1)] z r z1 :=
  Zmet hdj (by decide) rfl (Nat.le_of_ble_eq_true rfl) (lv := [(0, .ref (ad 0)), (1, .int (i32 (x1)))]) rfl (fun p e s m args below meth c ls S hr hlk hw hl => by
    have hR : 1 ≤ (Zrm (1)).frames ∧ 60 * (1) ≤ (Zrm (1)).locals := ⟨Nat.le_refl _, Nat.le_refl _⟩
    unfold F_X10_end at hF
    revert hR
    generalize Zrm (1) = R
    intro hR
    refine lv_aload_n S.1 S.2.1 dX10_end_0 rfl (lv_at hl 0 rfl) ?_
    refine gf_X10_41 S hw dX10_end_1 ?_
    refine lv_iload_n S.1 S.2.1 dX10_end_4 rfl (lv_at hl 1 rfl) ?_
    obtain ⟨r3_, z1_, h2_, hF⟩ := Ybs hF
    refine YcallVi (rest := []) S hw (c_X0_has hdj hzz hx1 h2_) my_X0_has mi_X0_has ml_X10_160 zd_33 zc_X0 rfl (Zrr hR (by decide)) ⟨Nat.zero_le _, Nat.zero_le _⟩ hl.1 rfl rfl (Nat.le_of_ble_eq_true rfl) dX10_end_5 (fun hrr3_ hzz1_ H locs hw => ?_)
    refine Yif_ne (tgt := 17) S hrr3_ dX10_end_8 (by decide) (fun c4_ => ?_) (fun c4_ => ?_)
    · replace hF := ZtN c4_ hF
      refine lv_aload_n S.1 S.2.1 dX10_end_17 rfl (lv_at hl 0 rfl) ?_
      refine gf_X10_41 S hw dX10_end_18 ?_
      refine lv_iload_n S.1 S.2.1 dX10_end_21 rfl (lv_at hl 1 rfl) ?_
      obtain ⟨r7_, z5_, h6_, hF⟩ := Ybs hF
      refine YcallVi (rest := []) S hw (c_X0_isEnded hdj hzz1_ hx1 h6_) my_X0_isEnded mi_X0_isEnded ml_X10_163 zd_33 zc_X0 rfl (Zrr hR (by decide)) ⟨Nat.zero_le _, Nat.zero_le _⟩ hl.1 rfl rfl (Nat.le_of_ble_eq_true rfl) dX10_end_22 (fun hrr7_ hzz5_ H locs hw => ?_)
      refine Yif_eq (tgt := 35) S hrr7_ dX10_end_25 (by decide) (fun c8_ => ?_) (fun c8_ => ?_)
      · replace hF := ZtP c8_ hF
        refine lv_aload_n S.1 S.2.1 dX10_end_35 rfl (lv_at hl 0 rfl) ?_
        refine gf_X10_41 S hw dX10_end_36 ?_
        refine lv_iload_n S.1 S.2.1 dX10_end_39 rfl (lv_at hl 1 rfl) ?_
        refine lv_aload_n S.1 S.2.1 dX10_end_40 rfl (lv_at hl 0 rfl) ?_
        refine gg_X10_7 S hw dX10_end_41 ?_
        obtain ⟨r11_, z9_, h10_, hF⟩ := Ybs hF
        refine YcallVv (rest := []) S hw (c_X0_close hdj hzz5_ hx1 (hzz5_.1 0 0 (by decide)) h10_) my_X0_close mi_X0_close ml_X10_166 zd_33 zc_X0 rfl (Zrr hR (by decide)) ⟨Nat.zero_le _, Nat.zero_le _⟩ hl.1 rfl rfl (Nat.le_of_ble_eq_true rfl) dX10_end_44 (fun hzz9_ H locs hw => ?_)
        refine lv_iconst (v := i32 1) S.1 S.2.1 dX10_end_47 ic_1 ?_
        exact Yireti S hw hzz9_ r_1 hr hlk hF dX10_end_48
      · replace hF := ZtN c8_ hF
        refine lv_aload_n S.1 S.2.1 dX10_end_28 rfl (lv_at hl 0 rfl) ?_
        refine lv_bipush (v := i32 (-3)) S.1 S.2.1 dX10_end_29 bp_m3 ?_
        obtain ⟨r14_, z12_, h13_, hF⟩ := Ybs hF
        refine YcallVi (rest := []) S hw (c_X10_refuse hdj hzz5_ r_m3 h13_) my_X10_refuse mi_X10_refuse ml_X10_81 zd_0 zc_X10 rfl (Zrr hR (by decide)) ⟨Nat.zero_le _, Nat.zero_le _⟩ hl.1 rfl rfl (Nat.le_of_ble_eq_true rfl) dX10_end_31 (fun hrr14_ hzz12_ H locs hw => ?_)
        exact Yireti S hw hzz12_ hrr14_ hr hlk hF dX10_end_34
    · replace hF := ZtP c4_ hF
      refine lv_aload_n S.1 S.2.1 dX10_end_11 rfl (lv_at hl 0 rfl) ?_
      refine lv_iconst (v := i32 (-1)) S.1 S.2.1 dX10_end_12 ic_m1 ?_
      obtain ⟨r17_, z15_, h16_, hF⟩ := Ybs hF
      refine YcallVi (rest := []) S hw (c_X10_refuse hdj hzz1_ r_m1 h16_) my_X10_refuse mi_X10_refuse ml_X10_81 zd_0 zc_X10 rfl (Zrr hR (by decide)) ⟨Nat.zero_le _, Nat.zero_le _⟩ hl.1 rfl rfl (Nat.le_of_ble_eq_true rfl) dX10_end_13 (fun hrr17_ hzz15_ H locs hw => ?_)
      exact Yireti S hw hzz15_ hrr17_ hr hlk hF dX10_end_16)
set_option maxRecDepth 100000 in
set_option maxHeartbeats 4000000 in
theorem w_X7_takeBytes_L3 {RR : Int × ZI} (S : CallFix p m c cX7_takeBytes 5 s args Ztbl RX7) (hr : meth.sig.returnType = some .int) (hlk : meth.locks = false) (hR : 0 ≤ R.frames ∧ 60 * (0) ≤ R.locals) (hdj : Zdj ad) : ∀ (n : Nat) (z : ZI) (x1 : Int) (x2 : Int) (x4 : Int) (H : Heap) (locs : List Loc) (ls : Array Slot), X7_takeBytes_L3 n z x1 x2 x4 = some RR → ZW D cA ad (ZA ad) (Zc z) s H locs → Zok z → InR x1 → InL x2 → InR x4 → lv_has ls 5 [(0, .ref (ad 24)), (1, .int (i32 (x1))), (2, .long (i64 (x2))), (4, .int (i32 (x4)))] → W p l e R s m args below meth c H locs 0 0 (MQ below (YQi D cA ad RR.1 RR.2) args s 0 0 (ZA ad)) (F0 m 3 ls []) := by
  intro n
  induction n with
  | zero => intro z x1 x2 x4 H locs ls hF; exact nomatch hF
  | succ n hk3 =>
    intro z x1 x2 x4 H locs ls hF hw hzz hx1 hx2 hx4 hl
    replace hF : X7_takeBytes_L3b (X7_takeBytes_L3 n) z x1 x2 x4 = some RR := hF
    unfold X7_takeBytes_L3b at hF
    refine lv_iload S.1 S.2.1 dX7_takeBytes_3 (lv_at hl 3 rfl) ?_
    refine lv_iload_n S.1 S.2.1 dX7_takeBytes_5 rfl (lv_at hl 1 rfl) ?_
    refine Yicmp_ge (tgt := 43) S hx4 hx1 dX7_takeBytes_6 (by decide) (fun c1_ => ?_) (fun c1_ => ?_)
    · replace hF := ZtP c1_ hF
      refine lv_aload_n S.1 S.2.1 dX7_takeBytes_43 rfl (lv_at hl 0 rfl) ?_
      refine gg_X7_35 S hw dX7_takeBytes_44 ?_
      exact Yireti S hw hzz (hzz.1 24 1 (by decide)) hr hlk hF dX7_takeBytes_47
    · replace hF := ZtN c1_ hF
      refine lv_aload_n S.1 S.2.1 dX7_takeBytes_9 rfl (lv_at hl 0 rfl) ?_
      refine gf_X7_9 S hw dX7_takeBytes_10 ?_
      refine lv_aload_n S.1 S.2.1 dX7_takeBytes_13 rfl (lv_at hl 0 rfl) ?_
      refine gg_X7_35 S hw dX7_takeBytes_14 ?_
      refine lv_lload_n S.1 S.2.1 dX7_takeBytes_17 rfl (lv_at hl 2 rfl) ?_
      refine lv_bipush (v := i32 8) S.1 S.2.1 dX7_takeBytes_18 bp_8 ?_
      refine lv_iload S.1 S.2.1 dX7_takeBytes_20 (lv_at hl 3 rfl) ?_
      obtain ⟨g2_, hF⟩ := Zgs hF
      refine Yimul S dX7_takeBytes_22 ?_
      refine Ylushr S dX7_takeBytes_23 ?_
      refine Yl2i S dX7_takeBytes_24 ?_
      refine Yi2b S dX7_takeBytes_25 ?_
      obtain ⟨b5_, hF⟩ := Zgs hF
      obtain ⟨b3_, hF⟩ := Zgs hF
      refine Ybast S hw hzz zd_25 (by decide) (hzz.1 24 1 (by decide)) (InR_of _) b5_ b3_ dX7_takeBytes_26 (fun z4_ H locs ez hzz4_ hw => ?_)
      replace hF := Zle ez hF; clear ez
      refine lv_aload_n S.1 S.2.1 dX7_takeBytes_27 rfl (lv_at hl 0 rfl) ?_
      refine lv_dup S.1 S.2.1 dX7_takeBytes_28 rfl ?_
      refine gg_X7_35 S hw dX7_takeBytes_29 ?_
      refine lv_iconst (v := i32 1) S.1 S.2.1 dX7_takeBytes_32 ic_1 ?_
      obtain ⟨g6_, hF⟩ := Zgs hF
      refine Yiadd S dX7_takeBytes_33 ?_
      refine pp_X7_35 S hw hzz4_ g6_ dX7_takeBytes_34 (fun z7_ H locs ez hzz7_ hw => ?_)
      replace hF := Zle ez hF; clear ez
      obtain ⟨g8_, hF⟩ := Zgs hF
      refine lv_iinc (v := i32 (x4 + 1)) (lv' := [(4, .int (i32 (x4 + 1))), (0, .ref (ad 24)), (1, .int (i32 (x1))), (2, .long (i64 (x2)))]) S.1 S.2.1 dX7_takeBytes_37 hl (k := 3) rfl Yiinc (by decide) rfl (fun ls hl => ?_)
      refine lv_goto (tgt := 3) S.1 S.2.1 dX7_takeBytes_40 (by decide) ?_
      exact hk3 _ _ _ _ _ _ _ hF hw hzz7_ hx1 hx2 g8_ (lv_sub hl [1, 2, 3, 0] rfl)
set_option maxRecDepth 100000 in
set_option maxHeartbeats 4000000 in
theorem c_X7_takeBytes {l : Launch} {D : va_G} {cA : Nat → ClassId} {ad : Nat → Nat} (hdj : Zdj ad) {z z1 : ZI} {x1 : Int} {x2 : Int} {r : Int} (hzz : Zok z) (hx1 : InR x1) (hx2 : InL x2) (hF : F_X7_takeBytes z x1 x2 = some (r, z1)) : YMi l D cA ad (0) yX7_takeBytes cX7_takeBytes 5 (some .int) [.ref (ad 24), .int (i32 x1), .long (i64 x2)] z r z1 :=
  Zmet hdj (by decide) rfl (Nat.le_of_ble_eq_true rfl) (lv := [(0, .ref (ad 24)), (1, .int (i32 (x1))), (2, .long (i64 (x2)))]) rfl (fun p e s m args below meth c ls S hr hlk hw hl => by
    have hR : 0 ≤ (Zrm (0)).frames ∧ 60 * (0) ≤ (Zrm (0)).locals := ⟨Nat.le_refl _, Nat.le_refl _⟩
    unfold F_X7_takeBytes at hF
    revert hR
    generalize Zrm (0) = R
    intro hR
    refine lv_iconst (v := i32 0) S.1 S.2.1 dX7_takeBytes_0 ic_0 ?_
    refine lv_istore (lv' := [(4, .int (i32 (0))), (0, .ref (ad 24)), (1, .int (i32 (x1))), (2, .long (i64 (x2)))]) S.1 S.2.1 dX7_takeBytes_1 hl (by decide) rfl (fun ls hl => ?_)
    exact w_X7_takeBytes_L3 S hr hlk hR hdj Zfuel _ _ _ _ _ _ _ hF hw hzz hx1 hx2 r_0 (lv_sub hl [1, 2, 3, 0] rfl))
set_option maxRecDepth 100000 in
set_option maxHeartbeats 4000000 in
theorem w_X10_feed_b32 {RR : Int × ZI} (S : CallFix p m c cX10_feed 4 s args Ztbl RX10) (hr : meth.sig.returnType = some .int) (hlk : meth.locks = false) (hR : 1 ≤ R.frames ∧ 60 * (1) ≤ R.locals) (hdj : Zdj ad) : ∀ (z : ZI) (H : Heap) (locs : List Loc) (ls : Array Slot), X10_feed_b32 z  = some RR → ZW D cA ad (ZA ad) (Zc z) s H locs → Zok z → lv_has ls 4 [(0, .ref (ad 0))] → W p l e R s m args below meth c H locs 0 0 (MQ below (YQi D cA ad RR.1 RR.2) args s 0 0 (ZA ad)) (F0 m 32 ls []) := by
  intro z  H locs ls hF hw hzz  hl
  unfold X10_feed_b32 at hF
  refine lv_aload_n S.1 S.2.1 dX10_feed_32 rfl (lv_at hl 0 rfl) ?_
  refine lv_bipush (v := i32 (-6)) S.1 S.2.1 dX10_feed_33 bp_m6 ?_
  obtain ⟨r3_, z1_, h2_, hF⟩ := Ybs hF
  refine YcallVi (rest := []) S hw (c_X10_refuse hdj hzz r_m6 h2_) my_X10_refuse mi_X10_refuse ml_X10_81 zd_0 zc_X10 rfl (Zrr hR (by decide)) ⟨Nat.zero_le _, Nat.zero_le _⟩ hl.1 rfl rfl (Nat.le_of_ble_eq_true rfl) dX10_feed_35 (fun hrr3_ hzz1_ H locs hw => ?_)
  exact Yireti S hw hzz1_ hrr3_ hr hlk hF dX10_feed_38
set_option maxRecDepth 100000 in
set_option maxHeartbeats 4000000 in
theorem c_X10_feed {l : Launch} {D : va_G} {cA : Nat → ClassId} {ad : Nat → Nat} (hdj : Zdj ad) {z z1 : ZI} {x1 : Int} {x2 : Int} {r : Int} (hzz : Zok z) (hx1 : InR x1) (hx2 : InL x2) (hF : F_X10_feed z x1 x2 = some (r, z1)) : YMi l D cA ad (1) yX10_feed cX10_feed 4 (some .int) [.ref (ad 0), .int (i32 x1), .long (i64 x2)] z r z1 :=
  Zmet hdj (by decide) rfl (Nat.le_of_ble_eq_true rfl) (lv := [(0, .ref (ad 0)), (1, .int (i32 (x1))), (2, .long (i64 (x2)))]) rfl (fun p e s m args below meth c ls S hr hlk hw hl => by
    have hR : 1 ≤ (Zrm (1)).frames ∧ 60 * (1) ≤ (Zrm (1)).locals := ⟨Nat.le_refl _, Nat.le_refl _⟩
    unfold F_X10_feed at hF
    revert hR
    generalize Zrm (1) = R
    intro hR
    refine lv_iload_n S.1 S.2.1 dX10_feed_0 rfl (lv_at hl 1 rfl) ?_
    refine lv_iconst (v := i32 1) S.1 S.2.1 dX10_feed_1 ic_1 ?_
    refine Yicmp_ge (tgt := 12) S hx1 r_1 dX10_feed_2 (by decide) (fun c1_ => ?_) (fun c1_ => ?_)
    · replace hF := ZtP c1_ hF
      refine lv_iload_n S.1 S.2.1 dX10_feed_12 rfl (lv_at hl 1 rfl) ?_
      refine lv_bipush (v := i32 8) S.1 S.2.1 dX10_feed_13 bp_8 ?_
      refine Yicmp_gt (tgt := 32) S hx1 r_8 dX10_feed_15 (by decide) (fun c2_ => ?_) (fun c2_ => ?_)
      · replace hF := ZtP c2_ hF
        exact w_X10_feed_b32 S hr hlk hR hdj _ _ _ _ hF hw hzz  (lv_sub hl [0] rfl)
      · replace hF := ZtN c2_ hF
        refine lv_aload_n S.1 S.2.1 dX10_feed_18 rfl (lv_at hl 0 rfl) ?_
        refine gf_X10_34 S hw dX10_feed_19 ?_
        refine gg_X10_141 S hw dX10_feed_22 ?_
        refine lv_iload_n S.1 S.2.1 dX10_feed_25 rfl (lv_at hl 1 rfl) ?_
        obtain ⟨g3_, hF⟩ := Zgs hF
        refine Yiadd S dX10_feed_26 ?_
        refine lv_bipush (v := i32 60) S.1 S.2.1 dX10_feed_27 bp_60 ?_
        refine Yicmp_le (tgt := 39) S g3_ r_60 dX10_feed_29 (by decide) (fun c4_ => ?_) (fun c4_ => ?_)
        · replace hF := ZtP c4_ hF
          refine lv_aload_n S.1 S.2.1 dX10_feed_39 rfl (lv_at hl 0 rfl) ?_
          refine gf_X10_34 S hw dX10_feed_40 ?_
          refine lv_iload_n S.1 S.2.1 dX10_feed_43 rfl (lv_at hl 1 rfl) ?_
          refine lv_lload_n S.1 S.2.1 dX10_feed_44 rfl (lv_at hl 2 rfl) ?_
          obtain ⟨r7_, z5_, h6_, hF⟩ := Ybs hF
          refine YcallVi (rest := []) S hw (c_X7_takeBytes hdj hzz hx1 hx2 h6_) my_X7_takeBytes mi_X7_takeBytes ml_X10_144 zd_24 zc_X7 rfl (Zrr hR (by decide)) ⟨Nat.zero_le _, Nat.zero_le _⟩ hl.1 rfl rfl (Nat.le_of_ble_eq_true rfl) dX10_feed_45 (fun hrr7_ hzz5_ H locs hw => ?_)
          exact Yireti S hw hzz5_ hrr7_ hr hlk hF dX10_feed_48
        · replace hF := ZtN c4_ hF
          exact w_X10_feed_b32 S hr hlk hR hdj _ _ _ _ hF hw hzz  (lv_sub hl [0] rfl)
    · replace hF := ZtN c1_ hF
      refine lv_aload_n S.1 S.2.1 dX10_feed_5 rfl (lv_at hl 0 rfl) ?_
      refine lv_bipush (v := i32 (-4)) S.1 S.2.1 dX10_feed_6 bp_m4 ?_
      obtain ⟨r10_, z8_, h9_, hF⟩ := Ybs hF
      refine YcallVi (rest := []) S hw (c_X10_refuse hdj hzz r_m4 h9_) my_X10_refuse mi_X10_refuse ml_X10_81 zd_0 zc_X10 rfl (Zrr hR (by decide)) ⟨Nat.zero_le _, Nat.zero_le _⟩ hl.1 rfl rfl (Nat.le_of_ble_eq_true rfl) dX10_feed_8 (fun hrr10_ hzz8_ H locs hw => ?_)
      exact Yireti S hw hzz8_ hrr10_ hr hlk hF dX10_feed_11)
set_option maxRecDepth 100000 in
set_option maxHeartbeats 4000000 in
theorem c_X4_comesTo {l : Launch} {D : va_G} {cA : Nat → ClassId} {ad : Nat → Nat} (hdj : Zdj ad) {z z1 : ZI} {x1 : Int} {x2 : Int} {r : Int} (hzz : Zok z) (hx1 : InR x1) (hx2 : InR x2) (hF : F_X4_comesTo z x1 x2 = some (r, z1)) : YMi l D cA ad (4) yX4_comesTo cX4_comesTo 3 (some .int) [.ref (ad 2), .int (i32 x1), .int (i32 x2)] z r z1 :=
  Zmet hdj (by decide) rfl (Nat.le_of_ble_eq_true rfl) (lv := [(0, .ref (ad 2)), (1, .int (i32 (x1))), (2, .int (i32 (x2)))]) rfl (fun p e s m args below meth c ls S hr hlk hw hl => by
    have hR : 4 ≤ (Zrm (4)).frames ∧ 60 * (4) ≤ (Zrm (4)).locals := ⟨Nat.le_refl _, Nat.le_refl _⟩
    unfold F_X4_comesTo at hF
    revert hR
    generalize Zrm (4) = R
    intro hR
    refine lv_aload_n S.1 S.2.1 dX4_comesTo_0 rfl (lv_at hl 0 rfl) ?_
    refine lv_iload_n S.1 S.2.1 dX4_comesTo_1 rfl (lv_at hl 2 rfl) ?_
    refine lv_iconst (v := i32 0) S.1 S.2.1 dX4_comesTo_2 ic_0 ?_
    obtain ⟨r3_, z1_, h2_, hF⟩ := Ybs hF
    refine YcallVv (rest := []) S hw (c_X4_pour hdj hzz hx2 r_0 h2_) my_X4_pour mi_X4_pour ml_X4_67 zd_2 zc_X4 rfl (Zrr hR (by decide)) ⟨Nat.zero_le _, Nat.zero_le _⟩ hl.1 rfl rfl (Nat.le_of_ble_eq_true rfl) dX4_comesTo_3 (fun hzz1_ H locs hw => ?_)
    refine lv_aload_n S.1 S.2.1 dX4_comesTo_6 rfl (lv_at hl 0 rfl) ?_
    refine gf_X4_36 S hw dX4_comesTo_7 ?_
    refine lv_iload_n S.1 S.2.1 dX4_comesTo_10 rfl (lv_at hl 1 rfl) ?_
    obtain ⟨b4_, hF⟩ := Zgs hF
    refine Yiald S hw zd_9 (by decide) hx1 b4_ dX4_comesTo_11 ?_
    exact Yireti S hw hzz1_ (hzz1_.1 _ _ (by decide)) hr hlk hF dX4_comesTo_12)
set_option maxRecDepth 100000 in
set_option maxHeartbeats 4000000 in
theorem w_X10_flow_b43 {RR : Int × ZI} (S : CallFix p m c cX10_flow 4 s args Ztbl RX10) (hr : meth.sig.returnType = some .int) (hlk : meth.locks = false) (hR : 5 ≤ R.frames ∧ 60 * (5) ≤ R.locals) (hdj : Zdj ad) : ∀ (z : ZI) (y0 : Int) (H : Heap) (locs : List Loc) (ls : Array Slot), X10_flow_b43 z y0 = some RR → ZW D cA ad (ZA ad) (Zc z) s H locs → Zok z → InR y0 → lv_has ls 4 [] → W p l e R s m args below meth c H locs 0 0 (MQ below (YQi D cA ad RR.1 RR.2) args s 0 0 (ZA ad)) (F0 m 43 ls [.int (i32 (y0))]) := by
  intro z y0 H locs ls hF hw hzz hy0 hl
  unfold X10_flow_b43 at hF
  exact Yireti S hw hzz hy0 hr hlk hF dX10_flow_43
set_option maxRecDepth 100000 in
set_option maxHeartbeats 4000000 in
theorem c_X10_flow {l : Launch} {D : va_G} {cA : Nat → ClassId} {ad : Nat → Nat} (hdj : Zdj ad) {z z1 : ZI} {x1 : Int} {x2 : Int} {r : Int} (hzz : Zok z) (hx1 : InR x1) (hx2 : InR x2) (hF : F_X10_flow z x1 x2 = some (r, z1)) : YMi l D cA ad (5) yX10_flow cX10_flow 4 (some .int) [.ref (ad 0), .int (i32 x1), .int (i32 x2)] z r z1 :=
  Zmet hdj (by decide) rfl (Nat.le_of_ble_eq_true rfl) (lv := [(0, .ref (ad 0)), (1, .int (i32 (x1))), (2, .int (i32 (x2)))]) rfl (fun p e s m args below meth c ls S hr hlk hw hl => by
    have hR : 5 ≤ (Zrm (5)).frames ∧ 60 * (5) ≤ (Zrm (5)).locals := ⟨Nat.le_refl _, Nat.le_refl _⟩
    unfold F_X10_flow at hF
    revert hR
    generalize Zrm (5) = R
    intro hR
    refine lv_iload_n S.1 S.2.1 dX10_flow_0 rfl (lv_at hl 1 rfl) ?_
    obtain ⟨r3_, z1_, h2_, hF⟩ := Ybs hF
    refine YcallSi (rest := []) S hw (c_X10_isCell hdj hzz hx1 h2_) my_X10_isCell ms_X10_isCell ml_X10_89 (Zrr hR (by decide)) ⟨Nat.zero_le _, Nat.zero_le _⟩ hl.1 rfl rfl (Nat.le_of_ble_eq_true rfl) dX10_flow_1 (fun hrr3_ hzz1_ H locs hw => ?_)
    refine Yif_ne (tgt := 13) S hrr3_ dX10_flow_4 (by decide) (fun c4_ => ?_) (fun c4_ => ?_)
    · replace hF := ZtN c4_ hF
      refine lv_iload_n S.1 S.2.1 dX10_flow_13 rfl (lv_at hl 2 rfl) ?_
      refine lv_iconst (v := i32 1) S.1 S.2.1 dX10_flow_14 ic_1 ?_
      refine lv_sipush (v := i32 999) S.1 S.2.1 dX10_flow_15 sp_999 ?_
      obtain ⟨r7_, z5_, h6_, hF⟩ := Ybs hF
      refine YcallSi (rest := []) S hw (c_X10_checkRange hdj hzz1_ hx2 r_1 r_999 h6_) my_X10_checkRange ms_X10_checkRange ml_X10_85 (Zrr hR (by decide)) ⟨Nat.zero_le _, Nat.zero_le _⟩ hl.1 rfl rfl (Nat.le_of_ble_eq_true rfl) dX10_flow_18 (fun hrr7_ hzz5_ H locs hw => ?_)
      refine lv_istore_n (lv' := [(3, .int (i32 (r7_))), (0, .ref (ad 0)), (1, .int (i32 (x1))), (2, .int (i32 (x2)))]) S.1 S.2.1 dX10_flow_21 rfl hl (by decide) rfl (fun ls hl => ?_)
      refine lv_iload_n S.1 S.2.1 dX10_flow_22 rfl (lv_at hl 0 rfl) ?_
      refine Yif_ne (tgt := 38) S hrr7_ dX10_flow_23 (by decide) (fun c8_ => ?_) (fun c8_ => ?_)
      · replace hF := ZtN c8_ hF
        refine lv_aload_n S.1 S.2.1 dX10_flow_38 rfl (lv_at hl 1 rfl) ?_
        refine lv_iload_n S.1 S.2.1 dX10_flow_39 rfl (lv_at hl 0 rfl) ?_
        obtain ⟨r11_, z9_, h10_, hF⟩ := Ybs hF
        refine YcallVi (rest := []) S hw (c_X10_refuse hdj hzz5_ hrr7_ h10_) my_X10_refuse mi_X10_refuse ml_X10_81 zd_0 zc_X10 rfl (Zrr hR (by decide)) ⟨Nat.zero_le _, Nat.zero_le _⟩ hl.1 rfl rfl (Nat.le_of_ble_eq_true rfl) dX10_flow_40 (fun hrr11_ hzz9_ H locs hw => ?_)
        exact w_X10_flow_b43 S hr hlk hR hdj _ _ _ _ _ hF hw hzz9_ hrr11_ (lv_sub hl [] rfl)
      · replace hF := ZtP c8_ hF
        refine lv_aload_n S.1 S.2.1 dX10_flow_26 rfl (lv_at hl 1 rfl) ?_
        refine gf_X10_20 S hw dX10_flow_27 ?_
        refine lv_iload_n S.1 S.2.1 dX10_flow_30 rfl (lv_at hl 2 rfl) ?_
        refine lv_iload_n S.1 S.2.1 dX10_flow_31 rfl (lv_at hl 3 rfl) ?_
        obtain ⟨r14_, z12_, h13_, hF⟩ := Ybs hF
        refine YcallVi (rest := []) S hw (c_X4_comesTo hdj hzz5_ hx1 hx2 h13_) my_X4_comesTo mi_X4_comesTo ml_X10_255 zd_2 zc_X4 rfl (Zrr hR (by decide)) ⟨Nat.zero_le _, Nat.zero_le _⟩ hl.1 rfl rfl (Nat.le_of_ble_eq_true rfl) dX10_flow_32 (fun hrr14_ hzz12_ H locs hw => ?_)
        refine lv_goto (tgt := 43) S.1 S.2.1 dX10_flow_35 (by decide) ?_
        exact w_X10_flow_b43 S hr hlk hR hdj _ _ _ _ _ hF hw hzz12_ hrr14_ (lv_sub hl [] rfl)
    · replace hF := ZtP c4_ hF
      refine lv_aload_n S.1 S.2.1 dX10_flow_7 rfl (lv_at hl 0 rfl) ?_
      refine lv_iconst (v := i32 (-1)) S.1 S.2.1 dX10_flow_8 ic_m1 ?_
      obtain ⟨r17_, z15_, h16_, hF⟩ := Ybs hF
      refine YcallVi (rest := []) S hw (c_X10_refuse hdj hzz1_ r_m1 h16_) my_X10_refuse mi_X10_refuse ml_X10_81 zd_0 zc_X10 rfl (Zrr hR (by decide)) ⟨Nat.zero_le _, Nat.zero_le _⟩ hl.1 rfl rfl (Nat.le_of_ble_eq_true rfl) dX10_flow_9 (fun hrr17_ hzz15_ H locs hw => ?_)
      exact Yireti S hw hzz15_ hrr17_ hr hlk hF dX10_flow_12)
set_option maxRecDepth 100000 in
set_option maxHeartbeats 4000000 in
theorem w_X10_isSetOf_b16 {RR : Int × ZI} (S : CallFix p m c cX10_isSetOf 2 s args Ztbl RX10) (hr : meth.sig.returnType = some .boolean) (hlk : meth.locks = false) (hR : 0 ≤ R.frames ∧ 60 * (0) ≤ R.locals) (hdj : Zdj ad) : ∀ (z : ZI) (y0 : Int) (H : Heap) (locs : List Loc) (ls : Array Slot), X10_isSetOf_b16 z y0 = some RR → ZW D cA ad (ZA ad) (Zc z) s H locs → Zok z → InR y0 → lv_has ls 2 [] → W p l e R s m args below meth c H locs 0 0 (MQ below (YQi D cA ad RR.1 RR.2) args s 0 0 (ZA ad)) (F0 m 16 ls [.int (i32 (y0))]) := by
  intro z y0 H locs ls hF hw hzz hy0 hl
  unfold X10_isSetOf_b16 at hF
  obtain ⟨b1_, hF⟩ := Zgs hF
  exact Yiretz S hw hzz hy0 hr hlk b1_ hF dX10_isSetOf_16
set_option maxRecDepth 100000 in
set_option maxHeartbeats 4000000 in
theorem w_X10_isSetOf_b15 {RR : Int × ZI} (S : CallFix p m c cX10_isSetOf 2 s args Ztbl RX10) (hr : meth.sig.returnType = some .boolean) (hlk : meth.locks = false) (hR : 0 ≤ R.frames ∧ 60 * (0) ≤ R.locals) (hdj : Zdj ad) : ∀ (z : ZI) (H : Heap) (locs : List Loc) (ls : Array Slot), X10_isSetOf_b15 z  = some RR → ZW D cA ad (ZA ad) (Zc z) s H locs → Zok z → lv_has ls 2 [] → W p l e R s m args below meth c H locs 0 0 (MQ below (YQi D cA ad RR.1 RR.2) args s 0 0 (ZA ad)) (F0 m 15 ls []) := by
  intro z  H locs ls hF hw hzz  hl
  unfold X10_isSetOf_b15 at hF
  refine lv_iconst (v := i32 0) S.1 S.2.1 dX10_isSetOf_15 ic_0 ?_
  exact w_X10_isSetOf_b16 S hr hlk hR hdj _ _ _ _ _ hF hw hzz r_0 (lv_sub hl [] rfl)
set_option maxRecDepth 100000 in
set_option maxHeartbeats 4000000 in
theorem c_X10_isSetOf {l : Launch} {D : va_G} {cA : Nat → ClassId} {ad : Nat → Nat} (hdj : Zdj ad) {z z1 : ZI} {x0 : Int} {x1 : Int} {r : Int} (hzz : Zok z) (hx0 : InR x0) (hx1 : InR x1) (hF : F_X10_isSetOf z x0 x1 = some (r, z1)) : YMi l D cA ad (0) yX10_isSetOf cX10_isSetOf 2 (some .boolean) [.int (i32 x0), .int (i32 x1)] z r z1 :=
  Zmet hdj (by decide) rfl (Nat.le_of_ble_eq_true rfl) (lv := [(0, .int (i32 (x0))), (1, .int (i32 (x1)))]) rfl (fun p e s m args below meth c ls S hr hlk hw hl => by
    have hR : 0 ≤ (Zrm (0)).frames ∧ 60 * (0) ≤ (Zrm (0)).locals := ⟨Nat.le_refl _, Nat.le_refl _⟩
    unfold F_X10_isSetOf at hF
    revert hR
    generalize Zrm (0) = R
    intro hR
    refine lv_iload_n S.1 S.2.1 dX10_isSetOf_0 rfl (lv_at hl 0 rfl) ?_
    refine Yif_lt (tgt := 15) S hx0 dX10_isSetOf_1 (by decide) (fun c1_ => ?_) (fun c1_ => ?_)
    · replace hF := ZtP c1_ hF
      exact w_X10_isSetOf_b15 S hr hlk hR hdj _ _ _ _ hF hw hzz  (lv_sub hl [] rfl)
    · replace hF := ZtN c1_ hF
      refine lv_iload_n S.1 S.2.1 dX10_isSetOf_4 rfl (lv_at hl 0 rfl) ?_
      refine lv_iconst (v := i32 1) S.1 S.2.1 dX10_isSetOf_5 ic_1 ?_
      refine lv_iload_n S.1 S.2.1 dX10_isSetOf_6 rfl (lv_at hl 1 rfl) ?_
      refine Yishl S dX10_isSetOf_7 ?_
      refine Yicmp_ge (tgt := 15) S hx0 (InR_of _) dX10_isSetOf_8 (by decide) (fun c2_ => ?_) (fun c2_ => ?_)
      · replace hF := ZtP c2_ hF
        exact w_X10_isSetOf_b15 S hr hlk hR hdj _ _ _ _ hF hw hzz  (lv_sub hl [] rfl)
      · replace hF := ZtN c2_ hF
        refine lv_iconst (v := i32 1) S.1 S.2.1 dX10_isSetOf_11 ic_1 ?_
        refine lv_goto (tgt := 16) S.1 S.2.1 dX10_isSetOf_12 (by decide) ?_
        exact w_X10_isSetOf_b16 S hr hlk hR hdj _ _ _ _ _ hF hw hzz r_1 (lv_sub hl [] rfl))
set_option maxRecDepth 100000 in
set_option maxHeartbeats 4000000 in
theorem w_X10_foul_b54 {RR : Int × ZI} (S : CallFix p m c cX10_foul 4 s args Ztbl RX10) (hr : meth.sig.returnType = some .int) (hlk : meth.locks = false) (hR : 5 ≤ R.frames ∧ 60 * (5) ≤ R.locals) (hdj : Zdj ad) : ∀ (z : ZI) (y0 : Int) (H : Heap) (locs : List Loc) (ls : Array Slot), X10_foul_b54 z y0 = some RR → ZW D cA ad (ZA ad) (Zc z) s H locs → Zok z → InR y0 → lv_has ls 4 [] → W p l e R s m args below meth c H locs 0 0 (MQ below (YQi D cA ad RR.1 RR.2) args s 0 0 (ZA ad)) (F0 m 54 ls [.int (i32 (y0))]) := by
  intro z y0 H locs ls hF hw hzz hy0 hl
  unfold X10_foul_b54 at hF
  exact Yireti S hw hzz hy0 hr hlk hF dX10_foul_54
set_option maxRecDepth 100000 in
set_option maxHeartbeats 4000000 in
theorem c_X10_foul {l : Launch} {D : va_G} {cA : Nat → ClassId} {ad : Nat → Nat} (hdj : Zdj ad) {z z1 : ZI} {x1 : Int} {x2 : Int} {r : Int} (hzz : Zok z) (hx1 : InR x1) (hx2 : InR x2) (hF : F_X10_foul z x1 x2 = some (r, z1)) : YMi l D cA ad (5) yX10_foul cX10_foul 4 (some .int) [.ref (ad 0), .int (i32 x1), .int (i32 x2)] z r z1 :=
  Zmet hdj (by decide) rfl (Nat.le_of_ble_eq_true rfl) (lv := [(0, .ref (ad 0)), (1, .int (i32 (x1))), (2, .int (i32 (x2)))]) rfl (fun p e s m args below meth c ls S hr hlk hw hl => by
    have hR : 5 ≤ (Zrm (5)).frames ∧ 60 * (5) ≤ (Zrm (5)).locals := ⟨Nat.le_refl _, Nat.le_refl _⟩
    unfold F_X10_foul at hF
    revert hR
    generalize Zrm (5) = R
    intro hR
    refine lv_iload_n S.1 S.2.1 dX10_foul_0 rfl (lv_at hl 1 rfl) ?_
    refine lv_iconst (v := i32 1) S.1 S.2.1 dX10_foul_1 ic_1 ?_
    refine lv_sipush (v := i32 999) S.1 S.2.1 dX10_foul_2 sp_999 ?_
    obtain ⟨r3_, z1_, h2_, hF⟩ := Ybs hF
    refine YcallSi (rest := []) S hw (c_X10_checkRange hdj hzz hx1 r_1 r_999 h2_) my_X10_checkRange ms_X10_checkRange ml_X10_85 (Zrr hR (by decide)) ⟨Nat.zero_le _, Nat.zero_le _⟩ hl.1 rfl rfl (Nat.le_of_ble_eq_true rfl) dX10_foul_5 (fun hrr3_ hzz1_ H locs hw => ?_)
    refine lv_istore_n (lv' := [(3, .int (i32 (r3_))), (0, .ref (ad 0)), (1, .int (i32 (x1))), (2, .int (i32 (x2)))]) S.1 S.2.1 dX10_foul_8 rfl hl (by decide) rfl (fun ls hl => ?_)
    refine lv_iload_n S.1 S.2.1 dX10_foul_9 rfl (lv_at hl 0 rfl) ?_
    refine Yif_eq (tgt := 19) S hrr3_ dX10_foul_10 (by decide) (fun c4_ => ?_) (fun c4_ => ?_)
    · replace hF := ZtP c4_ hF
      refine lv_iload_n S.1 S.2.1 dX10_foul_19 rfl (lv_at hl 3 rfl) ?_
      refine lv_aload_n S.1 S.2.1 dX10_foul_20 rfl (lv_at hl 1 rfl) ?_
      refine gf_X10_20 S hw dX10_foul_21 ?_
      refine gg_X10_249 S hw dX10_foul_24 ?_
      obtain ⟨r7_, z5_, h6_, hF⟩ := Ybs hF
      refine YcallSi (rest := []) S hw (c_X10_isSetOf hdj hzz1_ hx2 (hzz1_.1 2 4 (by decide)) h6_) my_X10_isSetOf ms_X10_isSetOf ml_X10_258 (Zrr hR (by decide)) ⟨Nat.zero_le _, Nat.zero_le _⟩ hl.1 rfl rfl (Nat.le_of_ble_eq_true rfl) dX10_foul_27 (fun hrr7_ hzz5_ H locs hw => ?_)
      refine Yif_eq (tgt := 49) S hrr7_ dX10_foul_30 (by decide) (fun c8_ => ?_) (fun c8_ => ?_)
      · replace hF := ZtP c8_ hF
        refine lv_aload_n S.1 S.2.1 dX10_foul_49 rfl (lv_at hl 1 rfl) ?_
        refine lv_iconst (v := i32 (-1)) S.1 S.2.1 dX10_foul_50 ic_m1 ?_
        obtain ⟨r11_, z9_, h10_, hF⟩ := Ybs hF
        refine YcallVi (rest := []) S hw (c_X10_refuse hdj hzz5_ r_m1 h10_) my_X10_refuse mi_X10_refuse ml_X10_81 zd_0 zc_X10 rfl (Zrr hR (by decide)) ⟨Nat.zero_le _, Nat.zero_le _⟩ hl.1 rfl rfl (Nat.le_of_ble_eq_true rfl) dX10_foul_51 (fun hrr11_ hzz9_ H locs hw => ?_)
        exact w_X10_foul_b54 S hr hlk hR hdj _ _ _ _ _ hF hw hzz9_ hrr11_ (lv_sub hl [] rfl)
      · replace hF := ZtN c8_ hF
        refine lv_aload_n S.1 S.2.1 dX10_foul_33 rfl (lv_at hl 1 rfl) ?_
        refine gf_X10_55 S hw dX10_foul_34 ?_
        refine lv_aload_n S.1 S.2.1 dX10_foul_37 rfl (lv_at hl 1 rfl) ?_
        refine gf_X10_20 S hw dX10_foul_38 ?_
        refine lv_iload_n S.1 S.2.1 dX10_foul_41 rfl (lv_at hl 2 rfl) ?_
        refine lv_iload_n S.1 S.2.1 dX10_foul_42 rfl (lv_at hl 3 rfl) ?_
        obtain ⟨r14_, z12_, h13_, hF⟩ := Ybs hF
        refine YcallVi (rest := []) S hw (c_X9_foulOnes hdj hzz5_ hx1 hx2 h13_) my_X9_foulOnes mi_X9_foulOnes ml_X10_261 zd_41 zc_X9 rfl (Zrr hR (by decide)) ⟨Nat.zero_le _, Nat.zero_le _⟩ hl.1 rfl rfl (Nat.le_of_ble_eq_true rfl) dX10_foul_43 (fun hrr14_ hzz12_ H locs hw => ?_)
        refine lv_goto (tgt := 54) S.1 S.2.1 dX10_foul_46 (by decide) ?_
        exact w_X10_foul_b54 S hr hlk hR hdj _ _ _ _ _ hF hw hzz12_ hrr14_ (lv_sub hl [] rfl)
    · replace hF := ZtN c4_ hF
      refine lv_aload_n S.1 S.2.1 dX10_foul_13 rfl (lv_at hl 1 rfl) ?_
      refine lv_iload_n S.1 S.2.1 dX10_foul_14 rfl (lv_at hl 0 rfl) ?_
      obtain ⟨r17_, z15_, h16_, hF⟩ := Ybs hF
      refine YcallVi (rest := []) S hw (c_X10_refuse hdj hzz1_ hrr3_ h16_) my_X10_refuse mi_X10_refuse ml_X10_81 zd_0 zc_X10 rfl (Zrr hR (by decide)) ⟨Nat.zero_le _, Nat.zero_le _⟩ hl.1 rfl rfl (Nat.le_of_ble_eq_true rfl) dX10_foul_15 (fun hrr17_ hzz15_ H locs hw => ?_)
      exact Yireti S hw hzz15_ hrr17_ hr hlk hF dX10_foul_18)
set_option maxRecDepth 100000 in
set_option maxHeartbeats 4000000 in
theorem w_X3_hasPerson_b17 {RR : Int × ZI} (S : CallFix p m c cX3_hasPerson 2 s args Ztbl RX3) (hr : meth.sig.returnType = some .boolean) (hlk : meth.locks = false) (hR : 0 ≤ R.frames ∧ 60 * (0) ≤ R.locals) (hdj : Zdj ad) : ∀ (z : ZI) (y0 : Int) (H : Heap) (locs : List Loc) (ls : Array Slot), X3_hasPerson_b17 z y0 = some RR → ZW D cA ad (ZA ad) (Zc z) s H locs → Zok z → InR y0 → lv_has ls 2 [] → W p l e R s m args below meth c H locs 0 0 (MQ below (YQi D cA ad RR.1 RR.2) args s 0 0 (ZA ad)) (F0 m 17 ls [.int (i32 (y0))]) := by
  intro z y0 H locs ls hF hw hzz hy0 hl
  unfold X3_hasPerson_b17 at hF
  obtain ⟨b1_, hF⟩ := Zgs hF
  exact Yiretz S hw hzz hy0 hr hlk b1_ hF dX3_hasPerson_17
set_option maxRecDepth 100000 in
set_option maxHeartbeats 4000000 in
theorem w_X3_hasPerson_b16 {RR : Int × ZI} (S : CallFix p m c cX3_hasPerson 2 s args Ztbl RX3) (hr : meth.sig.returnType = some .boolean) (hlk : meth.locks = false) (hR : 0 ≤ R.frames ∧ 60 * (0) ≤ R.locals) (hdj : Zdj ad) : ∀ (z : ZI) (H : Heap) (locs : List Loc) (ls : Array Slot), X3_hasPerson_b16 z  = some RR → ZW D cA ad (ZA ad) (Zc z) s H locs → Zok z → lv_has ls 2 [] → W p l e R s m args below meth c H locs 0 0 (MQ below (YQi D cA ad RR.1 RR.2) args s 0 0 (ZA ad)) (F0 m 16 ls []) := by
  intro z  H locs ls hF hw hzz  hl
  unfold X3_hasPerson_b16 at hF
  refine lv_iconst (v := i32 0) S.1 S.2.1 dX3_hasPerson_16 ic_0 ?_
  exact w_X3_hasPerson_b17 S hr hlk hR hdj _ _ _ _ _ hF hw hzz r_0 (lv_sub hl [] rfl)
set_option maxRecDepth 100000 in
set_option maxHeartbeats 4000000 in
theorem c_X3_hasPerson {l : Launch} {D : va_G} {cA : Nat → ClassId} {ad : Nat → Nat} (hdj : Zdj ad) {z z1 : ZI} {x1 : Int} {r : Int} (hzz : Zok z) (hx1 : InR x1) (hF : F_X3_hasPerson z x1 = some (r, z1)) : YMi l D cA ad (0) yX3_hasPerson cX3_hasPerson 2 (some .boolean) [.ref (ad 11), .int (i32 x1)] z r z1 :=
  Zmet hdj (by decide) rfl (Nat.le_of_ble_eq_true rfl) (lv := [(0, .ref (ad 11)), (1, .int (i32 (x1)))]) rfl (fun p e s m args below meth c ls S hr hlk hw hl => by
    have hR : 0 ≤ (Zrm (0)).frames ∧ 60 * (0) ≤ (Zrm (0)).locals := ⟨Nat.le_refl _, Nat.le_refl _⟩
    unfold F_X3_hasPerson at hF
    revert hR
    generalize Zrm (0) = R
    intro hR
    refine lv_iload_n S.1 S.2.1 dX3_hasPerson_0 rfl (lv_at hl 1 rfl) ?_
    refine Yif_lt (tgt := 16) S hx1 dX3_hasPerson_1 (by decide) (fun c1_ => ?_) (fun c1_ => ?_)
    · replace hF := ZtP c1_ hF
      exact w_X3_hasPerson_b16 S hr hlk hR hdj _ _ _ _ hF hw hzz  (lv_sub hl [] rfl)
    · replace hF := ZtN c1_ hF
      refine lv_iload_n S.1 S.2.1 dX3_hasPerson_4 rfl (lv_at hl 1 rfl) ?_
      refine lv_aload_n S.1 S.2.1 dX3_hasPerson_5 rfl (lv_at hl 0 rfl) ?_
      refine gg_X3_59 S hw dX3_hasPerson_6 ?_
      refine Yicmp_ge (tgt := 16) S hx1 (hzz.1 11 4 (by decide)) dX3_hasPerson_9 (by decide) (fun c2_ => ?_) (fun c2_ => ?_)
      · replace hF := ZtP c2_ hF
        exact w_X3_hasPerson_b16 S hr hlk hR hdj _ _ _ _ hF hw hzz  (lv_sub hl [] rfl)
      · replace hF := ZtN c2_ hF
        refine lv_iconst (v := i32 1) S.1 S.2.1 dX3_hasPerson_12 ic_1 ?_
        refine lv_goto (tgt := 17) S.1 S.2.1 dX3_hasPerson_13 (by decide) ?_
        exact w_X3_hasPerson_b17 S hr hlk hR hdj _ _ _ _ _ hF hw hzz r_1 (lv_sub hl [] rfl))
set_option maxRecDepth 100000 in
set_option maxHeartbeats 4000000 in
theorem c_X3_tell {l : Launch} {D : va_G} {cA : Nat → ClassId} {ad : Nat → Nat} (hdj : Zdj ad) {z z1 : ZI} {x1 : Int} {x2 : Int} {x3 : Int} {r : Int} (hzz : Zok z) (hx1 : InR x1) (hx2 : InR x2) (hx3 : InR x3) (hF : F_X3_tell z x1 x2 x3 = some (r, z1)) : YMi l D cA ad (0) yX3_tell cX3_tell 4 (some .int) [.ref (ad 11), .int (i32 x1), .int (i32 x2), .int (i32 x3)] z r z1 :=
  Zmet hdj (by decide) rfl (Nat.le_of_ble_eq_true rfl) (lv := [(0, .ref (ad 11)), (1, .int (i32 (x1))), (2, .int (i32 (x2))), (3, .int (i32 (x3)))]) rfl (fun p e s m args below meth c ls S hr hlk hw hl => by
    have hR : 0 ≤ (Zrm (0)).frames ∧ 60 * (0) ≤ (Zrm (0)).locals := ⟨Nat.le_refl _, Nat.le_refl _⟩
    unfold F_X3_tell at hF
    revert hR
    generalize Zrm (0) = R
    intro hR
    refine lv_aload_n S.1 S.2.1 dX3_tell_0 rfl (lv_at hl 0 rfl) ?_
    refine gf_X3_42 S hw dX3_tell_1 ?_
    refine lv_aload_n S.1 S.2.1 dX3_tell_4 rfl (lv_at hl 0 rfl) ?_
    refine gg_X3_62 S hw dX3_tell_5 ?_
    refine lv_iload_n S.1 S.2.1 dX3_tell_8 rfl (lv_at hl 3 rfl) ?_
    obtain ⟨b1_, hF⟩ := Zgs hF
    refine Yiast S hw hzz zd_20 (by decide) (hzz.1 11 10 (by decide)) hx3 b1_ dX3_tell_9 (fun z2_ H locs ez hzz2_ hw => ?_)
    replace hF := Zle ez hF; clear ez
    refine lv_aload_n S.1 S.2.1 dX3_tell_10 rfl (lv_at hl 0 rfl) ?_
    refine gf_X3_45 S hw dX3_tell_11 ?_
    refine lv_aload_n S.1 S.2.1 dX3_tell_14 rfl (lv_at hl 0 rfl) ?_
    refine gg_X3_62 S hw dX3_tell_15 ?_
    refine lv_iload_n S.1 S.2.1 dX3_tell_18 rfl (lv_at hl 2 rfl) ?_
    obtain ⟨b3_, hF⟩ := Zgs hF
    refine Yiast S hw hzz2_ zd_21 (by decide) (hzz2_.1 11 10 (by decide)) hx2 b3_ dX3_tell_19 (fun z4_ H locs ez hzz4_ hw => ?_)
    replace hF := Zle ez hF; clear ez
    refine lv_aload_n S.1 S.2.1 dX3_tell_20 rfl (lv_at hl 0 rfl) ?_
    refine gf_X3_48 S hw dX3_tell_21 ?_
    refine lv_aload_n S.1 S.2.1 dX3_tell_24 rfl (lv_at hl 0 rfl) ?_
    refine gg_X3_62 S hw dX3_tell_25 ?_
    refine lv_aload_n S.1 S.2.1 dX3_tell_28 rfl (lv_at hl 0 rfl) ?_
    refine gf_X3_39 S hw dX3_tell_29 ?_
    refine lv_iload_n S.1 S.2.1 dX3_tell_32 rfl (lv_at hl 1 rfl) ?_
    obtain ⟨b5_, hF⟩ := Zgs hF
    refine Yiald S hw zd_19 (by decide) hx1 b5_ dX3_tell_33 ?_
    obtain ⟨b6_, hF⟩ := Zgs hF
    refine Yiast S hw hzz4_ zd_22 (by decide) (hzz4_.1 11 10 (by decide)) (hzz4_.1 _ _ (by decide)) b6_ dX3_tell_34 (fun z7_ H locs ez hzz7_ hw => ?_)
    replace hF := Zle ez hF; clear ez
    refine lv_aload_n S.1 S.2.1 dX3_tell_35 rfl (lv_at hl 0 rfl) ?_
    refine gf_X3_39 S hw dX3_tell_36 ?_
    refine lv_iload_n S.1 S.2.1 dX3_tell_39 rfl (lv_at hl 1 rfl) ?_
    refine lv_aload_n S.1 S.2.1 dX3_tell_40 rfl (lv_at hl 0 rfl) ?_
    refine gg_X3_62 S hw dX3_tell_41 ?_
    obtain ⟨b8_, hF⟩ := Zgs hF
    refine Yiast S hw hzz7_ zd_19 (by decide) hx1 (hzz7_.1 11 10 (by decide)) b8_ dX3_tell_44 (fun z9_ H locs ez hzz9_ hw => ?_)
    replace hF := Zle ez hF; clear ez
    refine lv_aload_n S.1 S.2.1 dX3_tell_45 rfl (lv_at hl 0 rfl) ?_
    refine lv_dup S.1 S.2.1 dX3_tell_46 rfl ?_
    refine gg_X3_62 S hw dX3_tell_47 ?_
    refine lv_iconst (v := i32 1) S.1 S.2.1 dX3_tell_50 ic_1 ?_
    obtain ⟨g10_, hF⟩ := Zgs hF
    refine Yiadd S dX3_tell_51 ?_
    refine pp_X3_62 S hw hzz9_ g10_ dX3_tell_52 (fun z11_ H locs ez hzz11_ hw => ?_)
    replace hF := Zle ez hF; clear ez
    refine lv_aload_n S.1 S.2.1 dX3_tell_55 rfl (lv_at hl 0 rfl) ?_
    refine gg_X3_62 S hw dX3_tell_56 ?_
    exact Yireti S hw hzz11_ (hzz11_.1 11 10 (by decide)) hr hlk hF dX3_tell_59)
set_option maxRecDepth 100000 in
set_option maxHeartbeats 4000000 in
theorem w_X5_placeOf_L2 {RR : Int × ZI} (S : CallFix p m c cX5_placeOf 3 s args Ztbl RX5) (hr : meth.sig.returnType = some .int) (hlk : meth.locks = false) (hR : 0 ≤ R.frames ∧ 60 * (0) ≤ R.locals) (hdj : Zdj ad) : ∀ (n : Nat) (z : ZI) (x1 : Int) (x2 : Int) (H : Heap) (locs : List Loc) (ls : Array Slot), X5_placeOf_L2 n z x1 x2 = some RR → ZW D cA ad (ZA ad) (Zc z) s H locs → Zok z → InR x1 → InR x2 → lv_has ls 3 [(0, .ref (ad 59)), (1, .int (i32 (x1))), (2, .int (i32 (x2)))] → W p l e R s m args below meth c H locs 0 0 (MQ below (YQi D cA ad RR.1 RR.2) args s 0 0 (ZA ad)) (F0 m 2 ls []) := by
  intro n
  induction n with
  | zero => intro z x1 x2 H locs ls hF; exact nomatch hF
  | succ n hk2 =>
    intro z x1 x2 H locs ls hF hw hzz hx1 hx2 hl
    replace hF : X5_placeOf_L2b (X5_placeOf_L2 n) z x1 x2 = some RR := hF
    unfold X5_placeOf_L2b at hF
    refine lv_iload_n S.1 S.2.1 dX5_placeOf_2 rfl (lv_at hl 2 rfl) ?_
    refine lv_aload_n S.1 S.2.1 dX5_placeOf_3 rfl (lv_at hl 0 rfl) ?_
    refine gg_X5_21 S hw dX5_placeOf_4 ?_
    refine Yicmp_ge (tgt := 28) S hx2 (hzz.1 59 0 (by decide)) dX5_placeOf_7 (by decide) (fun c1_ => ?_) (fun c1_ => ?_)
    · replace hF := ZtP c1_ hF
      refine lv_bipush (v := i32 (-9)) S.1 S.2.1 dX5_placeOf_28 bp_m9 ?_
      exact Yireti S hw hzz r_m9 hr hlk hF dX5_placeOf_30
    · replace hF := ZtN c1_ hF
      refine lv_aload_n S.1 S.2.1 dX5_placeOf_10 rfl (lv_at hl 0 rfl) ?_
      refine gf_X5_9 S hw dX5_placeOf_11 ?_
      refine lv_iload_n S.1 S.2.1 dX5_placeOf_14 rfl (lv_at hl 2 rfl) ?_
      obtain ⟨b2_, hF⟩ := Zgs hF
      refine Yiald S hw zd_60 (by decide) hx2 b2_ dX5_placeOf_15 ?_
      refine lv_iload_n S.1 S.2.1 dX5_placeOf_16 rfl (lv_at hl 1 rfl) ?_
      refine Yicmp_ne (tgt := 22) S (hzz.1 _ _ (by decide)) hx1 dX5_placeOf_17 (by decide) (fun c3_ => ?_) (fun c3_ => ?_)
      · replace hF := ZtN c3_ hF
        obtain ⟨g4_, hF⟩ := Zgs hF
        refine lv_iinc (v := i32 (x2 + 1)) (lv' := [(2, .int (i32 (x2 + 1))), (0, .ref (ad 59)), (1, .int (i32 (x1)))]) S.1 S.2.1 dX5_placeOf_22 hl (k := 2) rfl Yiinc (by decide) rfl (fun ls hl => ?_)
        refine lv_goto (tgt := 2) S.1 S.2.1 dX5_placeOf_25 (by decide) ?_
        exact hk2 _ _ _ _ _ _ hF hw hzz hx1 g4_ (lv_sub hl [1, 2, 0] rfl)
      · replace hF := ZtP c3_ hF
        refine lv_iload_n S.1 S.2.1 dX5_placeOf_20 rfl (lv_at hl 2 rfl) ?_
        exact Yireti S hw hzz hx2 hr hlk hF dX5_placeOf_21
set_option maxRecDepth 100000 in
set_option maxHeartbeats 4000000 in
theorem c_X5_placeOf {l : Launch} {D : va_G} {cA : Nat → ClassId} {ad : Nat → Nat} (hdj : Zdj ad) {z z1 : ZI} {x1 : Int} {r : Int} (hzz : Zok z) (hx1 : InR x1) (hF : F_X5_placeOf z x1 = some (r, z1)) : YMi l D cA ad (0) yX5_placeOf cX5_placeOf 3 (some .int) [.ref (ad 59), .int (i32 x1)] z r z1 :=
  Zmet hdj (by decide) rfl (Nat.le_of_ble_eq_true rfl) (lv := [(0, .ref (ad 59)), (1, .int (i32 (x1)))]) rfl (fun p e s m args below meth c ls S hr hlk hw hl => by
    have hR : 0 ≤ (Zrm (0)).frames ∧ 60 * (0) ≤ (Zrm (0)).locals := ⟨Nat.le_refl _, Nat.le_refl _⟩
    unfold F_X5_placeOf at hF
    revert hR
    generalize Zrm (0) = R
    intro hR
    refine lv_iconst (v := i32 0) S.1 S.2.1 dX5_placeOf_0 ic_0 ?_
    refine lv_istore_n (lv' := [(2, .int (i32 (0))), (0, .ref (ad 59)), (1, .int (i32 (x1)))]) S.1 S.2.1 dX5_placeOf_1 rfl hl (by decide) rfl (fun ls hl => ?_)
    exact w_X5_placeOf_L2 S hr hlk hR hdj Zfuel _ _ _ _ _ _ hF hw hzz hx1 r_0 (lv_sub hl [1, 2, 0] rfl))
set_option maxRecDepth 100000 in
set_option maxHeartbeats 4000000 in
theorem w_X5_quit_b45 {RR : Unit × ZI} (S : CallFix p m c cX5_quit 4 s args Ztbl RX5) (hr : meth.sig.returnType = none) (hlk : meth.locks = false) (hR : 1 ≤ R.frames ∧ 60 * (1) ≤ R.locals) (hdj : Zdj ad) : ∀ (z : ZI) (H : Heap) (locs : List Loc) (ls : Array Slot), X5_quit_b45 z  = some RR → ZW D cA ad (ZA ad) (Zc z) s H locs → Zok z → lv_has ls 4 [(0, .ref (ad 59))] → W p l e R s m args below meth c H locs 0 0 (MQ below (YQv D cA ad RR.2) args s 0 0 (ZA ad)) (F0 m 45 ls []) := by
  intro z  H locs ls hF hw hzz  hl
  unfold X5_quit_b45 at hF
  refine lv_aload_n S.1 S.2.1 dX5_quit_45 rfl (lv_at hl 0 rfl) ?_
  refine lv_dup S.1 S.2.1 dX5_quit_46 rfl ?_
  refine gg_X5_21 S hw dX5_quit_47 ?_
  refine lv_iconst (v := i32 1) S.1 S.2.1 dX5_quit_50 ic_1 ?_
  obtain ⟨g1_, hF⟩ := Zgs hF
  refine Yisub S dX5_quit_51 ?_
  refine pp_X5_21 S hw hzz g1_ dX5_quit_52 (fun z2_ H locs ez hzz2_ hw => ?_)
  replace hF := Zle ez hF; clear ez
  exact Yvret S hw hzz2_ hr hlk hF dX5_quit_55
set_option maxRecDepth 100000 in
set_option maxHeartbeats 4000000 in
theorem w_X5_quit_L15 {RR : Unit × ZI} (S : CallFix p m c cX5_quit 4 s args Ztbl RX5) (hr : meth.sig.returnType = none) (hlk : meth.locks = false) (hR : 1 ≤ R.frames ∧ 60 * (1) ≤ R.locals) (hdj : Zdj ad) : ∀ (n : Nat) (z : ZI) (x3 : Int) (H : Heap) (locs : List Loc) (ls : Array Slot), X5_quit_L15 n z x3 = some RR → ZW D cA ad (ZA ad) (Zc z) s H locs → Zok z → InR x3 → lv_has ls 4 [(0, .ref (ad 59)), (3, .int (i32 (x3)))] → W p l e R s m args below meth c H locs 0 0 (MQ below (YQv D cA ad RR.2) args s 0 0 (ZA ad)) (F0 m 15 ls []) := by
  intro n
  induction n with
  | zero => intro z x3 H locs ls hF; exact nomatch hF
  | succ n hk15 =>
    intro z x3 H locs ls hF hw hzz hx3 hl
    replace hF : X5_quit_L15b (X5_quit_L15 n) z x3 = some RR := hF
    unfold X5_quit_L15b at hF
    refine lv_iload_n S.1 S.2.1 dX5_quit_15 rfl (lv_at hl 1 rfl) ?_
    refine lv_aload_n S.1 S.2.1 dX5_quit_16 rfl (lv_at hl 0 rfl) ?_
    refine gg_X5_21 S hw dX5_quit_17 ?_
    refine lv_iconst (v := i32 1) S.1 S.2.1 dX5_quit_20 ic_1 ?_
    obtain ⟨g1_, hF⟩ := Zgs hF
    refine Yisub S dX5_quit_21 ?_
    refine Yicmp_ge (tgt := 45) S hx3 g1_ dX5_quit_22 (by decide) (fun c2_ => ?_) (fun c2_ => ?_)
    · replace hF := ZtP c2_ hF
      exact w_X5_quit_b45 S hr hlk hR hdj _ _ _ _ hF hw hzz  (lv_sub hl [0] rfl)
    · replace hF := ZtN c2_ hF
      refine lv_aload_n S.1 S.2.1 dX5_quit_25 rfl (lv_at hl 0 rfl) ?_
      refine gf_X5_9 S hw dX5_quit_26 ?_
      refine lv_iload_n S.1 S.2.1 dX5_quit_29 rfl (lv_at hl 1 rfl) ?_
      refine lv_aload_n S.1 S.2.1 dX5_quit_30 rfl (lv_at hl 0 rfl) ?_
      refine gf_X5_9 S hw dX5_quit_31 ?_
      refine lv_iload_n S.1 S.2.1 dX5_quit_34 rfl (lv_at hl 1 rfl) ?_
      refine lv_iconst (v := i32 1) S.1 S.2.1 dX5_quit_35 ic_1 ?_
      obtain ⟨g3_, hF⟩ := Zgs hF
      refine Yiadd S dX5_quit_36 ?_
      obtain ⟨b4_, hF⟩ := Zgs hF
      refine Yiald S hw zd_60 (by decide) g3_ b4_ dX5_quit_37 ?_
      obtain ⟨b5_, hF⟩ := Zgs hF
      refine Yiast S hw hzz zd_60 (by decide) hx3 (hzz.1 _ _ (by decide)) b5_ dX5_quit_38 (fun z6_ H locs ez hzz6_ hw => ?_)
      replace hF := Zle ez hF; clear ez
      obtain ⟨g7_, hF⟩ := Zgs hF
      refine lv_iinc (v := i32 (x3 + 1)) (lv' := [(3, .int (i32 (x3 + 1))), (0, .ref (ad 59))]) S.1 S.2.1 dX5_quit_39 hl (k := 1) rfl Yiinc (by decide) rfl (fun ls hl => ?_)
      refine lv_goto (tgt := 15) S.1 S.2.1 dX5_quit_42 (by decide) ?_
      exact hk15 _ _ _ _ _ hF hw hzz6_ g7_ (lv_sub hl [1, 0] rfl)
set_option maxRecDepth 100000 in
set_option maxHeartbeats 4000000 in
theorem c_X5_quit {l : Launch} {D : va_G} {cA : Nat → ClassId} {ad : Nat → Nat} (hdj : Zdj ad) {z z1 : ZI} {x1 : Int} (hzz : Zok z) (hx1 : InR x1) (hF : F_X5_quit z x1 = some ((), z1)) : YMv l D cA ad (1) yX5_quit cX5_quit 4 [.ref (ad 59), .int (i32 x1)] z z1 :=
  Zmet hdj (by decide) rfl (Nat.le_of_ble_eq_true rfl) (lv := [(0, .ref (ad 59)), (1, .int (i32 (x1)))]) rfl (fun p e s m args below meth c ls S hr hlk hw hl => by
    have hR : 1 ≤ (Zrm (1)).frames ∧ 60 * (1) ≤ (Zrm (1)).locals := ⟨Nat.le_refl _, Nat.le_refl _⟩
    unfold F_X5_quit at hF
    revert hR
    generalize Zrm (1) = R
    intro hR
    refine lv_aload_n S.1 S.2.1 dX5_quit_0 rfl (lv_at hl 0 rfl) ?_
    refine lv_iload_n S.1 S.2.1 dX5_quit_1 rfl (lv_at hl 1 rfl) ?_
    obtain ⟨r3_, z1_, h2_, hF⟩ := Ybs hF
    refine YcallVi (rest := []) S hw (c_X5_placeOf hdj hzz hx1 h2_) my_X5_placeOf mi_X5_placeOf ml_X5_25 zd_59 zc_X5 rfl (Zrr hR (by decide)) ⟨Nat.zero_le _, Nat.zero_le _⟩ hl.1 rfl rfl (Nat.le_of_ble_eq_true rfl) dX5_quit_2 (fun hrr3_ hzz1_ H locs hw => ?_)
    refine lv_istore_n (lv' := [(2, .int (i32 (r3_))), (0, .ref (ad 59)), (1, .int (i32 (x1)))]) S.1 S.2.1 dX5_quit_5 rfl hl (by decide) rfl (fun ls hl => ?_)
    refine lv_iload_n S.1 S.2.1 dX5_quit_6 rfl (lv_at hl 0 rfl) ?_
    refine lv_bipush (v := i32 (-9)) S.1 S.2.1 dX5_quit_7 bp_m9 ?_
    refine Yicmp_ne (tgt := 13) S hrr3_ r_m9 dX5_quit_9 (by decide) (fun c4_ => ?_) (fun c4_ => ?_)
    · replace hF := ZtN c4_ hF
      refine lv_iload_n S.1 S.2.1 dX5_quit_13 rfl (lv_at hl 0 rfl) ?_
      refine lv_istore_n (lv' := [(3, .int (i32 (r3_))), (2, .int (i32 (r3_))), (0, .ref (ad 59)), (1, .int (i32 (x1)))]) S.1 S.2.1 dX5_quit_14 rfl hl (by decide) rfl (fun ls hl => ?_)
      exact w_X5_quit_L15 S hr hlk hR hdj Zfuel _ _ _ _ _ hF hw hzz1_ hrr3_ (lv_sub hl [2, 0] rfl)
    · replace hF := ZtP c4_ hF
      exact Yvret S hw hzz1_ hr hlk hF dX5_quit_12)
set_option maxRecDepth 100000 in
set_option maxHeartbeats 4000000 in
theorem w_X5_place_b55 {RR : Unit × ZI} (S : CallFix p m c cX5_place 4 s args Ztbl RX5) (hr : meth.sig.returnType = none) (hlk : meth.locks = false) (hR : 0 ≤ R.frames ∧ 60 * (0) ≤ R.locals) (hdj : Zdj ad) : ∀ (z : ZI) (x1 : Int) (x2 : Int) (x3 : Int) (H : Heap) (locs : List Loc) (ls : Array Slot), X5_place_b55 z x1 x2 x3 = some RR → ZW D cA ad (ZA ad) (Zc z) s H locs → Zok z → InR x1 → InR x2 → InR x3 → lv_has ls 4 [(0, .ref (ad 59)), (1, .int (i32 (x1))), (2, .int (i32 (x2))), (3, .int (i32 (x3)))] → W p l e R s m args below meth c H locs 0 0 (MQ below (YQv D cA ad RR.2) args s 0 0 (ZA ad)) (F0 m 55 ls []) := by
  intro z x1 x2 x3 H locs ls hF hw hzz hx1 hx2 hx3 hl
  unfold X5_place_b55 at hF
  refine lv_aload_n S.1 S.2.1 dX5_place_55 rfl (lv_at hl 0 rfl) ?_
  refine gf_X5_15 S hw dX5_place_56 ?_
  refine lv_iload_n S.1 S.2.1 dX5_place_59 rfl (lv_at hl 3 rfl) ?_
  refine lv_iload_n S.1 S.2.1 dX5_place_60 rfl (lv_at hl 1 rfl) ?_
  obtain ⟨b1_, hF⟩ := Zgs hF
  refine Yiast S hw hzz zd_61 (by decide) hx3 hx1 b1_ dX5_place_61 (fun z2_ H locs ez hzz2_ hw => ?_)
  replace hF := Zle ez hF; clear ez
  refine lv_aload_n S.1 S.2.1 dX5_place_62 rfl (lv_at hl 0 rfl) ?_
  refine gf_X5_18 S hw dX5_place_63 ?_
  refine lv_iload_n S.1 S.2.1 dX5_place_66 rfl (lv_at hl 3 rfl) ?_
  refine lv_iload_n S.1 S.2.1 dX5_place_67 rfl (lv_at hl 2 rfl) ?_
  obtain ⟨b3_, hF⟩ := Zgs hF
  refine Yiast S hw hzz2_ zd_62 (by decide) hx3 hx2 b3_ dX5_place_68 (fun z4_ H locs ez hzz4_ hw => ?_)
  replace hF := Zle ez hF; clear ez
  refine lv_aload_n S.1 S.2.1 dX5_place_69 rfl (lv_at hl 0 rfl) ?_
  refine lv_dup S.1 S.2.1 dX5_place_70 rfl ?_
  refine gg_X5_29 S hw dX5_place_71 ?_
  refine lv_iconst (v := i32 1) S.1 S.2.1 dX5_place_74 ic_1 ?_
  obtain ⟨g5_, hF⟩ := Zgs hF
  refine Yiadd S dX5_place_75 ?_
  refine pp_X5_29 S hw hzz4_ g5_ dX5_place_76 (fun z6_ H locs ez hzz6_ hw => ?_)
  replace hF := Zle ez hF; clear ez
  exact Yvret S hw hzz6_ hr hlk hF dX5_place_79
set_option maxRecDepth 100000 in
set_option maxHeartbeats 4000000 in
theorem w_X5_place_L5 {RR : Unit × ZI} (S : CallFix p m c cX5_place 4 s args Ztbl RX5) (hr : meth.sig.returnType = none) (hlk : meth.locks = false) (hR : 0 ≤ R.frames ∧ 60 * (0) ≤ R.locals) (hdj : Zdj ad) : ∀ (n : Nat) (z : ZI) (x1 : Int) (x2 : Int) (x3 : Int) (H : Heap) (locs : List Loc) (ls : Array Slot), X5_place_L5 n z x1 x2 x3 = some RR → ZW D cA ad (ZA ad) (Zc z) s H locs → Zok z → InR x1 → InR x2 → InR x3 → lv_has ls 4 [(0, .ref (ad 59)), (1, .int (i32 (x1))), (2, .int (i32 (x2))), (3, .int (i32 (x3)))] → W p l e R s m args below meth c H locs 0 0 (MQ below (YQv D cA ad RR.2) args s 0 0 (ZA ad)) (F0 m 5 ls []) := by
  intro n
  induction n with
  | zero => intro z x1 x2 x3 H locs ls hF; exact nomatch hF
  | succ n hk5 =>
    intro z x1 x2 x3 H locs ls hF hw hzz hx1 hx2 hx3 hl
    replace hF : X5_place_L5b (X5_place_L5 n) z x1 x2 x3 = some RR := hF
    unfold X5_place_L5b at hF
    refine lv_iload_n S.1 S.2.1 dX5_place_5 rfl (lv_at hl 3 rfl) ?_
    refine Yif_le (tgt := 55) S hx3 dX5_place_6 (by decide) (fun c1_ => ?_) (fun c1_ => ?_)
    · replace hF := ZtP c1_ hF
      exact w_X5_place_b55 S hr hlk hR hdj _ _ _ _ _ _ _ hF hw hzz hx1 hx2 hx3 (lv_sub hl [0, 1, 2, 3] rfl)
    · replace hF := ZtN c1_ hF
      refine lv_aload_n S.1 S.2.1 dX5_place_9 rfl (lv_at hl 0 rfl) ?_
      refine gf_X5_18 S hw dX5_place_10 ?_
      refine lv_iload_n S.1 S.2.1 dX5_place_13 rfl (lv_at hl 3 rfl) ?_
      refine lv_iconst (v := i32 1) S.1 S.2.1 dX5_place_14 ic_1 ?_
      obtain ⟨g2_, hF⟩ := Zgs hF
      refine Yisub S dX5_place_15 ?_
      obtain ⟨b3_, hF⟩ := Zgs hF
      refine Yiald S hw zd_62 (by decide) g2_ b3_ dX5_place_16 ?_
      refine lv_iload_n S.1 S.2.1 dX5_place_17 rfl (lv_at hl 2 rfl) ?_
      refine Yicmp_ge (tgt := 55) S (hzz.1 _ _ (by decide)) hx2 dX5_place_18 (by decide) (fun c4_ => ?_) (fun c4_ => ?_)
      · replace hF := ZtP c4_ hF
        exact w_X5_place_b55 S hr hlk hR hdj _ _ _ _ _ _ _ hF hw hzz hx1 hx2 hx3 (lv_sub hl [0, 1, 2, 3] rfl)
      · replace hF := ZtN c4_ hF
        refine lv_aload_n S.1 S.2.1 dX5_place_21 rfl (lv_at hl 0 rfl) ?_
        refine gf_X5_15 S hw dX5_place_22 ?_
        refine lv_iload_n S.1 S.2.1 dX5_place_25 rfl (lv_at hl 3 rfl) ?_
        refine lv_aload_n S.1 S.2.1 dX5_place_26 rfl (lv_at hl 0 rfl) ?_
        refine gf_X5_15 S hw dX5_place_27 ?_
        refine lv_iload_n S.1 S.2.1 dX5_place_30 rfl (lv_at hl 3 rfl) ?_
        refine lv_iconst (v := i32 1) S.1 S.2.1 dX5_place_31 ic_1 ?_
        obtain ⟨g5_, hF⟩ := Zgs hF
        refine Yisub S dX5_place_32 ?_
        obtain ⟨b6_, hF⟩ := Zgs hF
        refine Yiald S hw zd_61 (by decide) g5_ b6_ dX5_place_33 ?_
        obtain ⟨b7_, hF⟩ := Zgs hF
        refine Yiast S hw hzz zd_61 (by decide) hx3 (hzz.1 _ _ (by decide)) b7_ dX5_place_34 (fun z8_ H locs ez hzz8_ hw => ?_)
        replace hF := Zle ez hF; clear ez
        refine lv_aload_n S.1 S.2.1 dX5_place_35 rfl (lv_at hl 0 rfl) ?_
        refine gf_X5_18 S hw dX5_place_36 ?_
        refine lv_iload_n S.1 S.2.1 dX5_place_39 rfl (lv_at hl 3 rfl) ?_
        refine lv_aload_n S.1 S.2.1 dX5_place_40 rfl (lv_at hl 0 rfl) ?_
        refine gf_X5_18 S hw dX5_place_41 ?_
        refine lv_iload_n S.1 S.2.1 dX5_place_44 rfl (lv_at hl 3 rfl) ?_
        refine lv_iconst (v := i32 1) S.1 S.2.1 dX5_place_45 ic_1 ?_
        obtain ⟨g9_, hF⟩ := Zgs hF
        refine Yisub S dX5_place_46 ?_
        obtain ⟨b10_, hF⟩ := Zgs hF
        refine Yiald S hw zd_62 (by decide) g9_ b10_ dX5_place_47 ?_
        obtain ⟨b11_, hF⟩ := Zgs hF
        refine Yiast S hw hzz8_ zd_62 (by decide) hx3 (hzz8_.1 _ _ (by decide)) b11_ dX5_place_48 (fun z12_ H locs ez hzz12_ hw => ?_)
        replace hF := Zle ez hF; clear ez
        obtain ⟨g13_, hF⟩ := Zgs hF
        refine lv_iinc (v := i32 (x3 + (-1))) (lv' := [(3, .int (i32 (x3 + (-1)))), (0, .ref (ad 59)), (1, .int (i32 (x1))), (2, .int (i32 (x2)))]) S.1 S.2.1 dX5_place_49 hl (k := 3) rfl Yiinc (by decide) rfl (fun ls hl => ?_)
        refine lv_goto (tgt := 5) S.1 S.2.1 dX5_place_52 (by decide) ?_
        exact hk5 _ _ _ _ _ _ _ hF hw hzz12_ hx1 hx2 g13_ (lv_sub hl [1, 2, 3, 0] rfl)
set_option maxRecDepth 100000 in
set_option maxHeartbeats 4000000 in
theorem c_X5_place {l : Launch} {D : va_G} {cA : Nat → ClassId} {ad : Nat → Nat} (hdj : Zdj ad) {z z1 : ZI} {x1 : Int} {x2 : Int} (hzz : Zok z) (hx1 : InR x1) (hx2 : InR x2) (hF : F_X5_place z x1 x2 = some ((), z1)) : YMv l D cA ad (0) yX5_place cX5_place 4 [.ref (ad 59), .int (i32 x1), .int (i32 x2)] z z1 :=
  Zmet hdj (by decide) rfl (Nat.le_of_ble_eq_true rfl) (lv := [(0, .ref (ad 59)), (1, .int (i32 (x1))), (2, .int (i32 (x2)))]) rfl (fun p e s m args below meth c ls S hr hlk hw hl => by
    have hR : 0 ≤ (Zrm (0)).frames ∧ 60 * (0) ≤ (Zrm (0)).locals := ⟨Nat.le_refl _, Nat.le_refl _⟩
    unfold F_X5_place at hF
    revert hR
    generalize Zrm (0) = R
    intro hR
    refine lv_aload_n S.1 S.2.1 dX5_place_0 rfl (lv_at hl 0 rfl) ?_
    refine gg_X5_29 S hw dX5_place_1 ?_
    refine lv_istore_n (lv' := [(3, .int (i32 (z 59 2))), (0, .ref (ad 59)), (1, .int (i32 (x1))), (2, .int (i32 (x2)))]) S.1 S.2.1 dX5_place_4 rfl hl (by decide) rfl (fun ls hl => ?_)
    exact w_X5_place_L5 S hr hlk hR hdj Zfuel _ _ _ _ _ _ _ hF hw hzz hx1 hx2 (hzz.1 59 2 (by decide)) (lv_sub hl [1, 2, 3, 0] rfl))
set_option maxRecDepth 100000 in
set_option maxHeartbeats 4000000 in
theorem w_X7_pointsOf_b67 {RR : Int × ZI} (S : CallFix p m c cX7_pointsOf 5 s args Ztbl RX7) (hr : meth.sig.returnType = some .int) (hlk : meth.locks = false) (hR : 45 ≤ R.frames ∧ 60 * (45) ≤ R.locals) (hdj : Zdj ad) : ∀ (z : ZI) (x2 : Int) (x3 : Int) (x4 : Int) (y1 : Int) (y2 : Int) (H : Heap) (locs : List Loc) (ls : Array Slot), X7_pointsOf_b67 z x2 x3 x4 y1 y2 = some RR → ZW D cA ad (ZA ad) (Zc z) s H locs → Zok z → InR x2 → InR x3 → InR x4 → InR y1 → InR y2 → lv_has ls 5 [(0, .ref (ad 24)), (1, .ref (ad 11)), (2, .int (i32 (x2))), (3, .int (i32 (x3))), (4, .int (i32 (x4)))] → W p l e R s m args below meth c H locs 0 0 (MQ below (YQi D cA ad RR.1 RR.2) args s 0 0 (ZA ad)) (F0 m 67 ls [.int (i32 (y2)), .int (i32 (y1)), .ref (ad 31)]) := by
  intro z x2 x3 x4 y1 y2 H locs ls hF hw hzz hx2 hx3 hx4 hy1 hy2 hl
  unfold X7_pointsOf_b67 at hF
  obtain ⟨b1_, hF⟩ := Zgs hF
  refine Yiast S hw hzz zd_31 (by decide) hy1 hy2 b1_ dX7_pointsOf_67 (fun z2_ H locs ez hzz2_ hw => ?_)
  replace hF := Zle ez hF; clear ez
  refine lv_aload_n S.1 S.2.1 dX7_pointsOf_68 rfl (lv_at hl 0 rfl) ?_
  refine gf_X7_31 S hw dX7_pointsOf_69 ?_
  refine gf_X7_82 S hw dX7_pointsOf_72 ?_
  refine lv_iconst (v := i32 5) S.1 S.2.1 dX7_pointsOf_75 ic_5 ?_
  refine lv_aload_n S.1 S.2.1 dX7_pointsOf_76 rfl (lv_at hl 1 rfl) ?_
  refine lv_iload_n S.1 S.2.1 dX7_pointsOf_77 rfl (lv_at hl 2 rfl) ?_
  refine lv_iload_n S.1 S.2.1 dX7_pointsOf_78 rfl (lv_at hl 3 rfl) ?_
  obtain ⟨r5_, z3_, h4_, hF⟩ := Ybs hF
  refine YcallVi (rest := [.int (i32 (5)), .ref (ad 31)]) S hw (c_X3_ageOn hdj hzz2_ hx2 hx3 h4_) my_X3_ageOn mi_X3_ageOn ml_X7_97 zd_11 zc_X3 rfl (Zrr hR (by decide)) ⟨Nat.zero_le _, Nat.zero_le _⟩ hl.1 rfl rfl (Nat.le_of_ble_eq_true rfl) dX7_pointsOf_79 (fun hrr5_ hzz3_ H locs hw => ?_)
  refine lv_sipush (v := i32 365) S.1 S.2.1 dX7_pointsOf_82 sp_365 ?_
  refine Yidiv S hrr5_ r_365 (by decide) dX7_pointsOf_85 ?_
  obtain ⟨b6_, hF⟩ := Zgs hF
  refine Yiast S hw hzz3_ zd_31 (by decide) r_5 (InR_tdiv hrr5_ (by decide)) b6_ dX7_pointsOf_86 (fun z7_ H locs ez hzz7_ hw => ?_)
  replace hF := Zle ez hF; clear ez
  refine lv_aload_n S.1 S.2.1 dX7_pointsOf_87 rfl (lv_at hl 0 rfl) ?_
  refine gf_X7_31 S hw dX7_pointsOf_88 ?_
  refine gf_X7_82 S hw dX7_pointsOf_91 ?_
  refine lv_bipush (v := i32 6) S.1 S.2.1 dX7_pointsOf_94 bp_6 ?_
  refine lv_aload_n S.1 S.2.1 dX7_pointsOf_96 rfl (lv_at hl 1 rfl) ?_
  refine gf_X7_109 S hw dX7_pointsOf_97 ?_
  refine lv_iload_n S.1 S.2.1 dX7_pointsOf_100 rfl (lv_at hl 2 rfl) ?_
  obtain ⟨b8_, hF⟩ := Zgs hF
  refine Yiald S hw zd_17 (by decide) hx2 b8_ dX7_pointsOf_101 ?_
  obtain ⟨b9_, hF⟩ := Zgs hF
  refine Yiast S hw hzz7_ zd_31 (by decide) r_6 (hzz7_.1 _ _ (by decide)) b9_ dX7_pointsOf_102 (fun z10_ H locs ez hzz10_ hw => ?_)
  replace hF := Zle ez hF; clear ez
  refine lv_aload_n S.1 S.2.1 dX7_pointsOf_103 rfl (lv_at hl 0 rfl) ?_
  refine gf_X7_31 S hw dX7_pointsOf_104 ?_
  refine gf_X7_82 S hw dX7_pointsOf_107 ?_
  refine lv_bipush (v := i32 7) S.1 S.2.1 dX7_pointsOf_110 bp_7 ?_
  refine lv_iload_n S.1 S.2.1 dX7_pointsOf_112 rfl (lv_at hl 3 rfl) ?_
  refine lv_aload_n S.1 S.2.1 dX7_pointsOf_113 rfl (lv_at hl 1 rfl) ?_
  refine gf_X7_112 S hw dX7_pointsOf_114 ?_
  refine lv_iload_n S.1 S.2.1 dX7_pointsOf_117 rfl (lv_at hl 2 rfl) ?_
  obtain ⟨b11_, hF⟩ := Zgs hF
  refine Yiald S hw zd_18 (by decide) hx2 b11_ dX7_pointsOf_118 ?_
  obtain ⟨g12_, hF⟩ := Zgs hF
  refine Yisub S dX7_pointsOf_119 ?_
  obtain ⟨b13_, hF⟩ := Zgs hF
  refine Yiast S hw hzz10_ zd_31 (by decide) r_7 g12_ b13_ dX7_pointsOf_120 (fun z14_ H locs ez hzz14_ hw => ?_)
  replace hF := Zle ez hF; clear ez
  refine lv_aload_n S.1 S.2.1 dX7_pointsOf_121 rfl (lv_at hl 0 rfl) ?_
  refine lv_iload S.1 S.2.1 dX7_pointsOf_122 (lv_at hl 4 rfl) ?_
  obtain ⟨r17_, z15_, h16_, hF⟩ := Ybs hF
  refine YcallVi (rest := []) S hw (c_X7_worth hdj hzz14_ hx4 h16_) my_X7_worth mi_X7_worth ml_X7_85 zd_24 zc_X7 rfl (Zrr hR (by decide)) ⟨Nat.zero_le _, Nat.zero_le _⟩ hl.1 rfl rfl (Nat.le_of_ble_eq_true rfl) dX7_pointsOf_124 (fun hrr17_ hzz15_ H locs hw => ?_)
  exact Yireti S hw hzz15_ hrr17_ hr hlk hF dX7_pointsOf_127
set_option maxRecDepth 100000 in
set_option maxHeartbeats 4000000 in
theorem c_X7_pointsOf {l : Launch} {D : va_G} {cA : Nat → ClassId} {ad : Nat → Nat} (hdj : Zdj ad) {z z1 : ZI} {x2 : Int} {x3 : Int} {r : Int} (hzz : Zok z) (hx2 : InR x2) (hx3 : InR x3) (hF : F_X7_pointsOf z x2 x3 = some (r, z1)) : YMi l D cA ad (45) yX7_pointsOf cX7_pointsOf 5 (some .int) [.ref (ad 24), .ref (ad 11), .int (i32 x2), .int (i32 x3)] z r z1 :=
  Zmet hdj (by decide) rfl (Nat.le_of_ble_eq_true rfl) (lv := [(0, .ref (ad 24)), (1, .ref (ad 11)), (2, .int (i32 (x2))), (3, .int (i32 (x3)))]) rfl (fun p e s m args below meth c ls S hr hlk hw hl => by
    have hR : 45 ≤ (Zrm (45)).frames ∧ 60 * (45) ≤ (Zrm (45)).locals := ⟨Nat.le_refl _, Nat.le_refl _⟩
    unfold F_X7_pointsOf at hF
    revert hR
    generalize Zrm (45) = R
    intro hR
    refine lv_aload_n S.1 S.2.1 dX7_pointsOf_0 rfl (lv_at hl 0 rfl) ?_
    refine lv_iconst (v := i32 1) S.1 S.2.1 dX7_pointsOf_1 ic_1 ?_
    refine lv_iload_n S.1 S.2.1 dX7_pointsOf_2 rfl (lv_at hl 3 rfl) ?_
    obtain ⟨r3_, z1_, h2_, hF⟩ := Ybs hF
    refine YcallVi (rest := []) S hw (c_X7_inForce hdj hzz r_1 hx3 h2_) my_X7_inForce mi_X7_inForce ml_X7_59 zd_24 zc_X7 rfl (Zrr hR (by decide)) ⟨Nat.zero_le _, Nat.zero_le _⟩ hl.1 rfl rfl (Nat.le_of_ble_eq_true rfl) dX7_pointsOf_3 (fun hrr3_ hzz1_ H locs hw => ?_)
    refine lv_istore (lv' := [(4, .int (i32 (r3_))), (0, .ref (ad 24)), (1, .ref (ad 11)), (2, .int (i32 (x2))), (3, .int (i32 (x3)))]) S.1 S.2.1 dX7_pointsOf_6 hl (by decide) rfl (fun ls hl => ?_)
    refine lv_iload S.1 S.2.1 dX7_pointsOf_8 (lv_at hl 0 rfl) ?_
    refine lv_bipush (v := i32 (-9)) S.1 S.2.1 dX7_pointsOf_10 bp_m9 ?_
    refine Yicmp_ne (tgt := 17) S hrr3_ r_m9 dX7_pointsOf_12 (by decide) (fun c4_ => ?_) (fun c4_ => ?_)
    · replace hF := ZtN c4_ hF
      refine lv_aload_n S.1 S.2.1 dX7_pointsOf_17 rfl (lv_at hl 1 rfl) ?_
      refine gf_X7_31 S hw dX7_pointsOf_18 ?_
      obtain ⟨r7_, z5_, h6_, hF⟩ := Ybs hF
      refine YcallVv (rest := []) S hw (c_X6_clearLetters hdj hzz1_  h6_) my_X6_clearLetters mi_X6_clearLetters ml_X7_63 zd_30 zc_X6 rfl (Zrr hR (by decide)) ⟨Nat.zero_le _, Nat.zero_le _⟩ hl.1 rfl rfl (Nat.le_of_ble_eq_true rfl) dX7_pointsOf_21 (fun hzz5_ H locs hw => ?_)
      refine lv_aload_n S.1 S.2.1 dX7_pointsOf_24 rfl (lv_at hl 1 rfl) ?_
      refine gf_X7_31 S hw dX7_pointsOf_25 ?_
      refine gf_X7_82 S hw dX7_pointsOf_28 ?_
      refine lv_iconst (v := i32 0) S.1 S.2.1 dX7_pointsOf_31 ic_0 ?_
      refine lv_aload_n S.1 S.2.1 dX7_pointsOf_32 rfl (lv_at hl 2 rfl) ?_
      refine lv_aload_n S.1 S.2.1 dX7_pointsOf_33 rfl (lv_at hl 2 rfl) ?_
      refine gf_X7_103 S hw dX7_pointsOf_34 ?_
      refine lv_iload_n S.1 S.2.1 dX7_pointsOf_37 rfl (lv_at hl 3 rfl) ?_
      obtain ⟨b8_, hF⟩ := Zgs hF
      refine Yiald S hw zd_15 (by decide) hx2 b8_ dX7_pointsOf_38 ?_
      refine lv_iload_n S.1 S.2.1 dX7_pointsOf_39 rfl (lv_at hl 4 rfl) ?_
      obtain ⟨r11_, z9_, h10_, hF⟩ := Ybs hF
      refine YcallVi (rest := [.int (i32 (0)), .ref (ad 31)]) S hw (c_X3_hereInHouse hdj hzz5_ (hzz5_.1 _ _ (by decide)) hx3 h10_) my_X3_hereInHouse mi_X3_hereInHouse ml_X7_106 zd_11 zc_X3 rfl (Zrr hR (by decide)) ⟨Nat.zero_le _, Nat.zero_le _⟩ hl.1 rfl rfl (Nat.le_of_ble_eq_true rfl) dX7_pointsOf_40 (fun hrr11_ hzz9_ H locs hw => ?_)
      obtain ⟨b12_, hF⟩ := Zgs hF
      refine Yiast S hw hzz9_ zd_31 (by decide) r_0 hrr11_ b12_ dX7_pointsOf_43 (fun z13_ H locs ez hzz13_ hw => ?_)
      replace hF := Zle ez hF; clear ez
      refine lv_aload_n S.1 S.2.1 dX7_pointsOf_44 rfl (lv_at hl 1 rfl) ?_
      refine gf_X7_31 S hw dX7_pointsOf_45 ?_
      refine gf_X7_82 S hw dX7_pointsOf_48 ?_
      refine lv_iconst (v := i32 3) S.1 S.2.1 dX7_pointsOf_51 ic_3 ?_
      refine lv_aload_n S.1 S.2.1 dX7_pointsOf_52 rfl (lv_at hl 2 rfl) ?_
      refine lv_iload_n S.1 S.2.1 dX7_pointsOf_53 rfl (lv_at hl 3 rfl) ?_
      refine lv_iload_n S.1 S.2.1 dX7_pointsOf_54 rfl (lv_at hl 4 rfl) ?_
      obtain ⟨r16_, z14_, h15_, hF⟩ := Ybs hF
      refine YcallVi (rest := [.int (i32 (3)), .ref (ad 31)]) S hw (c_X3_stateOn hdj hzz13_ hx2 hx3 h15_) my_X3_stateOn mi_X3_stateOn ml_X7_100 zd_11 zc_X3 rfl (Zrr hR (by decide)) ⟨Nat.zero_le _, Nat.zero_le _⟩ hl.1 rfl rfl (Nat.le_of_ble_eq_true rfl) dX7_pointsOf_55 (fun hrr16_ hzz14_ H locs hw => ?_)
      refine lv_iconst (v := i32 2) S.1 S.2.1 dX7_pointsOf_58 ic_2 ?_
      refine Yicmp_ne (tgt := 66) S hrr16_ r_2 dX7_pointsOf_59 (by decide) (fun c17_ => ?_) (fun c17_ => ?_)
      · replace hF := ZtN c17_ hF
        refine lv_iconst (v := i32 0) S.1 S.2.1 dX7_pointsOf_66 ic_0 ?_
        exact w_X7_pointsOf_b67 S hr hlk hR hdj _ _ _ _ _ _ _ _ _ hF hw hzz14_ hx2 hx3 hrr3_ r_3 r_0 (lv_sub hl [1, 2, 3, 4, 0] rfl)
      · replace hF := ZtP c17_ hF
        refine lv_iconst (v := i32 1) S.1 S.2.1 dX7_pointsOf_62 ic_1 ?_
        refine lv_goto (tgt := 67) S.1 S.2.1 dX7_pointsOf_63 (by decide) ?_
        exact w_X7_pointsOf_b67 S hr hlk hR hdj _ _ _ _ _ _ _ _ _ hF hw hzz14_ hx2 hx3 hrr3_ r_3 r_1 (lv_sub hl [1, 2, 3, 4, 0] rfl)
    · replace hF := ZtP c4_ hF
      refine lv_iconst (v := i32 0) S.1 S.2.1 dX7_pointsOf_15 ic_0 ?_
      exact Yireti S hw hzz1_ r_0 hr hlk hF dX7_pointsOf_16)
set_option maxRecDepth 100000 in
set_option maxHeartbeats 4000000 in
theorem w_X5_rank_b50 {RR : Int × ZI} (S : CallFix p m c cX5_rank 6 s args Ztbl RX5) (hr : meth.sig.returnType = some .int) (hlk : meth.locks = false) (hR : 46 ≤ R.frames ∧ 60 * (46) ≤ R.locals) (hdj : Zdj ad) {k8 : ZI → Int → Int → Option (Int × ZI)} (hk8 : ∀ (z : ZI) (x3 : Int) (x4 : Int) (H : Heap) (locs : List Loc) (ls : Array Slot), k8 z x3 x4 = some RR → ZW D cA ad (ZA ad) (Zc z) s H locs → Zok z → InR x3 → InR x4 → lv_has ls 6 [(0, .ref (ad 59)), (1, .ref (ad 11)), (2, .ref (ad 24)), (3, .int (i32 (x3))), (4, .int (i32 (x4)))] → W p l e R s m args below meth c H locs 0 0 (MQ below (YQi D cA ad RR.1 RR.2) args s 0 0 (ZA ad)) (F0 m 8 ls [])) : ∀ (z : ZI) (x3 : Int) (x4 : Int) (H : Heap) (locs : List Loc) (ls : Array Slot), X5_rank_b50 k8 z x3 x4 = some RR → ZW D cA ad (ZA ad) (Zc z) s H locs → Zok z → InR x3 → InR x4 → lv_has ls 6 [(0, .ref (ad 59)), (1, .ref (ad 11)), (2, .ref (ad 24)), (3, .int (i32 (x3))), (4, .int (i32 (x4)))] → W p l e R s m args below meth c H locs 0 0 (MQ below (YQi D cA ad RR.1 RR.2) args s 0 0 (ZA ad)) (F0 m 50 ls []) := by
  intro z x3 x4 H locs ls hF hw hzz hx3 hx4 hl
  unfold X5_rank_b50 at hF
  obtain ⟨g1_, hF⟩ := Zgs hF
  refine lv_iinc (v := i32 (x4 + 1)) (lv' := [(4, .int (i32 (x4 + 1))), (0, .ref (ad 59)), (1, .ref (ad 11)), (2, .ref (ad 24)), (3, .int (i32 (x3)))]) S.1 S.2.1 dX5_rank_50 hl (k := 4) rfl Yiinc (by decide) rfl (fun ls hl => ?_)
  refine lv_goto (tgt := 8) S.1 S.2.1 dX5_rank_53 (by decide) ?_
  exact hk8 _ _ _ _ _ _ hF hw hzz hx3 g1_ (lv_sub hl [1, 2, 3, 4, 0] rfl)
set_option maxRecDepth 100000 in
set_option maxHeartbeats 4000000 in
theorem w_X5_rank_L8 {RR : Int × ZI} (S : CallFix p m c cX5_rank 6 s args Ztbl RX5) (hr : meth.sig.returnType = some .int) (hlk : meth.locks = false) (hR : 46 ≤ R.frames ∧ 60 * (46) ≤ R.locals) (hdj : Zdj ad) : ∀ (n : Nat) (z : ZI) (x3 : Int) (x4 : Int) (H : Heap) (locs : List Loc) (ls : Array Slot), X5_rank_L8 n z x3 x4 = some RR → ZW D cA ad (ZA ad) (Zc z) s H locs → Zok z → InR x3 → InR x4 → lv_has ls 6 [(0, .ref (ad 59)), (1, .ref (ad 11)), (2, .ref (ad 24)), (3, .int (i32 (x3))), (4, .int (i32 (x4)))] → W p l e R s m args below meth c H locs 0 0 (MQ below (YQi D cA ad RR.1 RR.2) args s 0 0 (ZA ad)) (F0 m 8 ls []) := by
  intro n
  induction n with
  | zero => intro z x3 x4 H locs ls hF; exact nomatch hF
  | succ n hk8 =>
    intro z x3 x4 H locs ls hF hw hzz hx3 hx4 hl
    replace hF : X5_rank_L8b (X5_rank_L8 n) z x3 x4 = some RR := hF
    unfold X5_rank_L8b at hF
    refine lv_iload S.1 S.2.1 dX5_rank_8 (lv_at hl 4 rfl) ?_
    refine lv_aload_n S.1 S.2.1 dX5_rank_10 rfl (lv_at hl 0 rfl) ?_
    refine gg_X5_21 S hw dX5_rank_11 ?_
    refine Yicmp_ge (tgt := 56) S hx4 (hzz.1 59 0 (by decide)) dX5_rank_14 (by decide) (fun c1_ => ?_) (fun c1_ => ?_)
    · replace hF := ZtP c1_ hF
      refine lv_aload_n S.1 S.2.1 dX5_rank_56 rfl (lv_at hl 0 rfl) ?_
      refine gg_X5_29 S hw dX5_rank_57 ?_
      exact Yireti S hw hzz (hzz.1 59 2 (by decide)) hr hlk hF dX5_rank_60
    · replace hF := ZtN c1_ hF
      refine lv_aload_n S.1 S.2.1 dX5_rank_17 rfl (lv_at hl 0 rfl) ?_
      refine gf_X5_9 S hw dX5_rank_18 ?_
      refine lv_iload S.1 S.2.1 dX5_rank_21 (lv_at hl 4 rfl) ?_
      obtain ⟨b2_, hF⟩ := Zgs hF
      refine Yiald S hw zd_60 (by decide) hx4 b2_ dX5_rank_23 ?_
      refine lv_istore (lv' := [(5, .int (i32 (z 60 x4))), (0, .ref (ad 59)), (1, .ref (ad 11)), (2, .ref (ad 24)), (3, .int (i32 (x3))), (4, .int (i32 (x4)))]) S.1 S.2.1 dX5_rank_24 hl (by decide) rfl (fun ls hl => ?_)
      refine lv_aload_n S.1 S.2.1 dX5_rank_26 rfl (lv_at hl 2 rfl) ?_
      refine lv_iload S.1 S.2.1 dX5_rank_27 (lv_at hl 0 rfl) ?_
      refine lv_iload_n S.1 S.2.1 dX5_rank_29 rfl (lv_at hl 4 rfl) ?_
      obtain ⟨r5_, z3_, h4_, hF⟩ := Ybs hF
      refine YcallVi (rest := []) S hw (c_X3_isHere hdj hzz (hzz.1 _ _ (by decide)) hx3 h4_) my_X3_isHere mi_X3_isHere ml_X5_32 zd_11 zc_X3 rfl (Zrr hR (by decide)) ⟨Nat.zero_le _, Nat.zero_le _⟩ hl.1 rfl rfl (Nat.le_of_ble_eq_true rfl) dX5_rank_30 (fun hrr5_ hzz3_ H locs hw => ?_)
      refine Yif_eq (tgt := 50) S hrr5_ dX5_rank_33 (by decide) (fun c6_ => ?_) (fun c6_ => ?_)
      · replace hF := ZtP c6_ hF
        exact w_X5_rank_b50 S hr hlk hR hdj hk8 _ _ _ _ _ _ hF hw hzz3_ hx3 hx4 (lv_sub hl [1, 2, 3, 4, 5] rfl)
      · replace hF := ZtN c6_ hF
        refine lv_aload_n S.1 S.2.1 dX5_rank_36 rfl (lv_at hl 1 rfl) ?_
        refine lv_iload S.1 S.2.1 dX5_rank_37 (lv_at hl 0 rfl) ?_
        refine lv_aload_n S.1 S.2.1 dX5_rank_39 rfl (lv_at hl 3 rfl) ?_
        refine lv_aload_n S.1 S.2.1 dX5_rank_40 rfl (lv_at hl 2 rfl) ?_
        refine lv_iload S.1 S.2.1 dX5_rank_41 (lv_at hl 0 rfl) ?_
        refine lv_iload_n S.1 S.2.1 dX5_rank_43 rfl (lv_at hl 4 rfl) ?_
        obtain ⟨r9_, z7_, h8_, hF⟩ := Ybs hF
        refine YcallVi (rest := [.int (i32 (z 60 x4)), .ref (ad 59)]) S hw (c_X7_pointsOf hdj hzz3_ (hzz.1 _ _ (by decide)) hx3 h8_) my_X7_pointsOf mi_X7_pointsOf ml_X5_38 zd_24 zc_X7 rfl (Zrr hR (by decide)) ⟨Nat.zero_le _, Nat.zero_le _⟩ hl.1 rfl rfl (Nat.le_of_ble_eq_true rfl) dX5_rank_44 (fun hrr9_ hzz7_ H locs hw => ?_)
        obtain ⟨r12_, z10_, h11_, hF⟩ := Ybs hF
        refine YcallVv (rest := []) S hw (c_X5_place hdj hzz7_ (hzz.1 _ _ (by decide)) hrr9_ h11_) my_X5_place mi_X5_place ml_X5_44 zd_59 zc_X5 rfl (Zrr hR (by decide)) ⟨Nat.zero_le _, Nat.zero_le _⟩ hl.1 rfl rfl (Nat.le_of_ble_eq_true rfl) dX5_rank_47 (fun hzz10_ H locs hw => ?_)
        exact w_X5_rank_b50 S hr hlk hR hdj hk8 _ _ _ _ _ _ hF hw hzz10_ hx3 hx4 (lv_sub hl [1, 2, 3, 4, 5] rfl)
set_option maxRecDepth 100000 in
set_option maxHeartbeats 4000000 in
theorem c_X5_rank {l : Launch} {D : va_G} {cA : Nat → ClassId} {ad : Nat → Nat} (hdj : Zdj ad) {z z1 : ZI} {x3 : Int} {r : Int} (hzz : Zok z) (hx3 : InR x3) (hF : F_X5_rank z x3 = some (r, z1)) : YMi l D cA ad (46) yX5_rank cX5_rank 6 (some .int) [.ref (ad 59), .ref (ad 11), .ref (ad 24), .int (i32 x3)] z r z1 :=
  Zmet hdj (by decide) rfl (Nat.le_of_ble_eq_true rfl) (lv := [(0, .ref (ad 59)), (1, .ref (ad 11)), (2, .ref (ad 24)), (3, .int (i32 (x3)))]) rfl (fun p e s m args below meth c ls S hr hlk hw hl => by
    have hR : 46 ≤ (Zrm (46)).frames ∧ 60 * (46) ≤ (Zrm (46)).locals := ⟨Nat.le_refl _, Nat.le_refl _⟩
    unfold F_X5_rank at hF
    revert hR
    generalize Zrm (46) = R
    intro hR
    refine lv_aload_n S.1 S.2.1 dX5_rank_0 rfl (lv_at hl 0 rfl) ?_
    refine lv_iconst (v := i32 0) S.1 S.2.1 dX5_rank_1 ic_0 ?_
    refine pp_X5_29 S hw hzz r_0 dX5_rank_2 (fun z1_ H locs ez hzz1_ hw => ?_)
    replace hF := Zle ez hF; clear ez
    refine lv_iconst (v := i32 0) S.1 S.2.1 dX5_rank_5 ic_0 ?_
    refine lv_istore (lv' := [(4, .int (i32 (0))), (0, .ref (ad 59)), (1, .ref (ad 11)), (2, .ref (ad 24)), (3, .int (i32 (x3)))]) S.1 S.2.1 dX5_rank_6 hl (by decide) rfl (fun ls hl => ?_)
    exact w_X5_rank_L8 S hr hlk hR hdj Zfuel _ _ _ _ _ _ hF hw hzz1_ hx3 r_0 (lv_sub hl [1, 2, 3, 4, 0] rfl))
set_option maxRecDepth 100000 in
set_option maxHeartbeats 4000000 in
theorem w_X5_rankedAt_b23 {RR : Int × ZI} (S : CallFix p m c cX5_rankedAt 2 s args Ztbl RX5) (hr : meth.sig.returnType = some .int) (hlk : meth.locks = false) (hR : 0 ≤ R.frames ∧ 60 * (0) ≤ R.locals) (hdj : Zdj ad) : ∀ (z : ZI) (y0 : Int) (H : Heap) (locs : List Loc) (ls : Array Slot), X5_rankedAt_b23 z y0 = some RR → ZW D cA ad (ZA ad) (Zc z) s H locs → Zok z → InR y0 → lv_has ls 2 [] → W p l e R s m args below meth c H locs 0 0 (MQ below (YQi D cA ad RR.1 RR.2) args s 0 0 (ZA ad)) (F0 m 23 ls [.int (i32 (y0))]) := by
  intro z y0 H locs ls hF hw hzz hy0 hl
  unfold X5_rankedAt_b23 at hF
  exact Yireti S hw hzz hy0 hr hlk hF dX5_rankedAt_23
set_option maxRecDepth 100000 in
set_option maxHeartbeats 4000000 in
theorem w_X5_rankedAt_b21 {RR : Int × ZI} (S : CallFix p m c cX5_rankedAt 2 s args Ztbl RX5) (hr : meth.sig.returnType = some .int) (hlk : meth.locks = false) (hR : 0 ≤ R.frames ∧ 60 * (0) ≤ R.locals) (hdj : Zdj ad) : ∀ (z : ZI) (H : Heap) (locs : List Loc) (ls : Array Slot), X5_rankedAt_b21 z  = some RR → ZW D cA ad (ZA ad) (Zc z) s H locs → Zok z → lv_has ls 2 [] → W p l e R s m args below meth c H locs 0 0 (MQ below (YQi D cA ad RR.1 RR.2) args s 0 0 (ZA ad)) (F0 m 21 ls []) := by
  intro z  H locs ls hF hw hzz  hl
  unfold X5_rankedAt_b21 at hF
  refine lv_bipush (v := i32 (-9)) S.1 S.2.1 dX5_rankedAt_21 bp_m9 ?_
  exact w_X5_rankedAt_b23 S hr hlk hR hdj _ _ _ _ _ hF hw hzz r_m9 (lv_sub hl [] rfl)
set_option maxRecDepth 100000 in
set_option maxHeartbeats 4000000 in
theorem c_X5_rankedAt {l : Launch} {D : va_G} {cA : Nat → ClassId} {ad : Nat → Nat} (hdj : Zdj ad) {z z1 : ZI} {x1 : Int} {r : Int} (hzz : Zok z) (hx1 : InR x1) (hF : F_X5_rankedAt z x1 = some (r, z1)) : YMi l D cA ad (0) yX5_rankedAt cX5_rankedAt 2 (some .int) [.ref (ad 59), .int (i32 x1)] z r z1 :=
  Zmet hdj (by decide) rfl (Nat.le_of_ble_eq_true rfl) (lv := [(0, .ref (ad 59)), (1, .int (i32 (x1)))]) rfl (fun p e s m args below meth c ls S hr hlk hw hl => by
    have hR : 0 ≤ (Zrm (0)).frames ∧ 60 * (0) ≤ (Zrm (0)).locals := ⟨Nat.le_refl _, Nat.le_refl _⟩
    unfold F_X5_rankedAt at hF
    revert hR
    generalize Zrm (0) = R
    intro hR
    refine lv_iload_n S.1 S.2.1 dX5_rankedAt_0 rfl (lv_at hl 1 rfl) ?_
    refine Yif_lt (tgt := 21) S hx1 dX5_rankedAt_1 (by decide) (fun c1_ => ?_) (fun c1_ => ?_)
    · replace hF := ZtP c1_ hF
      exact w_X5_rankedAt_b21 S hr hlk hR hdj _ _ _ _ hF hw hzz  (lv_sub hl [] rfl)
    · replace hF := ZtN c1_ hF
      refine lv_iload_n S.1 S.2.1 dX5_rankedAt_4 rfl (lv_at hl 1 rfl) ?_
      refine lv_aload_n S.1 S.2.1 dX5_rankedAt_5 rfl (lv_at hl 0 rfl) ?_
      refine gg_X5_29 S hw dX5_rankedAt_6 ?_
      refine Yicmp_ge (tgt := 21) S hx1 (hzz.1 59 2 (by decide)) dX5_rankedAt_9 (by decide) (fun c2_ => ?_) (fun c2_ => ?_)
      · replace hF := ZtP c2_ hF
        exact w_X5_rankedAt_b21 S hr hlk hR hdj _ _ _ _ hF hw hzz  (lv_sub hl [] rfl)
      · replace hF := ZtN c2_ hF
        refine lv_aload_n S.1 S.2.1 dX5_rankedAt_12 rfl (lv_at hl 0 rfl) ?_
        refine gf_X5_15 S hw dX5_rankedAt_13 ?_
        refine lv_iload_n S.1 S.2.1 dX5_rankedAt_16 rfl (lv_at hl 1 rfl) ?_
        obtain ⟨b3_, hF⟩ := Zgs hF
        refine Yiald S hw zd_61 (by decide) hx1 b3_ dX5_rankedAt_17 ?_
        refine lv_goto (tgt := 23) S.1 S.2.1 dX5_rankedAt_18 (by decide) ?_
        exact w_X5_rankedAt_b23 S hr hlk hR hdj _ _ _ _ _ hF hw hzz (hzz.1 _ _ (by decide)) (lv_sub hl [] rfl))
set_option maxRecDepth 100000 in
set_option maxHeartbeats 4000000 in
theorem c_X9_forgetBest {l : Launch} {D : va_G} {cA : Nat → ClassId} {ad : Nat → Nat} (hdj : Zdj ad) {z z1 : ZI} (hzz : Zok z) (hF : F_X9_forgetBest z  = some ((), z1)) : YMv l D cA ad (0) yX9_forgetBest cX9_forgetBest 1 [.ref (ad 41)] z z1 :=
  Zmet hdj (by decide) rfl (Nat.le_of_ble_eq_true rfl) (lv := [(0, .ref (ad 41))]) rfl (fun p e s m args below meth c ls S hr hlk hw hl => by
    have hR : 0 ≤ (Zrm (0)).frames ∧ 60 * (0) ≤ (Zrm (0)).locals := ⟨Nat.le_refl _, Nat.le_refl _⟩
    unfold F_X9_forgetBest at hF
    revert hR
    generalize Zrm (0) = R
    intro hR
    refine lv_aload_n S.1 S.2.1 dX9_forgetBest_0 rfl (lv_at hl 0 rfl) ?_
    refine lv_iconst (v := i32 0) S.1 S.2.1 dX9_forgetBest_1 ic_0 ?_
    refine pp_X9_58 S hw hzz r_0 (Or.inl rfl) dX9_forgetBest_2 (fun z1_ H locs ez hzz1_ hw => ?_)
    replace hF := Zle ez hF; clear ez
    exact Yvret S hw hzz1_ hr hlk hF dX9_forgetBest_5)
set_option maxRecDepth 100000 in
set_option maxHeartbeats 4000000 in
theorem w_X10_goes_b126 {RR : Int × ZI} (S : CallFix p m c cX10_goes 6 s args Ztbl RX10) (hr : meth.sig.returnType = some .int) (hlk : meth.locks = false) (hR : 47 ≤ R.frames ∧ 60 * (47) ≤ R.locals) (hdj : Zdj ad) : ∀ (z : ZI) (x3 : Int) (H : Heap) (locs : List Loc) (ls : Array Slot), X10_goes_b126 z x3 = some RR → ZW D cA ad (ZA ad) (Zc z) s H locs → Zok z → InR x3 → lv_has ls 6 [(0, .ref (ad 0)), (3, .int (i32 (x3)))] → W p l e R s m args below meth c H locs 0 0 (MQ below (YQi D cA ad RR.1 RR.2) args s 0 0 (ZA ad)) (F0 m 126 ls []) := by
  intro z x3 H locs ls hF hw hzz hx3 hl
  unfold X10_goes_b126 at hF
  refine lv_aload_n S.1 S.2.1 dX10_goes_126 rfl (lv_at hl 0 rfl) ?_
  refine gf_X10_55 S hw dX10_goes_127 ?_
  obtain ⟨r3_, z1_, h2_, hF⟩ := Ybs hF
  refine YcallVv (rest := []) S hw (c_X9_forgetBest hdj hzz  h2_) my_X9_forgetBest mi_X9_forgetBest ml_X10_109 zd_41 zc_X9 rfl (Zrr hR (by decide)) ⟨Nat.zero_le _, Nat.zero_le _⟩ hl.1 rfl rfl (Nat.le_of_ble_eq_true rfl) dX10_goes_130 (fun hzz1_ H locs hw => ?_)
  refine lv_iload_n S.1 S.2.1 dX10_goes_133 rfl (lv_at hl 1 rfl) ?_
  exact Yireti S hw hzz1_ hx3 hr hlk hF dX10_goes_134
set_option maxRecDepth 100000 in
set_option maxHeartbeats 4000000 in
theorem w_X10_goes_b120 {RR : Int × ZI} (S : CallFix p m c cX10_goes 6 s args Ztbl RX10) (hr : meth.sig.returnType = some .int) (hlk : meth.locks = false) (hR : 47 ≤ R.frames ∧ 60 * (47) ≤ R.locals) (hdj : Zdj ad) {k67 : ZI → Int → Int → Option (Int × ZI)} (hk67 : ∀ (z : ZI) (x3 : Int) (x4 : Int) (H : Heap) (locs : List Loc) (ls : Array Slot), k67 z x3 x4 = some RR → ZW D cA ad (ZA ad) (Zc z) s H locs → Zok z → InR x3 → InR x4 → lv_has ls 6 [(0, .ref (ad 0)), (3, .int (i32 (x3))), (4, .int (i32 (x4)))] → W p l e R s m args below meth c H locs 0 0 (MQ below (YQi D cA ad RR.1 RR.2) args s 0 0 (ZA ad)) (F0 m 67 ls [])) : ∀ (z : ZI) (x3 : Int) (x4 : Int) (H : Heap) (locs : List Loc) (ls : Array Slot), X10_goes_b120 k67 z x3 x4 = some RR → ZW D cA ad (ZA ad) (Zc z) s H locs → Zok z → InR x3 → InR x4 → lv_has ls 6 [(0, .ref (ad 0)), (3, .int (i32 (x3))), (4, .int (i32 (x4)))] → W p l e R s m args below meth c H locs 0 0 (MQ below (YQi D cA ad RR.1 RR.2) args s 0 0 (ZA ad)) (F0 m 120 ls []) := by
  intro z x3 x4 H locs ls hF hw hzz hx3 hx4 hl
  unfold X10_goes_b120 at hF
  obtain ⟨g1_, hF⟩ := Zgs hF
  refine lv_iinc (v := i32 (x4 + 1)) (lv' := [(4, .int (i32 (x4 + 1))), (0, .ref (ad 0)), (3, .int (i32 (x3)))]) S.1 S.2.1 dX10_goes_120 hl (k := 2) rfl Yiinc (by decide) rfl (fun ls hl => ?_)
  refine lv_goto (tgt := 67) S.1 S.2.1 dX10_goes_123 (by decide) ?_
  exact hk67 _ _ _ _ _ _ hF hw hzz hx3 g1_ (lv_sub hl [1, 2, 0] rfl)
set_option maxRecDepth 100000 in
set_option maxHeartbeats 4000000 in
theorem w_X10_goes_L67 {RR : Int × ZI} (S : CallFix p m c cX10_goes 6 s args Ztbl RX10) (hr : meth.sig.returnType = some .int) (hlk : meth.locks = false) (hR : 47 ≤ R.frames ∧ 60 * (47) ≤ R.locals) (hdj : Zdj ad) : ∀ (n : Nat) (z : ZI) (x3 : Int) (x4 : Int) (H : Heap) (locs : List Loc) (ls : Array Slot), X10_goes_L67 n z x3 x4 = some RR → ZW D cA ad (ZA ad) (Zc z) s H locs → Zok z → InR x3 → InR x4 → lv_has ls 6 [(0, .ref (ad 0)), (3, .int (i32 (x3))), (4, .int (i32 (x4)))] → W p l e R s m args below meth c H locs 0 0 (MQ below (YQi D cA ad RR.1 RR.2) args s 0 0 (ZA ad)) (F0 m 67 ls []) := by
  intro n
  induction n with
  | zero => intro z x3 x4 H locs ls hF; exact nomatch hF
  | succ n hk67 =>
    intro z x3 x4 H locs ls hF hw hzz hx3 hx4 hl
    replace hF : X10_goes_L67b (X10_goes_L67 n) z x3 x4 = some RR := hF
    unfold X10_goes_L67b at hF
    refine lv_iload S.1 S.2.1 dX10_goes_67 (lv_at hl 2 rfl) ?_
    refine lv_iload_n S.1 S.2.1 dX10_goes_69 rfl (lv_at hl 1 rfl) ?_
    refine Yicmp_ge (tgt := 126) S hx4 hx3 dX10_goes_70 (by decide) (fun c1_ => ?_) (fun c1_ => ?_)
    · replace hF := ZtP c1_ hF
      exact w_X10_goes_b126 S hr hlk hR hdj _ _ _ _ _ hF hw hzz hx3 (lv_sub hl [0, 1] rfl)
    · replace hF := ZtN c1_ hF
      refine lv_aload_n S.1 S.2.1 dX10_goes_73 rfl (lv_at hl 0 rfl) ?_
      refine gf_X10_69 S hw dX10_goes_74 ?_
      refine lv_iload S.1 S.2.1 dX10_goes_77 (lv_at hl 2 rfl) ?_
      obtain ⟨r4_, z2_, h3_, hF⟩ := Ybs hF
      refine YcallVi (rest := []) S hw (c_X5_rankedAt hdj hzz hx4 h3_) my_X5_rankedAt mi_X5_rankedAt ml_X10_303 zd_59 zc_X5 rfl (Zrr hR (by decide)) ⟨Nat.zero_le _, Nat.zero_le _⟩ hl.1 rfl rfl (Nat.le_of_ble_eq_true rfl) dX10_goes_79 (fun hrr4_ hzz2_ H locs hw => ?_)
      refine lv_istore (lv' := [(5, .int (i32 (r4_))), (0, .ref (ad 0)), (3, .int (i32 (x3))), (4, .int (i32 (x4)))]) S.1 S.2.1 dX10_goes_82 hl (by decide) rfl (fun ls hl => ?_)
      refine lv_aload_n S.1 S.2.1 dX10_goes_84 rfl (lv_at hl 1 rfl) ?_
      refine gf_X10_27 S hw dX10_goes_85 ?_
      refine lv_iload S.1 S.2.1 dX10_goes_88 (lv_at hl 0 rfl) ?_
      obtain ⟨r7_, z5_, h6_, hF⟩ := Ybs hF
      refine YcallVi (rest := []) S hw (c_X3_hasPerson hdj hzz2_ hrr4_ h6_) my_X3_hasPerson mi_X3_hasPerson ml_X10_126 zd_11 zc_X3 rfl (Zrr hR (by decide)) ⟨Nat.zero_le _, Nat.zero_le _⟩ hl.1 rfl rfl (Nat.le_of_ble_eq_true rfl) dX10_goes_90 (fun hrr7_ hzz5_ H locs hw => ?_)
      refine Yif_eq (tgt := 120) S hrr7_ dX10_goes_93 (by decide) (fun c8_ => ?_) (fun c8_ => ?_)
      · replace hF := ZtP c8_ hF
        exact w_X10_goes_b120 S hr hlk hR hdj hk67 _ _ _ _ _ _ hF hw hzz5_ hx3 hx4 (lv_sub hl [1, 2, 3] rfl)
      · replace hF := ZtN c8_ hF
        refine lv_aload_n S.1 S.2.1 dX10_goes_96 rfl (lv_at hl 1 rfl) ?_
        refine gf_X10_27 S hw dX10_goes_97 ?_
        refine lv_iload S.1 S.2.1 dX10_goes_100 (lv_at hl 0 rfl) ?_
        refine lv_iconst (v := i32 3) S.1 S.2.1 dX10_goes_102 ic_3 ?_
        refine lv_aload_n S.1 S.2.1 dX10_goes_103 rfl (lv_at hl 1 rfl) ?_
        refine gg_X10_7 S hw dX10_goes_104 ?_
        obtain ⟨r11_, z9_, h10_, hF⟩ := Ybs hF
        refine YcallVi (rest := []) S hw (c_X3_tell hdj hzz5_ hrr4_ r_3 (hzz5_.1 0 0 (by decide)) h10_) my_X3_tell mi_X3_tell ml_X10_135 zd_11 zc_X3 rfl (Zrr hR (by decide)) ⟨Nat.zero_le _, Nat.zero_le _⟩ hl.1 rfl rfl (Nat.le_of_ble_eq_true rfl) dX10_goes_107 (fun hrr11_ hzz9_ H locs hw => ?_)
        refine lv_pop S.1 S.2.1 dX10_goes_110 rfl ?_
        refine lv_aload_n S.1 S.2.1 dX10_goes_111 rfl (lv_at hl 1 rfl) ?_
        refine gf_X10_69 S hw dX10_goes_112 ?_
        refine lv_iload S.1 S.2.1 dX10_goes_115 (lv_at hl 0 rfl) ?_
        obtain ⟨r14_, z12_, h13_, hF⟩ := Ybs hF
        refine YcallVv (rest := []) S hw (c_X5_quit hdj hzz9_ hrr4_ h13_) my_X5_quit mi_X5_quit ml_X10_296 zd_59 zc_X5 rfl (Zrr hR (by decide)) ⟨Nat.zero_le _, Nat.zero_le _⟩ hl.1 rfl rfl (Nat.le_of_ble_eq_true rfl) dX10_goes_117 (fun hzz12_ H locs hw => ?_)
        exact w_X10_goes_b120 S hr hlk hR hdj hk67 _ _ _ _ _ _ hF hw hzz12_ hx3 hx4 (lv_sub hl [1, 2, 3] rfl)
set_option maxRecDepth 100000 in
set_option maxHeartbeats 4000000 in
theorem c_X10_goes {l : Launch} {D : va_G} {cA : Nat → ClassId} {ad : Nat → Nat} (hdj : Zdj ad) {z z1 : ZI} {x1 : Int} {r : Int} (hzz : Zok z) (hx1 : InR x1) (hF : F_X10_goes z x1 = some (r, z1)) : YMi l D cA ad (47) yX10_goes cX10_goes 6 (some .int) [.ref (ad 0), .int (i32 x1)] z r z1 :=
  Zmet hdj (by decide) rfl (Nat.le_of_ble_eq_true rfl) (lv := [(0, .ref (ad 0)), (1, .int (i32 (x1)))]) rfl (fun p e s m args below meth c ls S hr hlk hw hl => by
    have hR : 47 ≤ (Zrm (47)).frames ∧ 60 * (47) ≤ (Zrm (47)).locals := ⟨Nat.le_refl _, Nat.le_refl _⟩
    unfold F_X10_goes at hF
    revert hR
    generalize Zrm (47) = R
    intro hR
    refine lv_iload_n S.1 S.2.1 dX10_goes_0 rfl (lv_at hl 1 rfl) ?_
    refine lv_iconst (v := i32 0) S.1 S.2.1 dX10_goes_1 ic_0 ?_
    refine lv_bipush (v := i32 60) S.1 S.2.1 dX10_goes_2 bp_60 ?_
    obtain ⟨r3_, z1_, h2_, hF⟩ := Ybs hF
    refine YcallSi (rest := []) S hw (c_X10_checkRange hdj hzz hx1 r_0 r_60 h2_) my_X10_checkRange ms_X10_checkRange ml_X10_85 (Zrr hR (by decide)) ⟨Nat.zero_le _, Nat.zero_le _⟩ hl.1 rfl rfl (Nat.le_of_ble_eq_true rfl) dX10_goes_4 (fun hrr3_ hzz1_ H locs hw => ?_)
    refine lv_istore_n (lv' := [(2, .int (i32 (r3_))), (0, .ref (ad 0)), (1, .int (i32 (x1)))]) S.1 S.2.1 dX10_goes_7 rfl hl (by decide) rfl (fun ls hl => ?_)
    refine lv_iload_n S.1 S.2.1 dX10_goes_8 rfl (lv_at hl 0 rfl) ?_
    refine Yif_eq (tgt := 18) S hrr3_ dX10_goes_9 (by decide) (fun c4_ => ?_) (fun c4_ => ?_)
    · replace hF := ZtP c4_ hF
      refine lv_iload_n S.1 S.2.1 dX10_goes_18 rfl (lv_at hl 2 rfl) ?_
      refine lv_aload_n S.1 S.2.1 dX10_goes_19 rfl (lv_at hl 1 rfl) ?_
      refine gf_X10_69 S hw dX10_goes_20 ?_
      refine lv_aload_n S.1 S.2.1 dX10_goes_23 rfl (lv_at hl 1 rfl) ?_
      refine gf_X10_27 S hw dX10_goes_24 ?_
      refine lv_aload_n S.1 S.2.1 dX10_goes_27 rfl (lv_at hl 1 rfl) ?_
      refine gf_X10_34 S hw dX10_goes_28 ?_
      refine lv_aload_n S.1 S.2.1 dX10_goes_31 rfl (lv_at hl 1 rfl) ?_
      refine gg_X10_7 S hw dX10_goes_32 ?_
      obtain ⟨r7_, z5_, h6_, hF⟩ := Ybs hF
      refine YcallVi (rest := [.int (i32 (x1))]) S hw (c_X5_rank hdj hzz1_ (hzz1_.1 0 0 (by decide)) h6_) my_X5_rank mi_X5_rank ml_X10_299 zd_59 zc_X5 rfl (Zrr hR (by decide)) ⟨Nat.zero_le _, Nat.zero_le _⟩ hl.1 rfl rfl (Nat.le_of_ble_eq_true rfl) dX10_goes_35 (fun hrr7_ hzz5_ H locs hw => ?_)
      refine Ymmin S hx1 hrr7_ hl ml_X10_306 (Zr1 hR (by decide)) (Zr2 hR (by decide) (Nat.le_of_ble_eq_true rfl)) ⟨Nat.zero_le _, Nat.zero_le _⟩ dX10_goes_38 ?_
      refine lv_istore_n (lv' := [(3, .int (i32 (min x1 r7_))), (2, .int (i32 (r3_))), (0, .ref (ad 0)), (1, .int (i32 (x1)))]) S.1 S.2.1 dX10_goes_41 rfl hl (by decide) rfl (fun ls hl => ?_)
      refine lv_aload_n S.1 S.2.1 dX10_goes_42 rfl (lv_at hl 2 rfl) ?_
      refine gf_X10_27 S hw dX10_goes_43 ?_
      refine gg_X10_132 S hw dX10_goes_46 ?_
      refine lv_iload_n S.1 S.2.1 dX10_goes_49 rfl (lv_at hl 0 rfl) ?_
      obtain ⟨g8_, hF⟩ := Zgs hF
      refine Yiadd S dX10_goes_50 ?_
      refine lv_sipush (v := i32 150) S.1 S.2.1 dX10_goes_51 sp_150 ?_
      refine Yicmp_le (tgt := 64) S g8_ r_150 dX10_goes_54 (by decide) (fun c9_ => ?_) (fun c9_ => ?_)
      · replace hF := ZtP c9_ hF
        refine lv_iconst (v := i32 0) S.1 S.2.1 dX10_goes_64 ic_0 ?_
        refine lv_istore (lv' := [(4, .int (i32 (0))), (3, .int (i32 (min x1 r7_))), (2, .int (i32 (r3_))), (0, .ref (ad 0)), (1, .int (i32 (x1)))]) S.1 S.2.1 dX10_goes_65 hl (by decide) rfl (fun ls hl => ?_)
        exact w_X10_goes_L67 S hr hlk hR hdj Zfuel _ _ _ _ _ _ hF hw hzz5_ (InR_min hx1 hrr7_) r_0 (lv_sub hl [3, 1, 0] rfl)
      · replace hF := ZtN c9_ hF
        refine lv_aload_n S.1 S.2.1 dX10_goes_57 rfl (lv_at hl 2 rfl) ?_
        refine lv_bipush (v := i32 (-6)) S.1 S.2.1 dX10_goes_58 bp_m6 ?_
        obtain ⟨r12_, z10_, h11_, hF⟩ := Ybs hF
        refine YcallVi (rest := []) S hw (c_X10_refuse hdj hzz5_ r_m6 h11_) my_X10_refuse mi_X10_refuse ml_X10_81 zd_0 zc_X10 rfl (Zrr hR (by decide)) ⟨Nat.zero_le _, Nat.zero_le _⟩ hl.1 rfl rfl (Nat.le_of_ble_eq_true rfl) dX10_goes_60 (fun hrr12_ hzz10_ H locs hw => ?_)
        exact Yireti S hw hzz10_ hrr12_ hr hlk hF dX10_goes_63
    · replace hF := ZtN c4_ hF
      refine lv_aload_n S.1 S.2.1 dX10_goes_12 rfl (lv_at hl 1 rfl) ?_
      refine lv_iload_n S.1 S.2.1 dX10_goes_13 rfl (lv_at hl 0 rfl) ?_
      obtain ⟨r15_, z13_, h14_, hF⟩ := Ybs hF
      refine YcallVi (rest := []) S hw (c_X10_refuse hdj hzz1_ hrr3_ h14_) my_X10_refuse mi_X10_refuse ml_X10_81 zd_0 zc_X10 rfl (Zrr hR (by decide)) ⟨Nat.zero_le _, Nat.zero_le _⟩ hl.1 rfl rfl (Nat.le_of_ble_eq_true rfl) dX10_goes_14 (fun hrr15_ hzz13_ H locs hw => ?_)
      exact Yireti S hw hzz13_ hrr15_ hr hlk hF dX10_goes_17)
set_option maxRecDepth 100000 in
set_option maxHeartbeats 4000000 in
theorem c_X8_note {l : Launch} {D : va_G} {cA : Nat → ClassId} {ad : Nat → Nat} (hdj : Zdj ad) {z z1 : ZI} {x1 : Int} {x2 : Int} {x3 : Int} {r : Int} (hzz : Zok z) (hx1 : InR x1) (hx2 : InR x2) (hx3 : InR x3) (hF : F_X8_note z x1 x2 x3 = some (r, z1)) : YMi l D cA ad (0) yX8_note cX8_note 4 (some .int) [.ref (ad 37), .int (i32 x1), .int (i32 x2), .int (i32 x3)] z r z1 :=
  Zmet hdj (by decide) rfl (Nat.le_of_ble_eq_true rfl) (lv := [(0, .ref (ad 37)), (1, .int (i32 (x1))), (2, .int (i32 (x2))), (3, .int (i32 (x3)))]) rfl (fun p e s m args below meth c ls S hr hlk hw hl => by
    have hR : 0 ≤ (Zrm (0)).frames ∧ 60 * (0) ≤ (Zrm (0)).locals := ⟨Nat.le_refl _, Nat.le_refl _⟩
    unfold F_X8_note at hF
    revert hR
    generalize Zrm (0) = R
    intro hR
    refine lv_aload_n S.1 S.2.1 dX8_note_0 rfl (lv_at hl 0 rfl) ?_
    refine gf_X8_9 S hw dX8_note_1 ?_
    refine lv_aload_n S.1 S.2.1 dX8_note_4 rfl (lv_at hl 0 rfl) ?_
    refine gg_X8_21 S hw dX8_note_5 ?_
    refine lv_iload_n S.1 S.2.1 dX8_note_8 rfl (lv_at hl 1 rfl) ?_
    obtain ⟨b1_, hF⟩ := Zgs hF
    refine Yiast S hw hzz zd_38 (by decide) (hzz.1 37 0 (by decide)) hx1 b1_ dX8_note_9 (fun z2_ H locs ez hzz2_ hw => ?_)
    replace hF := Zle ez hF; clear ez
    refine lv_aload_n S.1 S.2.1 dX8_note_10 rfl (lv_at hl 0 rfl) ?_
    refine gf_X8_15 S hw dX8_note_11 ?_
    refine lv_aload_n S.1 S.2.1 dX8_note_14 rfl (lv_at hl 0 rfl) ?_
    refine gg_X8_21 S hw dX8_note_15 ?_
    refine lv_iload_n S.1 S.2.1 dX8_note_18 rfl (lv_at hl 2 rfl) ?_
    obtain ⟨b3_, hF⟩ := Zgs hF
    refine Yiast S hw hzz2_ zd_39 (by decide) (hzz2_.1 37 0 (by decide)) hx2 b3_ dX8_note_19 (fun z4_ H locs ez hzz4_ hw => ?_)
    replace hF := Zle ez hF; clear ez
    refine lv_aload_n S.1 S.2.1 dX8_note_20 rfl (lv_at hl 0 rfl) ?_
    refine gf_X8_18 S hw dX8_note_21 ?_
    refine lv_aload_n S.1 S.2.1 dX8_note_24 rfl (lv_at hl 0 rfl) ?_
    refine gg_X8_21 S hw dX8_note_25 ?_
    refine lv_iload_n S.1 S.2.1 dX8_note_28 rfl (lv_at hl 3 rfl) ?_
    obtain ⟨b5_, hF⟩ := Zgs hF
    refine Yiast S hw hzz4_ zd_40 (by decide) (hzz4_.1 37 0 (by decide)) hx3 b5_ dX8_note_29 (fun z6_ H locs ez hzz6_ hw => ?_)
    replace hF := Zle ez hF; clear ez
    refine lv_aload_n S.1 S.2.1 dX8_note_30 rfl (lv_at hl 0 rfl) ?_
    refine lv_dup S.1 S.2.1 dX8_note_31 rfl ?_
    refine gg_X8_21 S hw dX8_note_32 ?_
    refine lv_iconst (v := i32 1) S.1 S.2.1 dX8_note_35 ic_1 ?_
    obtain ⟨g7_, hF⟩ := Zgs hF
    refine Yiadd S dX8_note_36 ?_
    refine pp_X8_21 S hw hzz6_ g7_ dX8_note_37 (fun z8_ H locs ez hzz8_ hw => ?_)
    replace hF := Zle ez hF; clear ez
    refine lv_aload_n S.1 S.2.1 dX8_note_40 rfl (lv_at hl 0 rfl) ?_
    refine gg_X8_21 S hw dX8_note_41 ?_
    exact Yireti S hw hzz8_ (hzz8_.1 37 0 (by decide)) hr hlk hF dX8_note_44)
set_option maxRecDepth 100000 in
set_option maxHeartbeats 4000000 in
theorem w_X10_handed_b44 {RR : Int × ZI} (S : CallFix p m c cX10_handed 4 s args Ztbl RX10) (hr : meth.sig.returnType = some .int) (hlk : meth.locks = false) (hR : 1 ≤ R.frames ∧ 60 * (1) ≤ R.locals) (hdj : Zdj ad) : ∀ (z : ZI) (H : Heap) (locs : List Loc) (ls : Array Slot), X10_handed_b44 z  = some RR → ZW D cA ad (ZA ad) (Zc z) s H locs → Zok z → lv_has ls 4 [(0, .ref (ad 0))] → W p l e R s m args below meth c H locs 0 0 (MQ below (YQi D cA ad RR.1 RR.2) args s 0 0 (ZA ad)) (F0 m 44 ls []) := by
  intro z  H locs ls hF hw hzz  hl
  unfold X10_handed_b44 at hF
  refine lv_aload_n S.1 S.2.1 dX10_handed_44 rfl (lv_at hl 0 rfl) ?_
  refine lv_bipush (v := i32 (-4)) S.1 S.2.1 dX10_handed_45 bp_m4 ?_
  obtain ⟨r3_, z1_, h2_, hF⟩ := Ybs hF
  refine YcallVi (rest := []) S hw (c_X10_refuse hdj hzz r_m4 h2_) my_X10_refuse mi_X10_refuse ml_X10_81 zd_0 zc_X10 rfl (Zrr hR (by decide)) ⟨Nat.zero_le _, Nat.zero_le _⟩ hl.1 rfl rfl (Nat.le_of_ble_eq_true rfl) dX10_handed_47 (fun hrr3_ hzz1_ H locs hw => ?_)
  exact Yireti S hw hzz1_ hrr3_ hr hlk hF dX10_handed_50
set_option maxRecDepth 100000 in
set_option maxHeartbeats 4000000 in
theorem w_X10_handed_b77 {RR : Int × ZI} (S : CallFix p m c cX10_handed 4 s args Ztbl RX10) (hr : meth.sig.returnType = some .int) (hlk : meth.locks = false) (hR : 1 ≤ R.frames ∧ 60 * (1) ≤ R.locals) (hdj : Zdj ad) : ∀ (z : ZI) (H : Heap) (locs : List Loc) (ls : Array Slot), X10_handed_b77 z  = some RR → ZW D cA ad (ZA ad) (Zc z) s H locs → Zok z → lv_has ls 4 [(0, .ref (ad 0))] → W p l e R s m args below meth c H locs 0 0 (MQ below (YQi D cA ad RR.1 RR.2) args s 0 0 (ZA ad)) (F0 m 77 ls []) := by
  intro z  H locs ls hF hw hzz  hl
  unfold X10_handed_b77 at hF
  refine lv_aload_n S.1 S.2.1 dX10_handed_77 rfl (lv_at hl 0 rfl) ?_
  refine lv_bipush (v := i32 (-6)) S.1 S.2.1 dX10_handed_78 bp_m6 ?_
  obtain ⟨r3_, z1_, h2_, hF⟩ := Ybs hF
  refine YcallVi (rest := []) S hw (c_X10_refuse hdj hzz r_m6 h2_) my_X10_refuse mi_X10_refuse ml_X10_81 zd_0 zc_X10 rfl (Zrr hR (by decide)) ⟨Nat.zero_le _, Nat.zero_le _⟩ hl.1 rfl rfl (Nat.le_of_ble_eq_true rfl) dX10_handed_80 (fun hrr3_ hzz1_ H locs hw => ?_)
  exact Yireti S hw hzz1_ hrr3_ hr hlk hF dX10_handed_83
set_option maxRecDepth 100000 in
set_option maxHeartbeats 4000000 in
theorem c_X10_handed {l : Launch} {D : va_G} {cA : Nat → ClassId} {ad : Nat → Nat} (hdj : Zdj ad) {z z1 : ZI} {x1 : Int} {x2 : Int} {x3 : Int} {r : Int} (hzz : Zok z) (hx1 : InR x1) (hx2 : InR x2) (hx3 : InR x3) (hF : F_X10_handed z x1 x2 x3 = some (r, z1)) : YMi l D cA ad (1) yX10_handed cX10_handed 4 (some .int) [.ref (ad 0), .int (i32 x1), .int (i32 x2), .int (i32 x3)] z r z1 :=
  Zmet hdj (by decide) rfl (Nat.le_of_ble_eq_true rfl) (lv := [(0, .ref (ad 0)), (1, .int (i32 (x1))), (2, .int (i32 (x2))), (3, .int (i32 (x3)))]) rfl (fun p e s m args below meth c ls S hr hlk hw hl => by
    have hR : 1 ≤ (Zrm (1)).frames ∧ 60 * (1) ≤ (Zrm (1)).locals := ⟨Nat.le_refl _, Nat.le_refl _⟩
    unfold F_X10_handed at hF
    revert hR
    generalize Zrm (1) = R
    intro hR
    refine lv_aload_n S.1 S.2.1 dX10_handed_0 rfl (lv_at hl 0 rfl) ?_
    refine gf_X10_41 S hw dX10_handed_1 ?_
    refine lv_iload_n S.1 S.2.1 dX10_handed_4 rfl (lv_at hl 1 rfl) ?_
    obtain ⟨r3_, z1_, h2_, hF⟩ := Ybs hF
    refine YcallVi (rest := []) S hw (c_X0_has hdj hzz hx1 h2_) my_X0_has mi_X0_has ml_X10_160 zd_33 zc_X0 rfl (Zrr hR (by decide)) ⟨Nat.zero_le _, Nat.zero_le _⟩ hl.1 rfl rfl (Nat.le_of_ble_eq_true rfl) dX10_handed_5 (fun hrr3_ hzz1_ H locs hw => ?_)
    refine Yif_ne (tgt := 17) S hrr3_ dX10_handed_8 (by decide) (fun c4_ => ?_) (fun c4_ => ?_)
    · replace hF := ZtN c4_ hF
      refine lv_aload_n S.1 S.2.1 dX10_handed_17 rfl (lv_at hl 0 rfl) ?_
      refine gf_X10_41 S hw dX10_handed_18 ?_
      refine lv_iload_n S.1 S.2.1 dX10_handed_21 rfl (lv_at hl 1 rfl) ?_
      obtain ⟨r7_, z5_, h6_, hF⟩ := Ybs hF
      refine YcallVi (rest := []) S hw (c_X0_isEnded hdj hzz1_ hx1 h6_) my_X0_isEnded mi_X0_isEnded ml_X10_163 zd_33 zc_X0 rfl (Zrr hR (by decide)) ⟨Nat.zero_le _, Nat.zero_le _⟩ hl.1 rfl rfl (Nat.le_of_ble_eq_true rfl) dX10_handed_22 (fun hrr7_ hzz5_ H locs hw => ?_)
      refine Yif_eq (tgt := 35) S hrr7_ dX10_handed_25 (by decide) (fun c8_ => ?_) (fun c8_ => ?_)
      · replace hF := ZtP c8_ hF
        refine lv_iload_n S.1 S.2.1 dX10_handed_35 rfl (lv_at hl 2 rfl) ?_
        refine lv_iconst (v := i32 1) S.1 S.2.1 dX10_handed_36 ic_1 ?_
        refine Yicmp_lt (tgt := 44) S hx2 r_1 dX10_handed_37 (by decide) (fun c9_ => ?_) (fun c9_ => ?_)
        · replace hF := ZtP c9_ hF
          exact w_X10_handed_b44 S hr hlk hR hdj _ _ _ _ hF hw hzz5_  (lv_sub hl [0] rfl)
        · replace hF := ZtN c9_ hF
          refine lv_iload_n S.1 S.2.1 dX10_handed_40 rfl (lv_at hl 3 rfl) ?_
          refine Yif_ge (tgt := 51) S hx3 dX10_handed_41 (by decide) (fun c10_ => ?_) (fun c10_ => ?_)
          · replace hF := ZtP c10_ hF
            refine lv_iload_n S.1 S.2.1 dX10_handed_51 rfl (lv_at hl 2 rfl) ?_
            refine lv_sipush (v := i32 9999) S.1 S.2.1 dX10_handed_52 sp_9999 ?_
            refine Yicmp_gt (tgt := 77) S hx2 r_9999 dX10_handed_55 (by decide) (fun c11_ => ?_) (fun c11_ => ?_)
            · replace hF := ZtP c11_ hF
              exact w_X10_handed_b77 S hr hlk hR hdj _ _ _ _ hF hw hzz5_  (lv_sub hl [0] rfl)
            · replace hF := ZtN c11_ hF
              refine lv_iload_n S.1 S.2.1 dX10_handed_58 rfl (lv_at hl 3 rfl) ?_
              refine lv_sipush (v := i32 9999) S.1 S.2.1 dX10_handed_59 sp_9999 ?_
              refine Yicmp_gt (tgt := 77) S hx3 r_9999 dX10_handed_62 (by decide) (fun c12_ => ?_) (fun c12_ => ?_)
              · replace hF := ZtP c12_ hF
                exact w_X10_handed_b77 S hr hlk hR hdj _ _ _ _ hF hw hzz5_  (lv_sub hl [0] rfl)
              · replace hF := ZtN c12_ hF
                refine lv_aload_n S.1 S.2.1 dX10_handed_65 rfl (lv_at hl 0 rfl) ?_
                refine gf_X10_48 S hw dX10_handed_66 ?_
                refine gg_X10_191 S hw dX10_handed_69 ?_
                refine lv_bipush (v := i32 60) S.1 S.2.1 dX10_handed_72 bp_60 ?_
                refine Yicmp_lt (tgt := 84) S (hzz5_.1 37 0 (by decide)) r_60 dX10_handed_74 (by decide) (fun c13_ => ?_) (fun c13_ => ?_)
                · replace hF := ZtP c13_ hF
                  refine lv_aload_n S.1 S.2.1 dX10_handed_84 rfl (lv_at hl 0 rfl) ?_
                  refine gf_X10_48 S hw dX10_handed_85 ?_
                  refine lv_aload_n S.1 S.2.1 dX10_handed_88 rfl (lv_at hl 0 rfl) ?_
                  refine gg_X10_7 S hw dX10_handed_89 ?_
                  refine lv_iload_n S.1 S.2.1 dX10_handed_92 rfl (lv_at hl 2 rfl) ?_
                  refine lv_iload_n S.1 S.2.1 dX10_handed_93 rfl (lv_at hl 3 rfl) ?_
                  obtain ⟨r16_, z14_, h15_, hF⟩ := Ybs hF
                  refine YcallVi (rest := []) S hw (c_X8_note hdj hzz5_ (hzz5_.1 0 0 (by decide)) hx2 hx3 h15_) my_X8_note mi_X8_note ml_X10_192 zd_37 zc_X8 rfl (Zrr hR (by decide)) ⟨Nat.zero_le _, Nat.zero_le _⟩ hl.1 rfl rfl (Nat.le_of_ble_eq_true rfl) dX10_handed_94 (fun hrr16_ hzz14_ H locs hw => ?_)
                  exact Yireti S hw hzz14_ hrr16_ hr hlk hF dX10_handed_97
                · replace hF := ZtN c13_ hF
                  exact w_X10_handed_b77 S hr hlk hR hdj _ _ _ _ hF hw hzz5_  (lv_sub hl [0] rfl)
          · replace hF := ZtN c10_ hF
            exact w_X10_handed_b44 S hr hlk hR hdj _ _ _ _ hF hw hzz5_  (lv_sub hl [0] rfl)
      · replace hF := ZtN c8_ hF
        refine lv_aload_n S.1 S.2.1 dX10_handed_28 rfl (lv_at hl 0 rfl) ?_
        refine lv_bipush (v := i32 (-3)) S.1 S.2.1 dX10_handed_29 bp_m3 ?_
        obtain ⟨r19_, z17_, h18_, hF⟩ := Ybs hF
        refine YcallVi (rest := []) S hw (c_X10_refuse hdj hzz5_ r_m3 h18_) my_X10_refuse mi_X10_refuse ml_X10_81 zd_0 zc_X10 rfl (Zrr hR (by decide)) ⟨Nat.zero_le _, Nat.zero_le _⟩ hl.1 rfl rfl (Nat.le_of_ble_eq_true rfl) dX10_handed_31 (fun hrr19_ hzz17_ H locs hw => ?_)
        exact Yireti S hw hzz17_ hrr19_ hr hlk hF dX10_handed_34
    · replace hF := ZtP c4_ hF
      refine lv_aload_n S.1 S.2.1 dX10_handed_11 rfl (lv_at hl 0 rfl) ?_
      refine lv_iconst (v := i32 (-1)) S.1 S.2.1 dX10_handed_12 ic_m1 ?_
      obtain ⟨r22_, z20_, h21_, hF⟩ := Ybs hF
      refine YcallVi (rest := []) S hw (c_X10_refuse hdj hzz1_ r_m1 h21_) my_X10_refuse mi_X10_refuse ml_X10_81 zd_0 zc_X10 rfl (Zrr hR (by decide)) ⟨Nat.zero_le _, Nat.zero_le _⟩ hl.1 rfl rfl (Nat.le_of_ble_eq_true rfl) dX10_handed_13 (fun hrr22_ hzz20_ H locs hw => ?_)
      exact Yireti S hw hzz20_ hrr22_ hr hlk hF dX10_handed_16)
set_option maxRecDepth 100000 in
set_option maxHeartbeats 4000000 in
theorem c_X4_raise {l : Launch} {D : va_G} {cA : Nat → ClassId} {ad : Nat → Nat} (hdj : Zdj ad) {z z1 : ZI} {x1 : Int} {x2 : Int} {r : Int} (hzz : Zok z) (hx1 : InR x1) (hx2 : InR x2) (hF : F_X4_raise z x1 x2 = some (r, z1)) : YMi l D cA ad (0) yX4_raise cX4_raise 4 (some .int) [.ref (ad 2), .int (i32 x1), .int (i32 x2)] z r z1 :=
  Zmet hdj (by decide) rfl (Nat.le_of_ble_eq_true rfl) (lv := [(0, .ref (ad 2)), (1, .int (i32 (x1))), (2, .int (i32 (x2)))]) rfl (fun p e s m args below meth c ls S hr hlk hw hl => by
    have hR : 0 ≤ (Zrm (0)).frames ∧ 60 * (0) ≤ (Zrm (0)).locals := ⟨Nat.le_refl _, Nat.le_refl _⟩
    unfold F_X4_raise at hF
    revert hR
    generalize Zrm (0) = R
    intro hR
    refine lv_aload_n S.1 S.2.1 dX4_raise_0 rfl (lv_at hl 0 rfl) ?_
    refine gf_X4_9 S hw dX4_raise_1 ?_
    refine lv_iload_n S.1 S.2.1 dX4_raise_4 rfl (lv_at hl 1 rfl) ?_
    obtain ⟨b1_, hF⟩ := Zgs hF
    refine Yiald S hw zd_3 (by decide) hx1 b1_ dX4_raise_5 ?_
    refine lv_istore_n (lv' := [(3, .int (i32 (z 3 x1))), (0, .ref (ad 2)), (1, .int (i32 (x1))), (2, .int (i32 (x2)))]) S.1 S.2.1 dX4_raise_6 rfl hl (by decide) rfl (fun ls hl => ?_)
    refine lv_aload_n S.1 S.2.1 dX4_raise_7 rfl (lv_at hl 1 rfl) ?_
    refine gf_X4_9 S hw dX4_raise_8 ?_
    refine lv_iload_n S.1 S.2.1 dX4_raise_11 rfl (lv_at hl 2 rfl) ?_
    refine lv_iload_n S.1 S.2.1 dX4_raise_12 rfl (lv_at hl 3 rfl) ?_
    obtain ⟨b2_, hF⟩ := Zgs hF
    refine Yiast S hw hzz zd_3 (by decide) hx1 hx2 b2_ dX4_raise_13 (fun z3_ H locs ez hzz3_ hw => ?_)
    replace hF := Zle ez hF; clear ez
    refine lv_aload_n S.1 S.2.1 dX4_raise_14 rfl (lv_at hl 1 rfl) ?_
    refine lv_iconst (v := i32 0) S.1 S.2.1 dX4_raise_15 ic_0 ?_
    refine pp_X4_49 S hw hzz3_ r_0 (Or.inl rfl) dX4_raise_16 (fun z4_ H locs ez hzz4_ hw => ?_)
    replace hF := Zle ez hF; clear ez
    refine lv_iload_n S.1 S.2.1 dX4_raise_19 rfl (lv_at hl 0 rfl) ?_
    exact Yireti S hw hzz4_ (hzz.1 _ _ (by decide)) hr hlk hF dX4_raise_20)
set_option maxRecDepth 100000 in
set_option maxHeartbeats 4000000 in
theorem c_X10_height {l : Launch} {D : va_G} {cA : Nat → ClassId} {ad : Nat → Nat} (hdj : Zdj ad) {z z1 : ZI} {x1 : Int} {x2 : Int} {r : Int} (hzz : Zok z) (hx1 : InR x1) (hx2 : InR x2) (hF : F_X10_height z x1 x2 = some (r, z1)) : YMi l D cA ad (1) yX10_height cX10_height 4 (some .int) [.ref (ad 0), .int (i32 x1), .int (i32 x2)] z r z1 :=
  Zmet hdj (by decide) rfl (Nat.le_of_ble_eq_true rfl) (lv := [(0, .ref (ad 0)), (1, .int (i32 (x1))), (2, .int (i32 (x2)))]) rfl (fun p e s m args below meth c ls S hr hlk hw hl => by
    have hR : 1 ≤ (Zrm (1)).frames ∧ 60 * (1) ≤ (Zrm (1)).locals := ⟨Nat.le_refl _, Nat.le_refl _⟩
    unfold F_X10_height at hF
    revert hR
    generalize Zrm (1) = R
    intro hR
    refine lv_iload_n S.1 S.2.1 dX10_height_0 rfl (lv_at hl 1 rfl) ?_
    obtain ⟨r3_, z1_, h2_, hF⟩ := Ybs hF
    refine YcallSi (rest := []) S hw (c_X10_isCell hdj hzz hx1 h2_) my_X10_isCell ms_X10_isCell ml_X10_89 (Zrr hR (by decide)) ⟨Nat.zero_le _, Nat.zero_le _⟩ hl.1 rfl rfl (Nat.le_of_ble_eq_true rfl) dX10_height_1 (fun hrr3_ hzz1_ H locs hw => ?_)
    refine Yif_ne (tgt := 13) S hrr3_ dX10_height_4 (by decide) (fun c4_ => ?_) (fun c4_ => ?_)
    · replace hF := ZtN c4_ hF
      refine lv_iload_n S.1 S.2.1 dX10_height_13 rfl (lv_at hl 2 rfl) ?_
      refine lv_iconst (v := i32 0) S.1 S.2.1 dX10_height_14 ic_0 ?_
      refine lv_bipush (v := i32 99) S.1 S.2.1 dX10_height_15 bp_99 ?_
      obtain ⟨r7_, z5_, h6_, hF⟩ := Ybs hF
      refine YcallSi (rest := []) S hw (c_X10_checkRange hdj hzz1_ hx2 r_0 r_99 h6_) my_X10_checkRange ms_X10_checkRange ml_X10_85 (Zrr hR (by decide)) ⟨Nat.zero_le _, Nat.zero_le _⟩ hl.1 rfl rfl (Nat.le_of_ble_eq_true rfl) dX10_height_17 (fun hrr7_ hzz5_ H locs hw => ?_)
      refine lv_istore_n (lv' := [(3, .int (i32 (r7_))), (0, .ref (ad 0)), (1, .int (i32 (x1))), (2, .int (i32 (x2)))]) S.1 S.2.1 dX10_height_20 rfl hl (by decide) rfl (fun ls hl => ?_)
      refine lv_iload_n S.1 S.2.1 dX10_height_21 rfl (lv_at hl 0 rfl) ?_
      refine Yif_eq (tgt := 31) S hrr7_ dX10_height_22 (by decide) (fun c8_ => ?_) (fun c8_ => ?_)
      · replace hF := ZtP c8_ hF
        refine lv_aload_n S.1 S.2.1 dX10_height_31 rfl (lv_at hl 1 rfl) ?_
        refine gf_X10_20 S hw dX10_height_32 ?_
        refine lv_iload_n S.1 S.2.1 dX10_height_35 rfl (lv_at hl 2 rfl) ?_
        refine lv_iload_n S.1 S.2.1 dX10_height_36 rfl (lv_at hl 3 rfl) ?_
        obtain ⟨r11_, z9_, h10_, hF⟩ := Ybs hF
        refine YcallVi (rest := []) S hw (c_X4_raise hdj hzz5_ hx1 hx2 h10_) my_X4_raise mi_X4_raise ml_X10_93 zd_2 zc_X4 rfl (Zrr hR (by decide)) ⟨Nat.zero_le _, Nat.zero_le _⟩ hl.1 rfl rfl (Nat.le_of_ble_eq_true rfl) dX10_height_37 (fun hrr11_ hzz9_ H locs hw => ?_)
        exact Yireti S hw hzz9_ hrr11_ hr hlk hF dX10_height_40
      · replace hF := ZtN c8_ hF
        refine lv_aload_n S.1 S.2.1 dX10_height_25 rfl (lv_at hl 1 rfl) ?_
        refine lv_iload_n S.1 S.2.1 dX10_height_26 rfl (lv_at hl 0 rfl) ?_
        obtain ⟨r14_, z12_, h13_, hF⟩ := Ybs hF
        refine YcallVi (rest := []) S hw (c_X10_refuse hdj hzz5_ hrr7_ h13_) my_X10_refuse mi_X10_refuse ml_X10_81 zd_0 zc_X10 rfl (Zrr hR (by decide)) ⟨Nat.zero_le _, Nat.zero_le _⟩ hl.1 rfl rfl (Nat.le_of_ble_eq_true rfl) dX10_height_27 (fun hrr14_ hzz12_ H locs hw => ?_)
        exact Yireti S hw hzz12_ hrr14_ hr hlk hF dX10_height_30
    · replace hF := ZtP c4_ hF
      refine lv_aload_n S.1 S.2.1 dX10_height_7 rfl (lv_at hl 0 rfl) ?_
      refine lv_iconst (v := i32 (-1)) S.1 S.2.1 dX10_height_8 ic_m1 ?_
      obtain ⟨r17_, z15_, h16_, hF⟩ := Ybs hF
      refine YcallVi (rest := []) S hw (c_X10_refuse hdj hzz1_ r_m1 h16_) my_X10_refuse mi_X10_refuse ml_X10_81 zd_0 zc_X10 rfl (Zrr hR (by decide)) ⟨Nat.zero_le _, Nat.zero_le _⟩ hl.1 rfl rfl (Nat.le_of_ble_eq_true rfl) dX10_height_9 (fun hrr17_ hzz15_ H locs hw => ?_)
      exact Yireti S hw hzz15_ hrr17_ hr hlk hF dX10_height_12)
set_option maxRecDepth 100000 in
set_option maxHeartbeats 4000000 in
theorem w_X10_here_b47 {RR : Int × ZI} (S : CallFix p m c cX10_here 4 s args Ztbl RX10) (hr : meth.sig.returnType = some .int) (hlk : meth.locks = false) (hR : 3 ≤ R.frames ∧ 60 * (3) ≤ R.locals) (hdj : Zdj ad) : ∀ (z : ZI) (y0 : Int) (H : Heap) (locs : List Loc) (ls : Array Slot), X10_here_b47 z y0 = some RR → ZW D cA ad (ZA ad) (Zc z) s H locs → Zok z → InR y0 → lv_has ls 4 [] → W p l e R s m args below meth c H locs 0 0 (MQ below (YQi D cA ad RR.1 RR.2) args s 0 0 (ZA ad)) (F0 m 47 ls [.int (i32 (y0))]) := by
  intro z y0 H locs ls hF hw hzz hy0 hl
  unfold X10_here_b47 at hF
  exact Yireti S hw hzz hy0 hr hlk hF dX10_here_47
set_option maxRecDepth 100000 in
set_option maxHeartbeats 4000000 in
theorem c_X10_here {l : Launch} {D : va_G} {cA : Nat → ClassId} {ad : Nat → Nat} (hdj : Zdj ad) {z z1 : ZI} {x1 : Int} {x2 : Int} {r : Int} (hzz : Zok z) (hx1 : InR x1) (hx2 : InR x2) (hF : F_X10_here z x1 x2 = some (r, z1)) : YMi l D cA ad (3) yX10_here cX10_here 4 (some .int) [.ref (ad 0), .int (i32 x1), .int (i32 x2)] z r z1 :=
  Zmet hdj (by decide) rfl (Nat.le_of_ble_eq_true rfl) (lv := [(0, .ref (ad 0)), (1, .int (i32 (x1))), (2, .int (i32 (x2)))]) rfl (fun p e s m args below meth c ls S hr hlk hw hl => by
    have hR : 3 ≤ (Zrm (3)).frames ∧ 60 * (3) ≤ (Zrm (3)).locals := ⟨Nat.le_refl _, Nat.le_refl _⟩
    unfold F_X10_here at hF
    revert hR
    generalize Zrm (3) = R
    intro hR
    refine lv_aload_n S.1 S.2.1 dX10_here_0 rfl (lv_at hl 0 rfl) ?_
    refine gf_X10_27 S hw dX10_here_1 ?_
    refine lv_iload_n S.1 S.2.1 dX10_here_4 rfl (lv_at hl 1 rfl) ?_
    obtain ⟨r3_, z1_, h2_, hF⟩ := Ybs hF
    refine YcallVi (rest := []) S hw (c_X3_hasHouse hdj hzz hx1 h2_) my_X3_hasHouse mi_X3_hasHouse ml_X10_115 zd_11 zc_X3 rfl (Zrr hR (by decide)) ⟨Nat.zero_le _, Nat.zero_le _⟩ hl.1 rfl rfl (Nat.le_of_ble_eq_true rfl) dX10_here_5 (fun hrr3_ hzz1_ H locs hw => ?_)
    refine Yif_ne (tgt := 17) S hrr3_ dX10_here_8 (by decide) (fun c4_ => ?_) (fun c4_ => ?_)
    · replace hF := ZtN c4_ hF
      refine lv_iload_n S.1 S.2.1 dX10_here_17 rfl (lv_at hl 2 rfl) ?_
      refine lv_iconst (v := i32 0) S.1 S.2.1 dX10_here_18 ic_0 ?_
      refine lv_sipush (v := i32 999) S.1 S.2.1 dX10_here_19 sp_999 ?_
      obtain ⟨r7_, z5_, h6_, hF⟩ := Ybs hF
      refine YcallSi (rest := []) S hw (c_X10_checkRange hdj hzz1_ hx2 r_0 r_999 h6_) my_X10_checkRange ms_X10_checkRange ml_X10_85 (Zrr hR (by decide)) ⟨Nat.zero_le _, Nat.zero_le _⟩ hl.1 rfl rfl (Nat.le_of_ble_eq_true rfl) dX10_here_22 (fun hrr7_ hzz5_ H locs hw => ?_)
      refine lv_istore_n (lv' := [(3, .int (i32 (r7_))), (0, .ref (ad 0)), (1, .int (i32 (x1))), (2, .int (i32 (x2)))]) S.1 S.2.1 dX10_here_25 rfl hl (by decide) rfl (fun ls hl => ?_)
      refine lv_iload_n S.1 S.2.1 dX10_here_26 rfl (lv_at hl 0 rfl) ?_
      refine Yif_ne (tgt := 42) S hrr7_ dX10_here_27 (by decide) (fun c8_ => ?_) (fun c8_ => ?_)
      · replace hF := ZtN c8_ hF
        refine lv_aload_n S.1 S.2.1 dX10_here_42 rfl (lv_at hl 1 rfl) ?_
        refine lv_iload_n S.1 S.2.1 dX10_here_43 rfl (lv_at hl 0 rfl) ?_
        obtain ⟨r11_, z9_, h10_, hF⟩ := Ybs hF
        refine YcallVi (rest := []) S hw (c_X10_refuse hdj hzz5_ hrr7_ h10_) my_X10_refuse mi_X10_refuse ml_X10_81 zd_0 zc_X10 rfl (Zrr hR (by decide)) ⟨Nat.zero_le _, Nat.zero_le _⟩ hl.1 rfl rfl (Nat.le_of_ble_eq_true rfl) dX10_here_44 (fun hrr11_ hzz9_ H locs hw => ?_)
        exact w_X10_here_b47 S hr hlk hR hdj _ _ _ _ _ hF hw hzz9_ hrr11_ (lv_sub hl [] rfl)
      · replace hF := ZtP c8_ hF
        refine lv_aload_n S.1 S.2.1 dX10_here_30 rfl (lv_at hl 1 rfl) ?_
        refine gf_X10_27 S hw dX10_here_31 ?_
        refine lv_iload_n S.1 S.2.1 dX10_here_34 rfl (lv_at hl 2 rfl) ?_
        refine lv_iload_n S.1 S.2.1 dX10_here_35 rfl (lv_at hl 3 rfl) ?_
        obtain ⟨r14_, z12_, h13_, hF⟩ := Ybs hF
        refine YcallVi (rest := []) S hw (c_X3_hereInHouse hdj hzz5_ hx1 hx2 h13_) my_X3_hereInHouse mi_X3_hereInHouse ml_X10_138 zd_11 zc_X3 rfl (Zrr hR (by decide)) ⟨Nat.zero_le _, Nat.zero_le _⟩ hl.1 rfl rfl (Nat.le_of_ble_eq_true rfl) dX10_here_36 (fun hrr14_ hzz12_ H locs hw => ?_)
        refine lv_goto (tgt := 47) S.1 S.2.1 dX10_here_39 (by decide) ?_
        exact w_X10_here_b47 S hr hlk hR hdj _ _ _ _ _ hF hw hzz12_ hrr14_ (lv_sub hl [] rfl)
    · replace hF := ZtP c4_ hF
      refine lv_aload_n S.1 S.2.1 dX10_here_11 rfl (lv_at hl 0 rfl) ?_
      refine lv_iconst (v := i32 (-1)) S.1 S.2.1 dX10_here_12 ic_m1 ?_
      obtain ⟨r17_, z15_, h16_, hF⟩ := Ybs hF
      refine YcallVi (rest := []) S hw (c_X10_refuse hdj hzz1_ r_m1 h16_) my_X10_refuse mi_X10_refuse ml_X10_81 zd_0 zc_X10 rfl (Zrr hR (by decide)) ⟨Nat.zero_le _, Nat.zero_le _⟩ hl.1 rfl rfl (Nat.le_of_ble_eq_true rfl) dX10_here_13 (fun hrr17_ hzz15_ H locs hw => ?_)
      exact Yireti S hw hzz15_ hrr17_ hr hlk hF dX10_here_16)
set_option maxRecDepth 100000 in
set_option maxHeartbeats 4000000 in
theorem c_X3_addHouse {l : Launch} {D : va_G} {cA : Nat → ClassId} {ad : Nat → Nat} (hdj : Zdj ad) {z z1 : ZI} {x1 : Int} {x2 : Int} {r : Int} (hzz : Zok z) (hx1 : InR x1) (hx2 : InR x2) (hF : F_X3_addHouse z x1 x2 = some (r, z1)) : YMi l D cA ad (0) yX3_addHouse cX3_addHouse 3 (some .int) [.ref (ad 11), .int (i32 x1), .int (i32 x2)] z r z1 :=
  Zmet hdj (by decide) rfl (Nat.le_of_ble_eq_true rfl) (lv := [(0, .ref (ad 11)), (1, .int (i32 (x1))), (2, .int (i32 (x2)))]) rfl (fun p e s m args below meth c ls S hr hlk hw hl => by
    have hR : 0 ≤ (Zrm (0)).frames ∧ 60 * (0) ≤ (Zrm (0)).locals := ⟨Nat.le_refl _, Nat.le_refl _⟩
    unfold F_X3_addHouse at hF
    revert hR
    generalize Zrm (0) = R
    intro hR
    refine lv_aload_n S.1 S.2.1 dX3_addHouse_0 rfl (lv_at hl 0 rfl) ?_
    refine gf_X3_9 S hw dX3_addHouse_1 ?_
    refine lv_aload_n S.1 S.2.1 dX3_addHouse_4 rfl (lv_at hl 0 rfl) ?_
    refine gg_X3_55 S hw dX3_addHouse_5 ?_
    refine lv_iload_n S.1 S.2.1 dX3_addHouse_8 rfl (lv_at hl 1 rfl) ?_
    obtain ⟨b1_, hF⟩ := Zgs hF
    refine Yiast S hw hzz zd_12 (by decide) (hzz.1 11 0 (by decide)) hx1 b1_ dX3_addHouse_9 (fun z2_ H locs ez hzz2_ hw => ?_)
    replace hF := Zle ez hF; clear ez
    refine lv_aload_n S.1 S.2.1 dX3_addHouse_10 rfl (lv_at hl 0 rfl) ?_
    refine gf_X3_15 S hw dX3_addHouse_11 ?_
    refine lv_aload_n S.1 S.2.1 dX3_addHouse_14 rfl (lv_at hl 0 rfl) ?_
    refine gg_X3_55 S hw dX3_addHouse_15 ?_
    refine lv_iload_n S.1 S.2.1 dX3_addHouse_18 rfl (lv_at hl 2 rfl) ?_
    obtain ⟨b3_, hF⟩ := Zgs hF
    refine Yiast S hw hzz2_ zd_13 (by decide) (hzz2_.1 11 0 (by decide)) hx2 b3_ dX3_addHouse_19 (fun z4_ H locs ez hzz4_ hw => ?_)
    replace hF := Zle ez hF; clear ez
    refine lv_aload_n S.1 S.2.1 dX3_addHouse_20 rfl (lv_at hl 0 rfl) ?_
    refine gf_X3_18 S hw dX3_addHouse_21 ?_
    refine lv_iload_n S.1 S.2.1 dX3_addHouse_24 rfl (lv_at hl 1 rfl) ?_
    refine lv_aload_n S.1 S.2.1 dX3_addHouse_25 rfl (lv_at hl 0 rfl) ?_
    refine gg_X3_55 S hw dX3_addHouse_26 ?_
    obtain ⟨b5_, hF⟩ := Zgs hF
    refine Yiast S hw hzz4_ zd_14 (by decide) hx1 (hzz4_.1 11 0 (by decide)) b5_ dX3_addHouse_29 (fun z6_ H locs ez hzz6_ hw => ?_)
    replace hF := Zle ez hF; clear ez
    refine lv_aload_n S.1 S.2.1 dX3_addHouse_30 rfl (lv_at hl 0 rfl) ?_
    refine lv_dup S.1 S.2.1 dX3_addHouse_31 rfl ?_
    refine gg_X3_55 S hw dX3_addHouse_32 ?_
    refine lv_dup_x1 S.1 S.2.1 dX3_addHouse_35 rfl rfl ?_
    refine lv_iconst (v := i32 1) S.1 S.2.1 dX3_addHouse_36 ic_1 ?_
    obtain ⟨g7_, hF⟩ := Zgs hF
    refine Yiadd S dX3_addHouse_37 ?_
    refine pp_X3_55 S hw hzz6_ g7_ dX3_addHouse_38 (fun z8_ H locs ez hzz8_ hw => ?_)
    replace hF := Zle ez hF; clear ez
    exact Yireti S hw hzz8_ (hzz6_.1 11 0 (by decide)) hr hlk hF dX3_addHouse_41)
set_option maxRecDepth 100000 in
set_option maxHeartbeats 4000000 in
theorem c_X3_houseAt {l : Launch} {D : va_G} {cA : Nat → ClassId} {ad : Nat → Nat} (hdj : Zdj ad) {z z1 : ZI} {x1 : Int} {r : Int} (hzz : Zok z) (hx1 : InR x1) (hF : F_X3_houseAt z x1 = some (r, z1)) : YMi l D cA ad (0) yX3_houseAt cX3_houseAt 2 (some .int) [.ref (ad 11), .int (i32 x1)] z r z1 :=
  Zmet hdj (by decide) rfl (Nat.le_of_ble_eq_true rfl) (lv := [(0, .ref (ad 11)), (1, .int (i32 (x1)))]) rfl (fun p e s m args below meth c ls S hr hlk hw hl => by
    have hR : 0 ≤ (Zrm (0)).frames ∧ 60 * (0) ≤ (Zrm (0)).locals := ⟨Nat.le_refl _, Nat.le_refl _⟩
    unfold F_X3_houseAt at hF
    revert hR
    generalize Zrm (0) = R
    intro hR
    refine lv_aload_n S.1 S.2.1 dX3_houseAt_0 rfl (lv_at hl 0 rfl) ?_
    refine gf_X3_18 S hw dX3_houseAt_1 ?_
    refine lv_iload_n S.1 S.2.1 dX3_houseAt_4 rfl (lv_at hl 1 rfl) ?_
    obtain ⟨b1_, hF⟩ := Zgs hF
    refine Yiald S hw zd_14 (by decide) hx1 b1_ dX3_houseAt_5 ?_
    exact Yireti S hw hzz (hzz.1 _ _ (by decide)) hr hlk hF dX3_houseAt_6)
set_option maxRecDepth 100000 in
set_option maxHeartbeats 4000000 in
theorem w_X10_house_b14 {RR : Int × ZI} (S : CallFix p m c cX10_house 3 s args Ztbl RX10) (hr : meth.sig.returnType = some .int) (hlk : meth.locks = false) (hR : 1 ≤ R.frames ∧ 60 * (1) ≤ R.locals) (hdj : Zdj ad) : ∀ (z : ZI) (H : Heap) (locs : List Loc) (ls : Array Slot), X10_house_b14 z  = some RR → ZW D cA ad (ZA ad) (Zc z) s H locs → Zok z → lv_has ls 3 [(0, .ref (ad 0))] → W p l e R s m args below meth c H locs 0 0 (MQ below (YQi D cA ad RR.1 RR.2) args s 0 0 (ZA ad)) (F0 m 14 ls []) := by
  intro z  H locs ls hF hw hzz  hl
  unfold X10_house_b14 at hF
  refine lv_aload_n S.1 S.2.1 dX10_house_14 rfl (lv_at hl 0 rfl) ?_
  refine lv_iconst (v := i32 (-1)) S.1 S.2.1 dX10_house_15 ic_m1 ?_
  obtain ⟨r3_, z1_, h2_, hF⟩ := Ybs hF
  refine YcallVi (rest := []) S hw (c_X10_refuse hdj hzz r_m1 h2_) my_X10_refuse mi_X10_refuse ml_X10_81 zd_0 zc_X10 rfl (Zrr hR (by decide)) ⟨Nat.zero_le _, Nat.zero_le _⟩ hl.1 rfl rfl (Nat.le_of_ble_eq_true rfl) dX10_house_16 (fun hrr3_ hzz1_ H locs hw => ?_)
  exact Yireti S hw hzz1_ hrr3_ hr hlk hF dX10_house_19
set_option maxRecDepth 100000 in
set_option maxHeartbeats 4000000 in
theorem c_X10_house {l : Launch} {D : va_G} {cA : Nat → ClassId} {ad : Nat → Nat} (hdj : Zdj ad) {z z1 : ZI} {x1 : Int} {x2 : Int} {r : Int} (hzz : Zok z) (hx1 : InR x1) (hx2 : InR x2) (hF : F_X10_house z x1 x2 = some (r, z1)) : YMi l D cA ad (1) yX10_house cX10_house 3 (some .int) [.ref (ad 0), .int (i32 x1), .int (i32 x2)] z r z1 :=
  Zmet hdj (by decide) rfl (Nat.le_of_ble_eq_true rfl) (lv := [(0, .ref (ad 0)), (1, .int (i32 (x1))), (2, .int (i32 (x2)))]) rfl (fun p e s m args below meth c ls S hr hlk hw hl => by
    have hR : 1 ≤ (Zrm (1)).frames ∧ 60 * (1) ≤ (Zrm (1)).locals := ⟨Nat.le_refl _, Nat.le_refl _⟩
    unfold F_X10_house at hF
    revert hR
    generalize Zrm (1) = R
    intro hR
    refine lv_iload_n S.1 S.2.1 dX10_house_0 rfl (lv_at hl 1 rfl) ?_
    obtain ⟨r3_, z1_, h2_, hF⟩ := Ybs hF
    refine YcallSi (rest := []) S hw (c_X10_isCell hdj hzz hx1 h2_) my_X10_isCell ms_X10_isCell ml_X10_89 (Zrr hR (by decide)) ⟨Nat.zero_le _, Nat.zero_le _⟩ hl.1 rfl rfl (Nat.le_of_ble_eq_true rfl) dX10_house_1 (fun hrr3_ hzz1_ H locs hw => ?_)
    refine Yif_eq (tgt := 14) S hrr3_ dX10_house_4 (by decide) (fun c4_ => ?_) (fun c4_ => ?_)
    · replace hF := ZtP c4_ hF
      exact w_X10_house_b14 S hr hlk hR hdj _ _ _ _ hF hw hzz1_  (lv_sub hl [0] rfl)
    · replace hF := ZtN c4_ hF
      refine lv_iload_n S.1 S.2.1 dX10_house_7 rfl (lv_at hl 2 rfl) ?_
      obtain ⟨r7_, z5_, h6_, hF⟩ := Ybs hF
      refine YcallSi (rest := []) S hw (c_X10_isBlock hdj hzz1_ hx2 h6_) my_X10_isBlock ms_X10_isBlock ml_X10_100 (Zrr hR (by decide)) ⟨Nat.zero_le _, Nat.zero_le _⟩ hl.1 rfl rfl (Nat.le_of_ble_eq_true rfl) dX10_house_8 (fun hrr7_ hzz5_ H locs hw => ?_)
      refine Yif_ne (tgt := 20) S hrr7_ dX10_house_11 (by decide) (fun c8_ => ?_) (fun c8_ => ?_)
      · replace hF := ZtN c8_ hF
        refine lv_aload_n S.1 S.2.1 dX10_house_20 rfl (lv_at hl 0 rfl) ?_
        refine gf_X10_27 S hw dX10_house_21 ?_
        refine lv_iload_n S.1 S.2.1 dX10_house_24 rfl (lv_at hl 1 rfl) ?_
        obtain ⟨r11_, z9_, h10_, hF⟩ := Ybs hF
        refine YcallVi (rest := []) S hw (c_X3_houseAt hdj hzz5_ hx1 h10_) my_X3_houseAt mi_X3_houseAt ml_X10_103 zd_11 zc_X3 rfl (Zrr hR (by decide)) ⟨Nat.zero_le _, Nat.zero_le _⟩ hl.1 rfl rfl (Nat.le_of_ble_eq_true rfl) dX10_house_25 (fun hrr11_ hzz9_ H locs hw => ?_)
        refine lv_bipush (v := i32 (-9)) S.1 S.2.1 dX10_house_28 bp_m9 ?_
        refine Yicmp_eq (tgt := 40) S hrr11_ r_m9 dX10_house_30 (by decide) (fun c12_ => ?_) (fun c12_ => ?_)
        · replace hF := ZtP c12_ hF
          refine lv_aload_n S.1 S.2.1 dX10_house_40 rfl (lv_at hl 0 rfl) ?_
          refine gf_X10_27 S hw dX10_house_41 ?_
          refine gg_X10_106 S hw dX10_house_44 ?_
          refine lv_bipush (v := i32 30) S.1 S.2.1 dX10_house_47 bp_30 ?_
          refine Yicmp_lt (tgt := 59) S (hzz9_.1 11 0 (by decide)) r_30 dX10_house_49 (by decide) (fun c13_ => ?_) (fun c13_ => ?_)
          · replace hF := ZtP c13_ hF
            refine lv_aload_n S.1 S.2.1 dX10_house_59 rfl (lv_at hl 0 rfl) ?_
            refine gf_X10_55 S hw dX10_house_60 ?_
            obtain ⟨r16_, z14_, h15_, hF⟩ := Ybs hF
            refine YcallVv (rest := []) S hw (c_X9_forgetBest hdj hzz9_  h15_) my_X9_forgetBest mi_X9_forgetBest ml_X10_109 zd_41 zc_X9 rfl (Zrr hR (by decide)) ⟨Nat.zero_le _, Nat.zero_le _⟩ hl.1 rfl rfl (Nat.le_of_ble_eq_true rfl) dX10_house_63 (fun hzz14_ H locs hw => ?_)
            refine lv_aload_n S.1 S.2.1 dX10_house_66 rfl (lv_at hl 0 rfl) ?_
            refine gf_X10_27 S hw dX10_house_67 ?_
            refine lv_iload_n S.1 S.2.1 dX10_house_70 rfl (lv_at hl 1 rfl) ?_
            refine lv_iload_n S.1 S.2.1 dX10_house_71 rfl (lv_at hl 2 rfl) ?_
            obtain ⟨r19_, z17_, h18_, hF⟩ := Ybs hF
            refine YcallVi (rest := []) S hw (c_X3_addHouse hdj hzz14_ hx1 hx2 h18_) my_X3_addHouse mi_X3_addHouse ml_X10_112 zd_11 zc_X3 rfl (Zrr hR (by decide)) ⟨Nat.zero_le _, Nat.zero_le _⟩ hl.1 rfl rfl (Nat.le_of_ble_eq_true rfl) dX10_house_72 (fun hrr19_ hzz17_ H locs hw => ?_)
            exact Yireti S hw hzz17_ hrr19_ hr hlk hF dX10_house_75
          · replace hF := ZtN c13_ hF
            refine lv_aload_n S.1 S.2.1 dX10_house_52 rfl (lv_at hl 0 rfl) ?_
            refine lv_bipush (v := i32 (-6)) S.1 S.2.1 dX10_house_53 bp_m6 ?_
            obtain ⟨r22_, z20_, h21_, hF⟩ := Ybs hF
            refine YcallVi (rest := []) S hw (c_X10_refuse hdj hzz9_ r_m6 h21_) my_X10_refuse mi_X10_refuse ml_X10_81 zd_0 zc_X10 rfl (Zrr hR (by decide)) ⟨Nat.zero_le _, Nat.zero_le _⟩ hl.1 rfl rfl (Nat.le_of_ble_eq_true rfl) dX10_house_55 (fun hrr22_ hzz20_ H locs hw => ?_)
            exact Yireti S hw hzz20_ hrr22_ hr hlk hF dX10_house_58
        · replace hF := ZtN c12_ hF
          refine lv_aload_n S.1 S.2.1 dX10_house_33 rfl (lv_at hl 0 rfl) ?_
          refine lv_bipush (v := i32 (-3)) S.1 S.2.1 dX10_house_34 bp_m3 ?_
          obtain ⟨r25_, z23_, h24_, hF⟩ := Ybs hF
          refine YcallVi (rest := []) S hw (c_X10_refuse hdj hzz9_ r_m3 h24_) my_X10_refuse mi_X10_refuse ml_X10_81 zd_0 zc_X10 rfl (Zrr hR (by decide)) ⟨Nat.zero_le _, Nat.zero_le _⟩ hl.1 rfl rfl (Nat.le_of_ble_eq_true rfl) dX10_house_36 (fun hrr25_ hzz23_ H locs hw => ?_)
          exact Yireti S hw hzz23_ hrr25_ hr hlk hF dX10_house_39
      · replace hF := ZtP c8_ hF
        exact w_X10_house_b14 S hr hlk hR hdj _ _ _ _ hF hw hzz5_  (lv_sub hl [0] rfl))
set_option maxRecDepth 100000 in
set_option maxHeartbeats 4000000 in
theorem w_X10_isWind_b14 {RR : Int × ZI} (S : CallFix p m c cX10_isWind 1 s args Ztbl RX10) (hr : meth.sig.returnType = some .boolean) (hlk : meth.locks = false) (hR : 0 ≤ R.frames ∧ 60 * (0) ≤ R.locals) (hdj : Zdj ad) : ∀ (z : ZI) (y0 : Int) (H : Heap) (locs : List Loc) (ls : Array Slot), X10_isWind_b14 z y0 = some RR → ZW D cA ad (ZA ad) (Zc z) s H locs → Zok z → InR y0 → lv_has ls 1 [] → W p l e R s m args below meth c H locs 0 0 (MQ below (YQi D cA ad RR.1 RR.2) args s 0 0 (ZA ad)) (F0 m 14 ls [.int (i32 (y0))]) := by
  intro z y0 H locs ls hF hw hzz hy0 hl
  unfold X10_isWind_b14 at hF
  obtain ⟨b1_, hF⟩ := Zgs hF
  exact Yiretz S hw hzz hy0 hr hlk b1_ hF dX10_isWind_14
set_option maxRecDepth 100000 in
set_option maxHeartbeats 4000000 in
theorem w_X10_isWind_b13 {RR : Int × ZI} (S : CallFix p m c cX10_isWind 1 s args Ztbl RX10) (hr : meth.sig.returnType = some .boolean) (hlk : meth.locks = false) (hR : 0 ≤ R.frames ∧ 60 * (0) ≤ R.locals) (hdj : Zdj ad) : ∀ (z : ZI) (H : Heap) (locs : List Loc) (ls : Array Slot), X10_isWind_b13 z  = some RR → ZW D cA ad (ZA ad) (Zc z) s H locs → Zok z → lv_has ls 1 [] → W p l e R s m args below meth c H locs 0 0 (MQ below (YQi D cA ad RR.1 RR.2) args s 0 0 (ZA ad)) (F0 m 13 ls []) := by
  intro z  H locs ls hF hw hzz  hl
  unfold X10_isWind_b13 at hF
  refine lv_iconst (v := i32 0) S.1 S.2.1 dX10_isWind_13 ic_0 ?_
  exact w_X10_isWind_b14 S hr hlk hR hdj _ _ _ _ _ hF hw hzz r_0 (lv_sub hl [] rfl)
set_option maxRecDepth 100000 in
set_option maxHeartbeats 4000000 in
theorem c_X10_isWind {l : Launch} {D : va_G} {cA : Nat → ClassId} {ad : Nat → Nat} (hdj : Zdj ad) {z z1 : ZI} {x0 : Int} {r : Int} (hzz : Zok z) (hx0 : InR x0) (hF : F_X10_isWind z x0 = some (r, z1)) : YMi l D cA ad (0) yX10_isWind cX10_isWind 1 (some .boolean) [.int (i32 x0)] z r z1 :=
  Zmet hdj (by decide) rfl (Nat.le_of_ble_eq_true rfl) (lv := [(0, .int (i32 (x0)))]) rfl (fun p e s m args below meth c ls S hr hlk hw hl => by
    have hR : 0 ≤ (Zrm (0)).frames ∧ 60 * (0) ≤ (Zrm (0)).locals := ⟨Nat.le_refl _, Nat.le_refl _⟩
    unfold F_X10_isWind at hF
    revert hR
    generalize Zrm (0) = R
    intro hR
    refine lv_iload_n S.1 S.2.1 dX10_isWind_0 rfl (lv_at hl 0 rfl) ?_
    refine Yif_lt (tgt := 13) S hx0 dX10_isWind_1 (by decide) (fun c1_ => ?_) (fun c1_ => ?_)
    · replace hF := ZtP c1_ hF
      exact w_X10_isWind_b13 S hr hlk hR hdj _ _ _ _ hF hw hzz  (lv_sub hl [] rfl)
    · replace hF := ZtN c1_ hF
      refine lv_iload_n S.1 S.2.1 dX10_isWind_4 rfl (lv_at hl 0 rfl) ?_
      refine lv_iconst (v := i32 4) S.1 S.2.1 dX10_isWind_5 ic_4 ?_
      refine Yicmp_ge (tgt := 13) S hx0 r_4 dX10_isWind_6 (by decide) (fun c2_ => ?_) (fun c2_ => ?_)
      · replace hF := ZtP c2_ hF
        exact w_X10_isWind_b13 S hr hlk hR hdj _ _ _ _ hF hw hzz  (lv_sub hl [] rfl)
      · replace hF := ZtN c2_ hF
        refine lv_iconst (v := i32 1) S.1 S.2.1 dX10_isWind_9 ic_1 ?_
        refine lv_goto (tgt := 14) S.1 S.2.1 dX10_isWind_10 (by decide) ?_
        exact w_X10_isWind_b14 S hr hlk hR hdj _ _ _ _ _ hF hw hzz r_1 (lv_sub hl [] rfl))
set_option maxRecDepth 100000 in
set_option maxHeartbeats 4000000 in
theorem c_X2_addLane {l : Launch} {D : va_G} {cA : Nat → ClassId} {ad : Nat → Nat} (hdj : Zdj ad) {z z1 : ZI} {x1 : Int} {r : Int} (hzz : Zok z) (hx1 : InR x1) (hF : F_X2_addLane z x1 = some (r, z1)) : YMi l D cA ad (0) yX2_addLane cX2_addLane 2 (some .int) [.ref (ad 54), .int (i32 x1)] z r z1 :=
  Zmet hdj (by decide) rfl (Nat.le_of_ble_eq_true rfl) (lv := [(0, .ref (ad 54)), (1, .int (i32 (x1)))]) rfl (fun p e s m args below meth c ls S hr hlk hw hl => by
    have hR : 0 ≤ (Zrm (0)).frames ∧ 60 * (0) ≤ (Zrm (0)).locals := ⟨Nat.le_refl _, Nat.le_refl _⟩
    unfold F_X2_addLane at hF
    revert hR
    generalize Zrm (0) = R
    intro hR
    refine lv_aload_n S.1 S.2.1 dX2_addLane_0 rfl (lv_at hl 0 rfl) ?_
    refine gf_X2_9 S hw dX2_addLane_1 ?_
    refine lv_iload_n S.1 S.2.1 dX2_addLane_4 rfl (lv_at hl 1 rfl) ?_
    refine lv_aload_n S.1 S.2.1 dX2_addLane_5 rfl (lv_at hl 0 rfl) ?_
    refine gg_X2_31 S hw dX2_addLane_6 ?_
    obtain ⟨b1_, hF⟩ := Zgs hF
    refine Yiast S hw hzz zd_55 (by decide) hx1 (hzz.1 54 0 (by decide)) b1_ dX2_addLane_9 (fun z2_ H locs ez hzz2_ hw => ?_)
    replace hF := Zle ez hF; clear ez
    refine lv_aload_n S.1 S.2.1 dX2_addLane_10 rfl (lv_at hl 0 rfl) ?_
    refine lv_dup S.1 S.2.1 dX2_addLane_11 rfl ?_
    refine gg_X2_31 S hw dX2_addLane_12 ?_
    refine lv_dup_x1 S.1 S.2.1 dX2_addLane_15 rfl rfl ?_
    refine lv_iconst (v := i32 1) S.1 S.2.1 dX2_addLane_16 ic_1 ?_
    obtain ⟨g3_, hF⟩ := Zgs hF
    refine Yiadd S dX2_addLane_17 ?_
    refine pp_X2_31 S hw hzz2_ g3_ dX2_addLane_18 (fun z4_ H locs ez hzz4_ hw => ?_)
    replace hF := Zle ez hF; clear ez
    exact Yireti S hw hzz4_ (hzz2_.1 54 0 (by decide)) hr hlk hF dX2_addLane_21)
set_option maxRecDepth 100000 in
set_option maxHeartbeats 4000000 in
theorem w_X2_isLane_b16 {RR : Int × ZI} (S : CallFix p m c cX2_isLane 2 s args Ztbl RX2) (hr : meth.sig.returnType = some .boolean) (hlk : meth.locks = false) (hR : 0 ≤ R.frames ∧ 60 * (0) ≤ R.locals) (hdj : Zdj ad) : ∀ (z : ZI) (y0 : Int) (H : Heap) (locs : List Loc) (ls : Array Slot), X2_isLane_b16 z y0 = some RR → ZW D cA ad (ZA ad) (Zc z) s H locs → Zok z → InR y0 → lv_has ls 2 [] → W p l e R s m args below meth c H locs 0 0 (MQ below (YQi D cA ad RR.1 RR.2) args s 0 0 (ZA ad)) (F0 m 16 ls [.int (i32 (y0))]) := by
  intro z y0 H locs ls hF hw hzz hy0 hl
  unfold X2_isLane_b16 at hF
  obtain ⟨b1_, hF⟩ := Zgs hF
  exact Yiretz S hw hzz hy0 hr hlk b1_ hF dX2_isLane_16
set_option maxRecDepth 100000 in
set_option maxHeartbeats 4000000 in
theorem c_X2_isLane {l : Launch} {D : va_G} {cA : Nat → ClassId} {ad : Nat → Nat} (hdj : Zdj ad) {z z1 : ZI} {x1 : Int} {r : Int} (hzz : Zok z) (hx1 : InR x1) (hF : F_X2_isLane z x1 = some (r, z1)) : YMi l D cA ad (0) yX2_isLane cX2_isLane 2 (some .boolean) [.ref (ad 54), .int (i32 x1)] z r z1 :=
  Zmet hdj (by decide) rfl (Nat.le_of_ble_eq_true rfl) (lv := [(0, .ref (ad 54)), (1, .int (i32 (x1)))]) rfl (fun p e s m args below meth c ls S hr hlk hw hl => by
    have hR : 0 ≤ (Zrm (0)).frames ∧ 60 * (0) ≤ (Zrm (0)).locals := ⟨Nat.le_refl _, Nat.le_refl _⟩
    unfold F_X2_isLane at hF
    revert hR
    generalize Zrm (0) = R
    intro hR
    refine lv_aload_n S.1 S.2.1 dX2_isLane_0 rfl (lv_at hl 0 rfl) ?_
    refine gf_X2_9 S hw dX2_isLane_1 ?_
    refine lv_iload_n S.1 S.2.1 dX2_isLane_4 rfl (lv_at hl 1 rfl) ?_
    obtain ⟨b1_, hF⟩ := Zgs hF
    refine Yiald S hw zd_55 (by decide) hx1 b1_ dX2_isLane_5 ?_
    refine lv_bipush (v := i32 (-9)) S.1 S.2.1 dX2_isLane_6 bp_m9 ?_
    refine Yicmp_eq (tgt := 15) S (hzz.1 _ _ (by decide)) r_m9 dX2_isLane_8 (by decide) (fun c2_ => ?_) (fun c2_ => ?_)
    · replace hF := ZtP c2_ hF
      refine lv_iconst (v := i32 0) S.1 S.2.1 dX2_isLane_15 ic_0 ?_
      exact w_X2_isLane_b16 S hr hlk hR hdj _ _ _ _ _ hF hw hzz r_0 (lv_sub hl [] rfl)
    · replace hF := ZtN c2_ hF
      refine lv_iconst (v := i32 1) S.1 S.2.1 dX2_isLane_11 ic_1 ?_
      refine lv_goto (tgt := 16) S.1 S.2.1 dX2_isLane_12 (by decide) ?_
      exact w_X2_isLane_b16 S hr hlk hR hdj _ _ _ _ _ hF hw hzz r_1 (lv_sub hl [] rfl))
set_option maxRecDepth 100000 in
set_option maxHeartbeats 4000000 in
theorem c_X10_lane {l : Launch} {D : va_G} {cA : Nat → ClassId} {ad : Nat → Nat} (hdj : Zdj ad) {z z1 : ZI} {x1 : Int} {r : Int} (hzz : Zok z) (hx1 : InR x1) (hF : F_X10_lane z x1 = some (r, z1)) : YMi l D cA ad (1) yX10_lane cX10_lane 2 (some .int) [.ref (ad 0), .int (i32 x1)] z r z1 :=
  Zmet hdj (by decide) rfl (Nat.le_of_ble_eq_true rfl) (lv := [(0, .ref (ad 0)), (1, .int (i32 (x1)))]) rfl (fun p e s m args below meth c ls S hr hlk hw hl => by
    have hR : 1 ≤ (Zrm (1)).frames ∧ 60 * (1) ≤ (Zrm (1)).locals := ⟨Nat.le_refl _, Nat.le_refl _⟩
    unfold F_X10_lane at hF
    revert hR
    generalize Zrm (1) = R
    intro hR
    refine lv_aload_n S.1 S.2.1 dX10_lane_0 rfl (lv_at hl 0 rfl) ?_
    refine gf_X10_27 S hw dX10_lane_1 ?_
    refine lv_iload_n S.1 S.2.1 dX10_lane_4 rfl (lv_at hl 1 rfl) ?_
    obtain ⟨r3_, z1_, h2_, hF⟩ := Ybs hF
    refine YcallVi (rest := []) S hw (c_X3_hasHouse hdj hzz hx1 h2_) my_X3_hasHouse mi_X3_hasHouse ml_X10_115 zd_11 zc_X3 rfl (Zrr hR (by decide)) ⟨Nat.zero_le _, Nat.zero_le _⟩ hl.1 rfl rfl (Nat.le_of_ble_eq_true rfl) dX10_lane_5 (fun hrr3_ hzz1_ H locs hw => ?_)
    refine Yif_ne (tgt := 17) S hrr3_ dX10_lane_8 (by decide) (fun c4_ => ?_) (fun c4_ => ?_)
    · replace hF := ZtN c4_ hF
      refine lv_aload_n S.1 S.2.1 dX10_lane_17 rfl (lv_at hl 0 rfl) ?_
      refine gf_X10_62 S hw dX10_lane_18 ?_
      refine lv_iload_n S.1 S.2.1 dX10_lane_21 rfl (lv_at hl 1 rfl) ?_
      obtain ⟨r7_, z5_, h6_, hF⟩ := Ybs hF
      refine YcallVi (rest := []) S hw (c_X2_isLane hdj hzz1_ hx1 h6_) my_X2_isLane mi_X2_isLane ml_X10_279 zd_54 zc_X2 rfl (Zrr hR (by decide)) ⟨Nat.zero_le _, Nat.zero_le _⟩ hl.1 rfl rfl (Nat.le_of_ble_eq_true rfl) dX10_lane_22 (fun hrr7_ hzz5_ H locs hw => ?_)
      refine Yif_eq (tgt := 35) S hrr7_ dX10_lane_25 (by decide) (fun c8_ => ?_) (fun c8_ => ?_)
      · replace hF := ZtP c8_ hF
        refine lv_aload_n S.1 S.2.1 dX10_lane_35 rfl (lv_at hl 0 rfl) ?_
        refine gf_X10_62 S hw dX10_lane_36 ?_
        refine gg_X10_269 S hw dX10_lane_39 ?_
        refine lv_bipush (v := i32 8) S.1 S.2.1 dX10_lane_42 bp_8 ?_
        refine Yicmp_lt (tgt := 54) S (hzz5_.1 54 0 (by decide)) r_8 dX10_lane_44 (by decide) (fun c9_ => ?_) (fun c9_ => ?_)
        · replace hF := ZtP c9_ hF
          refine lv_aload_n S.1 S.2.1 dX10_lane_54 rfl (lv_at hl 0 rfl) ?_
          refine gf_X10_62 S hw dX10_lane_55 ?_
          refine lv_iload_n S.1 S.2.1 dX10_lane_58 rfl (lv_at hl 1 rfl) ?_
          obtain ⟨r12_, z10_, h11_, hF⟩ := Ybs hF
          refine YcallVi (rest := []) S hw (c_X2_addLane hdj hzz5_ hx1 h11_) my_X2_addLane mi_X2_addLane ml_X10_282 zd_54 zc_X2 rfl (Zrr hR (by decide)) ⟨Nat.zero_le _, Nat.zero_le _⟩ hl.1 rfl rfl (Nat.le_of_ble_eq_true rfl) dX10_lane_59 (fun hrr12_ hzz10_ H locs hw => ?_)
          exact Yireti S hw hzz10_ hrr12_ hr hlk hF dX10_lane_62
        · replace hF := ZtN c9_ hF
          refine lv_aload_n S.1 S.2.1 dX10_lane_47 rfl (lv_at hl 0 rfl) ?_
          refine lv_bipush (v := i32 (-6)) S.1 S.2.1 dX10_lane_48 bp_m6 ?_
          obtain ⟨r15_, z13_, h14_, hF⟩ := Ybs hF
          refine YcallVi (rest := []) S hw (c_X10_refuse hdj hzz5_ r_m6 h14_) my_X10_refuse mi_X10_refuse ml_X10_81 zd_0 zc_X10 rfl (Zrr hR (by decide)) ⟨Nat.zero_le _, Nat.zero_le _⟩ hl.1 rfl rfl (Nat.le_of_ble_eq_true rfl) dX10_lane_50 (fun hrr15_ hzz13_ H locs hw => ?_)
          exact Yireti S hw hzz13_ hrr15_ hr hlk hF dX10_lane_53
      · replace hF := ZtN c8_ hF
        refine lv_aload_n S.1 S.2.1 dX10_lane_28 rfl (lv_at hl 0 rfl) ?_
        refine lv_bipush (v := i32 (-3)) S.1 S.2.1 dX10_lane_29 bp_m3 ?_
        obtain ⟨r18_, z16_, h17_, hF⟩ := Ybs hF
        refine YcallVi (rest := []) S hw (c_X10_refuse hdj hzz5_ r_m3 h17_) my_X10_refuse mi_X10_refuse ml_X10_81 zd_0 zc_X10 rfl (Zrr hR (by decide)) ⟨Nat.zero_le _, Nat.zero_le _⟩ hl.1 rfl rfl (Nat.le_of_ble_eq_true rfl) dX10_lane_31 (fun hrr18_ hzz16_ H locs hw => ?_)
        exact Yireti S hw hzz16_ hrr18_ hr hlk hF dX10_lane_34
    · replace hF := ZtP c4_ hF
      refine lv_aload_n S.1 S.2.1 dX10_lane_11 rfl (lv_at hl 0 rfl) ?_
      refine lv_iconst (v := i32 (-1)) S.1 S.2.1 dX10_lane_12 ic_m1 ?_
      obtain ⟨r21_, z19_, h20_, hF⟩ := Ybs hF
      refine YcallVi (rest := []) S hw (c_X10_refuse hdj hzz1_ r_m1 h20_) my_X10_refuse mi_X10_refuse ml_X10_81 zd_0 zc_X10 rfl (Zrr hR (by decide)) ⟨Nat.zero_le _, Nat.zero_le _⟩ hl.1 rfl rfl (Nat.le_of_ble_eq_true rfl) dX10_lane_13 (fun hrr21_ hzz19_ H locs hw => ?_)
      exact Yireti S hw hzz19_ hrr21_ hr hlk hF dX10_lane_16)
set_option maxRecDepth 100000 in
set_option maxHeartbeats 4000000 in
theorem w_X2_isCleared_b30 {RR : Int × ZI} (S : CallFix p m c cX2_isCleared 3 s args Ztbl RX2) (hr : meth.sig.returnType = some .boolean) (hlk : meth.locks = false) (hR : 0 ≤ R.frames ∧ 60 * (0) ≤ R.locals) (hdj : Zdj ad) : ∀ (z : ZI) (y0 : Int) (H : Heap) (locs : List Loc) (ls : Array Slot), X2_isCleared_b30 z y0 = some RR → ZW D cA ad (ZA ad) (Zc z) s H locs → Zok z → InR y0 → lv_has ls 3 [] → W p l e R s m args below meth c H locs 0 0 (MQ below (YQi D cA ad RR.1 RR.2) args s 0 0 (ZA ad)) (F0 m 30 ls [.int (i32 (y0))]) := by
  intro z y0 H locs ls hF hw hzz hy0 hl
  unfold X2_isCleared_b30 at hF
  obtain ⟨b1_, hF⟩ := Zgs hF
  exact Yiretz S hw hzz hy0 hr hlk b1_ hF dX2_isCleared_30
set_option maxRecDepth 100000 in
set_option maxHeartbeats 4000000 in
theorem w_X2_isCleared_b29 {RR : Int × ZI} (S : CallFix p m c cX2_isCleared 3 s args Ztbl RX2) (hr : meth.sig.returnType = some .boolean) (hlk : meth.locks = false) (hR : 0 ≤ R.frames ∧ 60 * (0) ≤ R.locals) (hdj : Zdj ad) : ∀ (z : ZI) (H : Heap) (locs : List Loc) (ls : Array Slot), X2_isCleared_b29 z  = some RR → ZW D cA ad (ZA ad) (Zc z) s H locs → Zok z → lv_has ls 3 [] → W p l e R s m args below meth c H locs 0 0 (MQ below (YQi D cA ad RR.1 RR.2) args s 0 0 (ZA ad)) (F0 m 29 ls []) := by
  intro z  H locs ls hF hw hzz  hl
  unfold X2_isCleared_b29 at hF
  refine lv_iconst (v := i32 0) S.1 S.2.1 dX2_isCleared_29 ic_0 ?_
  exact w_X2_isCleared_b30 S hr hlk hR hdj _ _ _ _ _ hF hw hzz r_0 (lv_sub hl [] rfl)
set_option maxRecDepth 100000 in
set_option maxHeartbeats 4000000 in
theorem c_X2_isCleared {l : Launch} {D : va_G} {cA : Nat → ClassId} {ad : Nat → Nat} (hdj : Zdj ad) {z z1 : ZI} {x1 : Int} {x2 : Int} {r : Int} (hzz : Zok z) (hx1 : InR x1) (hx2 : InR x2) (hF : F_X2_isCleared z x1 x2 = some (r, z1)) : YMi l D cA ad (0) yX2_isCleared cX2_isCleared 3 (some .boolean) [.ref (ad 54), .int (i32 x1), .int (i32 x2)] z r z1 :=
  Zmet hdj (by decide) rfl (Nat.le_of_ble_eq_true rfl) (lv := [(0, .ref (ad 54)), (1, .int (i32 (x1))), (2, .int (i32 (x2)))]) rfl (fun p e s m args below meth c ls S hr hlk hw hl => by
    have hR : 0 ≤ (Zrm (0)).frames ∧ 60 * (0) ≤ (Zrm (0)).locals := ⟨Nat.le_refl _, Nat.le_refl _⟩
    unfold F_X2_isCleared at hF
    revert hR
    generalize Zrm (0) = R
    intro hR
    refine lv_aload_n S.1 S.2.1 dX2_isCleared_0 rfl (lv_at hl 0 rfl) ?_
    refine gf_X2_9 S hw dX2_isCleared_1 ?_
    refine lv_iload_n S.1 S.2.1 dX2_isCleared_4 rfl (lv_at hl 1 rfl) ?_
    obtain ⟨b1_, hF⟩ := Zgs hF
    refine Yiald S hw zd_55 (by decide) hx1 b1_ dX2_isCleared_5 ?_
    refine lv_bipush (v := i32 (-9)) S.1 S.2.1 dX2_isCleared_6 bp_m9 ?_
    refine Yicmp_eq (tgt := 29) S (hzz.1 _ _ (by decide)) r_m9 dX2_isCleared_8 (by decide) (fun c2_ => ?_) (fun c2_ => ?_)
    · replace hF := ZtP c2_ hF
      exact w_X2_isCleared_b29 S hr hlk hR hdj _ _ _ _ hF hw hzz  (lv_sub hl [] rfl)
    · replace hF := ZtN c2_ hF
      refine lv_iload_n S.1 S.2.1 dX2_isCleared_11 rfl (lv_at hl 2 rfl) ?_
      refine lv_aload_n S.1 S.2.1 dX2_isCleared_12 rfl (lv_at hl 0 rfl) ?_
      refine gf_X2_9 S hw dX2_isCleared_13 ?_
      refine lv_iload_n S.1 S.2.1 dX2_isCleared_16 rfl (lv_at hl 1 rfl) ?_
      obtain ⟨b3_, hF⟩ := Zgs hF
      refine Yiald S hw zd_55 (by decide) hx1 b3_ dX2_isCleared_17 ?_
      refine Yishr S dX2_isCleared_18 ?_
      refine lv_iconst (v := i32 1) S.1 S.2.1 dX2_isCleared_19 ic_1 ?_
      refine Yiand S dX2_isCleared_20 ?_
      refine lv_iconst (v := i32 1) S.1 S.2.1 dX2_isCleared_21 ic_1 ?_
      refine Yicmp_ne (tgt := 29) S (InR_of _) r_1 dX2_isCleared_22 (by decide) (fun c4_ => ?_) (fun c4_ => ?_)
      · replace hF := ZtN c4_ hF
        exact w_X2_isCleared_b29 S hr hlk hR hdj _ _ _ _ hF hw hzz  (lv_sub hl [] rfl)
      · replace hF := ZtP c4_ hF
        refine lv_iconst (v := i32 1) S.1 S.2.1 dX2_isCleared_25 ic_1 ?_
        refine lv_goto (tgt := 30) S.1 S.2.1 dX2_isCleared_26 (by decide) ?_
        exact w_X2_isCleared_b30 S hr hlk hR hdj _ _ _ _ _ hF hw hzz r_1 (lv_sub hl [] rfl))
set_option maxRecDepth 100000 in
set_option maxHeartbeats 4000000 in
theorem w_X2_nextHouse_b54 {RR : Int × ZI} (S : CallFix p m c cX2_nextHouse 7 s args Ztbl RX2) (hr : meth.sig.returnType = some .int) (hlk : meth.locks = false) (hR : 1 ≤ R.frames ∧ 60 * (1) ≤ R.locals) (hdj : Zdj ad) : ∀ (z : ZI) (y0 : Int) (H : Heap) (locs : List Loc) (ls : Array Slot), X2_nextHouse_b54 z y0 = some RR → ZW D cA ad (ZA ad) (Zc z) s H locs → Zok z → InR y0 → lv_has ls 7 [] → W p l e R s m args below meth c H locs 0 0 (MQ below (YQi D cA ad RR.1 RR.2) args s 0 0 (ZA ad)) (F0 m 54 ls [.int (i32 (y0))]) := by
  intro z y0 H locs ls hF hw hzz hy0 hl
  unfold X2_nextHouse_b54 at hF
  exact Yireti S hw hzz hy0 hr hlk hF dX2_nextHouse_54
set_option maxRecDepth 100000 in
set_option maxHeartbeats 4000000 in
theorem w_X2_nextHouse_b47 {RR : Int × ZI} (S : CallFix p m c cX2_nextHouse 7 s args Ztbl RX2) (hr : meth.sig.returnType = some .int) (hlk : meth.locks = false) (hR : 1 ≤ R.frames ∧ 60 * (1) ≤ R.locals) (hdj : Zdj ad) : ∀ (z : ZI) (H : Heap) (locs : List Loc) (ls : Array Slot), X2_nextHouse_b47 z  = some RR → ZW D cA ad (ZA ad) (Zc z) s H locs → Zok z → lv_has ls 7 [] → W p l e R s m args below meth c H locs 0 0 (MQ below (YQi D cA ad RR.1 RR.2) args s 0 0 (ZA ad)) (F0 m 47 ls []) := by
  intro z  H locs ls hF hw hzz  hl
  unfold X2_nextHouse_b47 at hF
  refine lv_bipush (v := i32 (-9)) S.1 S.2.1 dX2_nextHouse_47 bp_m9 ?_
  refine lv_goto (tgt := 54) S.1 S.2.1 dX2_nextHouse_49 (by decide) ?_
  exact w_X2_nextHouse_b54 S hr hlk hR hdj _ _ _ _ _ hF hw hzz r_m9 (lv_sub hl [] rfl)
set_option maxRecDepth 100000 in
set_option maxHeartbeats 4000000 in
theorem c_X2_nextHouse {l : Launch} {D : va_G} {cA : Nat → ClassId} {ad : Nat → Nat} (hdj : Zdj ad) {z z1 : ZI} {x2 : Int} {x3 : Int} {x4 : Int} {r : Int} (hzz : Zok z) (hx2 : InR x2) (hx3 : InR x3) (hx4 : InR x4) (hF : F_X2_nextHouse z x2 x3 x4 = some (r, z1)) : YMi l D cA ad (1) yX2_nextHouse cX2_nextHouse 7 (some .int) [.ref (ad 54), .ref (ad 11), .int (i32 x2), .int (i32 x3), .int (i32 x4)] z r z1 :=
  Zmet hdj (by decide) rfl (Nat.le_of_ble_eq_true rfl) (lv := [(0, .ref (ad 54)), (1, .ref (ad 11)), (2, .int (i32 (x2))), (3, .int (i32 (x3))), (4, .int (i32 (x4)))]) rfl (fun p e s m args below meth c ls S hr hlk hw hl => by
    have hR : 1 ≤ (Zrm (1)).frames ∧ 60 * (1) ≤ (Zrm (1)).locals := ⟨Nat.le_refl _, Nat.le_refl _⟩
    unfold F_X2_nextHouse at hF
    revert hR
    generalize Zrm (1) = R
    intro hR
    refine lv_aload_n S.1 S.2.1 dX2_nextHouse_0 rfl (lv_at hl 1 rfl) ?_
    refine lv_iload_n S.1 S.2.1 dX2_nextHouse_1 rfl (lv_at hl 2 rfl) ?_
    obtain ⟨r3_, z1_, h2_, hF⟩ := Ybs hF
    refine YcallVi (rest := []) S hw (c_X3_cellOf hdj hzz hx2 h2_) my_X3_cellOf mi_X3_cellOf ml_X2_35 zd_11 zc_X3 rfl (Zrr hR (by decide)) ⟨Nat.zero_le _, Nat.zero_le _⟩ hl.1 rfl rfl (Nat.le_of_ble_eq_true rfl) dX2_nextHouse_2 (fun hrr3_ hzz1_ H locs hw => ?_)
    refine lv_iload_n S.1 S.2.1 dX2_nextHouse_5 rfl (lv_at hl 3 rfl) ?_
    obtain ⟨r6_, z4_, h5_, hF⟩ := Ybs hF
    refine YcallSi (rest := []) S hw (c_X4_beside hdj hzz1_ hrr3_ hx3 h5_) my_X4_beside ms_X4_beside ml_X2_41 (Zrr hR (by decide)) ⟨Nat.zero_le _, Nat.zero_le _⟩ hl.1 rfl rfl (Nat.le_of_ble_eq_true rfl) dX2_nextHouse_6 (fun hrr6_ hzz4_ H locs hw => ?_)
    refine lv_istore (lv' := [(5, .int (i32 (r6_))), (0, .ref (ad 54)), (1, .ref (ad 11)), (2, .int (i32 (x2))), (3, .int (i32 (x3))), (4, .int (i32 (x4)))]) S.1 S.2.1 dX2_nextHouse_9 hl (by decide) rfl (fun ls hl => ?_)
    refine lv_iload S.1 S.2.1 dX2_nextHouse_11 (lv_at hl 0 rfl) ?_
    refine lv_bipush (v := i32 (-9)) S.1 S.2.1 dX2_nextHouse_13 bp_m9 ?_
    refine Yicmp_ne (tgt := 21) S hrr6_ r_m9 dX2_nextHouse_15 (by decide) (fun c7_ => ?_) (fun c7_ => ?_)
    · replace hF := ZtN c7_ hF
      refine lv_aload_n S.1 S.2.1 dX2_nextHouse_21 rfl (lv_at hl 2 rfl) ?_
      refine lv_iload S.1 S.2.1 dX2_nextHouse_22 (lv_at hl 0 rfl) ?_
      obtain ⟨r10_, z8_, h9_, hF⟩ := Ybs hF
      refine YcallVi (rest := []) S hw (c_X3_houseAt hdj hzz4_ hrr6_ h9_) my_X3_houseAt mi_X3_houseAt ml_X2_47 zd_11 zc_X3 rfl (Zrr hR (by decide)) ⟨Nat.zero_le _, Nat.zero_le _⟩ hl.1 rfl rfl (Nat.le_of_ble_eq_true rfl) dX2_nextHouse_24 (fun hrr10_ hzz8_ H locs hw => ?_)
      refine lv_istore (lv' := [(6, .int (i32 (r10_))), (5, .int (i32 (r6_))), (0, .ref (ad 54)), (1, .ref (ad 11)), (2, .int (i32 (x2))), (3, .int (i32 (x3))), (4, .int (i32 (x4)))]) S.1 S.2.1 dX2_nextHouse_27 hl (by decide) rfl (fun ls hl => ?_)
      refine lv_iload S.1 S.2.1 dX2_nextHouse_29 (lv_at hl 0 rfl) ?_
      refine lv_bipush (v := i32 (-9)) S.1 S.2.1 dX2_nextHouse_31 bp_m9 ?_
      refine Yicmp_eq (tgt := 47) S hrr10_ r_m9 dX2_nextHouse_33 (by decide) (fun c11_ => ?_) (fun c11_ => ?_)
      · replace hF := ZtP c11_ hF
        exact w_X2_nextHouse_b47 S hr hlk hR hdj _ _ _ _ hF hw hzz8_  (lv_sub hl [] rfl)
      · replace hF := ZtN c11_ hF
        refine lv_aload_n S.1 S.2.1 dX2_nextHouse_36 rfl (lv_at hl 2 rfl) ?_
        refine lv_iload S.1 S.2.1 dX2_nextHouse_37 (lv_at hl 0 rfl) ?_
        refine lv_iload S.1 S.2.1 dX2_nextHouse_39 (lv_at hl 6 rfl) ?_
        obtain ⟨r14_, z12_, h13_, hF⟩ := Ybs hF
        refine YcallVi (rest := []) S hw (c_X2_isCleared hdj hzz8_ hrr10_ hx4 h13_) my_X2_isCleared mi_X2_isCleared ml_X2_50 zd_54 zc_X2 rfl (Zrr hR (by decide)) ⟨Nat.zero_le _, Nat.zero_le _⟩ hl.1 rfl rfl (Nat.le_of_ble_eq_true rfl) dX2_nextHouse_41 (fun hrr14_ hzz12_ H locs hw => ?_)
        refine Yif_eq (tgt := 52) S hrr14_ dX2_nextHouse_44 (by decide) (fun c15_ => ?_) (fun c15_ => ?_)
        · replace hF := ZtP c15_ hF
          refine lv_iload S.1 S.2.1 dX2_nextHouse_52 (lv_at hl 0 rfl) ?_
          exact w_X2_nextHouse_b54 S hr hlk hR hdj _ _ _ _ _ hF hw hzz12_ hrr10_ (lv_sub hl [] rfl)
        · replace hF := ZtN c15_ hF
          exact w_X2_nextHouse_b47 S hr hlk hR hdj _ _ _ _ hF hw hzz12_  (lv_sub hl [] rfl)
    · replace hF := ZtP c7_ hF
      refine lv_bipush (v := i32 (-9)) S.1 S.2.1 dX2_nextHouse_18 bp_m9 ?_
      exact Yireti S hw hzz4_ r_m9 hr hlk hF dX2_nextHouse_20)
set_option maxRecDepth 100000 in
set_option maxHeartbeats 4000000 in
theorem w_X2_burnFrom_b116 {RR : Int × ZI} (S : CallFix p m c cX2_burnFrom 8 s args Ztbl RX2) (hr : meth.sig.returnType = some .int) (hlk : meth.locks = false) (hR : 2 ≤ R.frames ∧ 60 * (2) ≤ R.locals) (hdj : Zdj ad) : ∀ (z : ZI) (x4 : Int) (H : Heap) (locs : List Loc) (ls : Array Slot), X2_burnFrom_b116 z x4 = some RR → ZW D cA ad (ZA ad) (Zc z) s H locs → Zok z → InR x4 → lv_has ls 8 [(4, .int (i32 (x4)))] → W p l e R s m args below meth c H locs 0 0 (MQ below (YQi D cA ad RR.1 RR.2) args s 0 0 (ZA ad)) (F0 m 116 ls []) := by
  intro z x4 H locs ls hF hw hzz hx4 hl
  unfold X2_burnFrom_b116 at hF
  refine lv_iload S.1 S.2.1 dX2_burnFrom_116 (lv_at hl 0 rfl) ?_
  exact Yireti S hw hzz hx4 hr hlk hF dX2_burnFrom_118
set_option maxRecDepth 100000 in
set_option maxHeartbeats 4000000 in
theorem w_X2_burnFrom_b110 {RR : Int × ZI} (S : CallFix p m c cX2_burnFrom 8 s args Ztbl RX2) (hr : meth.sig.returnType = some .int) (hlk : meth.locks = false) (hR : 2 ≤ R.frames ∧ 60 * (2) ≤ R.locals) (hdj : Zdj ad) {k20 : ZI → Int → Int → Int → Option (Int × ZI)} (hk20 : ∀ (z : ZI) (x3 : Int) (x4 : Int) (x5 : Int) (H : Heap) (locs : List Loc) (ls : Array Slot), k20 z x3 x4 x5 = some RR → ZW D cA ad (ZA ad) (Zc z) s H locs → Zok z → InR x3 → InR x4 → InR x5 → lv_has ls 8 [(0, .ref (ad 54)), (1, .ref (ad 11)), (3, .int (i32 (x3))), (4, .int (i32 (x4))), (5, .int (i32 (x5)))] → W p l e R s m args below meth c H locs 0 0 (MQ below (YQi D cA ad RR.1 RR.2) args s 0 0 (ZA ad)) (F0 m 20 ls [])) : ∀ (z : ZI) (x3 : Int) (x4 : Int) (x5 : Int) (H : Heap) (locs : List Loc) (ls : Array Slot), X2_burnFrom_b110 k20 z x3 x4 x5 = some RR → ZW D cA ad (ZA ad) (Zc z) s H locs → Zok z → InR x3 → InR x4 → InR x5 → lv_has ls 8 [(0, .ref (ad 54)), (1, .ref (ad 11)), (3, .int (i32 (x3))), (4, .int (i32 (x4))), (5, .int (i32 (x5)))] → W p l e R s m args below meth c H locs 0 0 (MQ below (YQi D cA ad RR.1 RR.2) args s 0 0 (ZA ad)) (F0 m 110 ls []) := by
  intro z x3 x4 x5 H locs ls hF hw hzz hx3 hx4 hx5 hl
  unfold X2_burnFrom_b110 at hF
  obtain ⟨g1_, hF⟩ := Zgs hF
  refine lv_iinc (v := i32 (x5 + 1)) (lv' := [(5, .int (i32 (x5 + 1))), (0, .ref (ad 54)), (1, .ref (ad 11)), (3, .int (i32 (x3))), (4, .int (i32 (x4)))]) S.1 S.2.1 dX2_burnFrom_110 hl (k := 4) rfl Yiinc (by decide) rfl (fun ls hl => ?_)
  refine lv_goto (tgt := 20) S.1 S.2.1 dX2_burnFrom_113 (by decide) ?_
  exact hk20 _ _ _ _ _ _ _ hF hw hzz hx3 hx4 g1_ (lv_sub hl [1, 2, 3, 4, 0] rfl)
set_option maxRecDepth 100000 in
set_option maxHeartbeats 4000000 in
theorem w_X2_burnFrom_b104 {RR : Int × ZI} (S : CallFix p m c cX2_burnFrom 8 s args Ztbl RX2) (hr : meth.sig.returnType = some .int) (hlk : meth.locks = false) (hR : 2 ≤ R.frames ∧ 60 * (2) ≤ R.locals) (hdj : Zdj ad) {k20 : ZI → Int → Int → Int → Option (Int × ZI)} (hk20 : ∀ (z : ZI) (x3 : Int) (x4 : Int) (x5 : Int) (H : Heap) (locs : List Loc) (ls : Array Slot), k20 z x3 x4 x5 = some RR → ZW D cA ad (ZA ad) (Zc z) s H locs → Zok z → InR x3 → InR x4 → InR x5 → lv_has ls 8 [(0, .ref (ad 54)), (1, .ref (ad 11)), (3, .int (i32 (x3))), (4, .int (i32 (x4))), (5, .int (i32 (x5)))] → W p l e R s m args below meth c H locs 0 0 (MQ below (YQi D cA ad RR.1 RR.2) args s 0 0 (ZA ad)) (F0 m 20 ls [])) {k37 : ZI → Int → Int → Int → Int → Option (Int × ZI)} (hk37 : ∀ (z : ZI) (x3 : Int) (x4 : Int) (x5 : Int) (x6 : Int) (H : Heap) (locs : List Loc) (ls : Array Slot), k37 z x3 x4 x5 x6 = some RR → ZW D cA ad (ZA ad) (Zc z) s H locs → Zok z → InR x3 → InR x4 → InR x5 → InR x6 → lv_has ls 8 [(0, .ref (ad 54)), (1, .ref (ad 11)), (3, .int (i32 (x3))), (4, .int (i32 (x4))), (5, .int (i32 (x5))), (6, .int (i32 (x6)))] → W p l e R s m args below meth c H locs 0 0 (MQ below (YQi D cA ad RR.1 RR.2) args s 0 0 (ZA ad)) (F0 m 37 ls [])) : ∀ (z : ZI) (x3 : Int) (x4 : Int) (x5 : Int) (x6 : Int) (H : Heap) (locs : List Loc) (ls : Array Slot), X2_burnFrom_b104 k20 k37 z x3 x4 x5 x6 = some RR → ZW D cA ad (ZA ad) (Zc z) s H locs → Zok z → InR x3 → InR x4 → InR x5 → InR x6 → lv_has ls 8 [(0, .ref (ad 54)), (1, .ref (ad 11)), (3, .int (i32 (x3))), (4, .int (i32 (x4))), (5, .int (i32 (x5))), (6, .int (i32 (x6)))] → W p l e R s m args below meth c H locs 0 0 (MQ below (YQi D cA ad RR.1 RR.2) args s 0 0 (ZA ad)) (F0 m 104 ls []) := by
  intro z x3 x4 x5 x6 H locs ls hF hw hzz hx3 hx4 hx5 hx6 hl
  unfold X2_burnFrom_b104 at hF
  obtain ⟨g1_, hF⟩ := Zgs hF
  refine lv_iinc (v := i32 (x6 + 1)) (lv' := [(6, .int (i32 (x6 + 1))), (0, .ref (ad 54)), (1, .ref (ad 11)), (3, .int (i32 (x3))), (4, .int (i32 (x4))), (5, .int (i32 (x5)))]) S.1 S.2.1 dX2_burnFrom_104 hl (k := 5) rfl Yiinc (by decide) rfl (fun ls hl => ?_)
  refine lv_goto (tgt := 37) S.1 S.2.1 dX2_burnFrom_107 (by decide) ?_
  exact hk37 _ _ _ _ _ _ _ _ hF hw hzz hx3 hx4 hx5 g1_ (lv_sub hl [1, 2, 3, 4, 5, 0] rfl)
set_option maxRecDepth 100000 in
set_option maxHeartbeats 4000000 in
theorem w_X2_burnFrom_L37 {RR : Int × ZI} (S : CallFix p m c cX2_burnFrom 8 s args Ztbl RX2) (hr : meth.sig.returnType = some .int) (hlk : meth.locks = false) (hR : 2 ≤ R.frames ∧ 60 * (2) ≤ R.locals) (hdj : Zdj ad) {k20 : ZI → Int → Int → Int → Option (Int × ZI)} (hk20 : ∀ (z : ZI) (x3 : Int) (x4 : Int) (x5 : Int) (H : Heap) (locs : List Loc) (ls : Array Slot), k20 z x3 x4 x5 = some RR → ZW D cA ad (ZA ad) (Zc z) s H locs → Zok z → InR x3 → InR x4 → InR x5 → lv_has ls 8 [(0, .ref (ad 54)), (1, .ref (ad 11)), (3, .int (i32 (x3))), (4, .int (i32 (x4))), (5, .int (i32 (x5)))] → W p l e R s m args below meth c H locs 0 0 (MQ below (YQi D cA ad RR.1 RR.2) args s 0 0 (ZA ad)) (F0 m 20 ls [])) : ∀ (n : Nat) (z : ZI) (x3 : Int) (x4 : Int) (x5 : Int) (x6 : Int) (H : Heap) (locs : List Loc) (ls : Array Slot), X2_burnFrom_L37 k20 n z x3 x4 x5 x6 = some RR → ZW D cA ad (ZA ad) (Zc z) s H locs → Zok z → InR x3 → InR x4 → InR x5 → InR x6 → lv_has ls 8 [(0, .ref (ad 54)), (1, .ref (ad 11)), (3, .int (i32 (x3))), (4, .int (i32 (x4))), (5, .int (i32 (x5))), (6, .int (i32 (x6)))] → W p l e R s m args below meth c H locs 0 0 (MQ below (YQi D cA ad RR.1 RR.2) args s 0 0 (ZA ad)) (F0 m 37 ls []) := by
  intro n
  induction n with
  | zero => intro z x3 x4 x5 x6 H locs ls hF; exact nomatch hF
  | succ n hk37 =>
    intro z x3 x4 x5 x6 H locs ls hF hw hzz hx3 hx4 hx5 hx6 hl
    replace hF : X2_burnFrom_L37b k20 (X2_burnFrom_L37 k20 n) z x3 x4 x5 x6 = some RR := hF
    unfold X2_burnFrom_L37b at hF
    refine lv_iload S.1 S.2.1 dX2_burnFrom_37 (lv_at hl 5 rfl) ?_
    refine lv_iconst (v := i32 4) S.1 S.2.1 dX2_burnFrom_39 ic_4 ?_
    refine Yicmp_ge (tgt := 110) S hx6 r_4 dX2_burnFrom_40 (by decide) (fun c1_ => ?_) (fun c1_ => ?_)
    · replace hF := ZtP c1_ hF
      exact w_X2_burnFrom_b110 S hr hlk hR hdj hk20 _ _ _ _ _ _ _ hF hw hzz hx3 hx4 hx5 (lv_sub hl [0, 1, 2, 3, 4] rfl)
    · replace hF := ZtN c1_ hF
      refine lv_aload_n S.1 S.2.1 dX2_burnFrom_43 rfl (lv_at hl 0 rfl) ?_
      refine lv_aload_n S.1 S.2.1 dX2_burnFrom_44 rfl (lv_at hl 1 rfl) ?_
      refine lv_aload_n S.1 S.2.1 dX2_burnFrom_45 rfl (lv_at hl 0 rfl) ?_
      refine gf_X2_28 S hw dX2_burnFrom_46 ?_
      refine lv_iload S.1 S.2.1 dX2_burnFrom_49 (lv_at hl 4 rfl) ?_
      obtain ⟨b2_, hF⟩ := Zgs hF
      refine Yiald S hw zd_58 (by decide) hx5 b2_ dX2_burnFrom_51 ?_
      refine lv_iload S.1 S.2.1 dX2_burnFrom_52 (lv_at hl 5 rfl) ?_
      refine lv_iload_n S.1 S.2.1 dX2_burnFrom_54 rfl (lv_at hl 2 rfl) ?_
      obtain ⟨r5_, z3_, h4_, hF⟩ := Ybs hF
      refine YcallVi (rest := []) S hw (c_X2_nextHouse hdj hzz (hzz.1 _ _ (by decide)) hx6 hx3 h4_) my_X2_nextHouse mi_X2_nextHouse ml_X2_61 zd_54 zc_X2 rfl (Zrr hR (by decide)) ⟨Nat.zero_le _, Nat.zero_le _⟩ hl.1 rfl rfl (Nat.le_of_ble_eq_true rfl) dX2_burnFrom_55 (fun hrr5_ hzz3_ H locs hw => ?_)
      refine lv_istore (lv' := [(7, .int (i32 (r5_))), (0, .ref (ad 54)), (1, .ref (ad 11)), (3, .int (i32 (x3))), (4, .int (i32 (x4))), (5, .int (i32 (x5))), (6, .int (i32 (x6)))]) S.1 S.2.1 dX2_burnFrom_58 hl (by decide) rfl (fun ls hl => ?_)
      refine lv_iload S.1 S.2.1 dX2_burnFrom_60 (lv_at hl 0 rfl) ?_
      refine lv_bipush (v := i32 (-9)) S.1 S.2.1 dX2_burnFrom_62 bp_m9 ?_
      refine Yicmp_eq (tgt := 104) S hrr5_ r_m9 dX2_burnFrom_64 (by decide) (fun c6_ => ?_) (fun c6_ => ?_)
      · replace hF := ZtP c6_ hF
        exact w_X2_burnFrom_b104 S hr hlk hR hdj hk20 hk37 _ _ _ _ _ _ _ _ hF hw hzz3_ hx3 hx4 hx5 hx6 (lv_sub hl [1, 2, 3, 4, 5, 6] rfl)
      · replace hF := ZtN c6_ hF
        refine lv_aload_n S.1 S.2.1 dX2_burnFrom_67 rfl (lv_at hl 1 rfl) ?_
        refine gf_X2_24 S hw dX2_burnFrom_68 ?_
        refine lv_iload S.1 S.2.1 dX2_burnFrom_71 (lv_at hl 0 rfl) ?_
        obtain ⟨b7_, hF⟩ := Zgs hF
        refine Yzald S hw zd_57 (by decide) hrr5_ b7_ dX2_burnFrom_73 ?_
        refine Yif_ne (tgt := 104) S (hzz3_.1 _ _ (by decide)) dX2_burnFrom_74 (by decide) (fun c8_ => ?_) (fun c8_ => ?_)
        · replace hF := ZtN c8_ hF
          exact w_X2_burnFrom_b104 S hr hlk hR hdj hk20 hk37 _ _ _ _ _ _ _ _ hF hw hzz3_ hx3 hx4 hx5 hx6 (lv_sub hl [1, 2, 3, 4, 5, 6] rfl)
        · replace hF := ZtP c8_ hF
          refine lv_iload S.1 S.2.1 dX2_burnFrom_77 (lv_at hl 4 rfl) ?_
          refine lv_bipush (v := i32 30) S.1 S.2.1 dX2_burnFrom_79 bp_30 ?_
          refine Yicmp_ge (tgt := 104) S hx4 r_30 dX2_burnFrom_81 (by decide) (fun c9_ => ?_) (fun c9_ => ?_)
          · replace hF := ZtP c9_ hF
            exact w_X2_burnFrom_b104 S hr hlk hR hdj hk20 hk37 _ _ _ _ _ _ _ _ hF hw hzz3_ hx3 hx4 hx5 hx6 (lv_sub hl [1, 2, 3, 4, 5, 6] rfl)
          · replace hF := ZtN c9_ hF
            refine lv_aload_n S.1 S.2.1 dX2_burnFrom_84 rfl (lv_at hl 1 rfl) ?_
            refine gf_X2_24 S hw dX2_burnFrom_85 ?_
            refine lv_iload S.1 S.2.1 dX2_burnFrom_88 (lv_at hl 0 rfl) ?_
            refine lv_iconst (v := i32 1) S.1 S.2.1 dX2_burnFrom_90 ic_1 ?_
            obtain ⟨b10_, hF⟩ := Zgs hF
            refine Yzast S hw hzz3_ zd_57 (by decide) hrr5_ r_1 (Or.inr rfl) b10_ dX2_burnFrom_91 (fun z11_ H locs ez hzz11_ hw => ?_)
            replace hF := Zle ez hF; clear ez
            refine lv_aload_n S.1 S.2.1 dX2_burnFrom_92 rfl (lv_at hl 1 rfl) ?_
            refine gf_X2_28 S hw dX2_burnFrom_93 ?_
            refine lv_iload S.1 S.2.1 dX2_burnFrom_96 (lv_at hl 4 rfl) ?_
            refine lv_iload S.1 S.2.1 dX2_burnFrom_98 (lv_at hl 0 rfl) ?_
            obtain ⟨b12_, hF⟩ := Zgs hF
            refine Yiast S hw hzz11_ zd_58 (by decide) hx4 hrr5_ b12_ dX2_burnFrom_100 (fun z13_ H locs ez hzz13_ hw => ?_)
            replace hF := Zle ez hF; clear ez
            obtain ⟨g14_, hF⟩ := Zgs hF
            refine lv_iinc (v := i32 (x4 + 1)) (lv' := [(4, .int (i32 (x4 + 1))), (7, .int (i32 (r5_))), (0, .ref (ad 54)), (1, .ref (ad 11)), (3, .int (i32 (x3))), (5, .int (i32 (x5))), (6, .int (i32 (x6)))]) S.1 S.2.1 dX2_burnFrom_101 hl (k := 4) rfl Yiinc (by decide) rfl (fun ls hl => ?_)
            exact w_X2_burnFrom_b104 S hr hlk hR hdj hk20 hk37 _ _ _ _ _ _ _ _ hF hw hzz13_ hx3 g14_ hx5 hx6 (lv_sub hl [2, 3, 4, 0, 5, 6] rfl)
set_option maxRecDepth 100000 in
set_option maxHeartbeats 4000000 in
theorem w_X2_burnFrom_L20 {RR : Int × ZI} (S : CallFix p m c cX2_burnFrom 8 s args Ztbl RX2) (hr : meth.sig.returnType = some .int) (hlk : meth.locks = false) (hR : 2 ≤ R.frames ∧ 60 * (2) ≤ R.locals) (hdj : Zdj ad) : ∀ (n : Nat) (z : ZI) (x3 : Int) (x4 : Int) (x5 : Int) (H : Heap) (locs : List Loc) (ls : Array Slot), X2_burnFrom_L20 n z x3 x4 x5 = some RR → ZW D cA ad (ZA ad) (Zc z) s H locs → Zok z → InR x3 → InR x4 → InR x5 → lv_has ls 8 [(0, .ref (ad 54)), (1, .ref (ad 11)), (3, .int (i32 (x3))), (4, .int (i32 (x4))), (5, .int (i32 (x5)))] → W p l e R s m args below meth c H locs 0 0 (MQ below (YQi D cA ad RR.1 RR.2) args s 0 0 (ZA ad)) (F0 m 20 ls []) := by
  intro n
  induction n with
  | zero => intro z x3 x4 x5 H locs ls hF; exact nomatch hF
  | succ n hk20 =>
    intro z x3 x4 x5 H locs ls hF hw hzz hx3 hx4 hx5 hl
    replace hF : X2_burnFrom_L20b (X2_burnFrom_L20 n) z x3 x4 x5 = some RR := hF
    unfold X2_burnFrom_L20b at hF
    refine lv_iload S.1 S.2.1 dX2_burnFrom_20 (lv_at hl 4 rfl) ?_
    refine lv_iload S.1 S.2.1 dX2_burnFrom_22 (lv_at hl 3 rfl) ?_
    refine Yicmp_ge (tgt := 116) S hx5 hx4 dX2_burnFrom_24 (by decide) (fun c1_ => ?_) (fun c1_ => ?_)
    · replace hF := ZtP c1_ hF
      exact w_X2_burnFrom_b116 S hr hlk hR hdj _ _ _ _ _ hF hw hzz hx4 (lv_sub hl [3] rfl)
    · replace hF := ZtN c1_ hF
      refine lv_iload S.1 S.2.1 dX2_burnFrom_27 (lv_at hl 4 rfl) ?_
      refine lv_bipush (v := i32 30) S.1 S.2.1 dX2_burnFrom_29 bp_30 ?_
      refine Yicmp_ge (tgt := 116) S hx5 r_30 dX2_burnFrom_31 (by decide) (fun c2_ => ?_) (fun c2_ => ?_)
      · replace hF := ZtP c2_ hF
        exact w_X2_burnFrom_b116 S hr hlk hR hdj _ _ _ _ _ hF hw hzz hx4 (lv_sub hl [3] rfl)
      · replace hF := ZtN c2_ hF
        refine lv_iconst (v := i32 0) S.1 S.2.1 dX2_burnFrom_34 ic_0 ?_
        refine lv_istore (lv' := [(6, .int (i32 (0))), (0, .ref (ad 54)), (1, .ref (ad 11)), (3, .int (i32 (x3))), (4, .int (i32 (x4))), (5, .int (i32 (x5)))]) S.1 S.2.1 dX2_burnFrom_35 hl (by decide) rfl (fun ls hl => ?_)
        exact w_X2_burnFrom_L37 S hr hlk hR hdj hk20 Zfuel _ _ _ _ _ _ _ _ hF hw hzz hx3 hx4 hx5 r_0 (lv_sub hl [1, 2, 3, 4, 5, 0] rfl)
set_option maxRecDepth 100000 in
set_option maxHeartbeats 4000000 in
theorem c_X2_burnFrom {l : Launch} {D : va_G} {cA : Nat → ClassId} {ad : Nat → Nat} (hdj : Zdj ad) {z z1 : ZI} {x2 : Int} {x3 : Int} {r : Int} (hzz : Zok z) (hx2 : InR x2) (hx3 : InR x3) (hF : F_X2_burnFrom z x2 x3 = some (r, z1)) : YMi l D cA ad (2) yX2_burnFrom cX2_burnFrom 8 (some .int) [.ref (ad 54), .ref (ad 11), .int (i32 x2), .int (i32 x3)] z r z1 :=
  Zmet hdj (by decide) rfl (Nat.le_of_ble_eq_true rfl) (lv := [(0, .ref (ad 54)), (1, .ref (ad 11)), (2, .int (i32 (x2))), (3, .int (i32 (x3)))]) rfl (fun p e s m args below meth c ls S hr hlk hw hl => by
    have hR : 2 ≤ (Zrm (2)).frames ∧ 60 * (2) ≤ (Zrm (2)).locals := ⟨Nat.le_refl _, Nat.le_refl _⟩
    unfold F_X2_burnFrom at hF
    revert hR
    generalize Zrm (2) = R
    intro hR
    refine lv_aload_n S.1 S.2.1 dX2_burnFrom_0 rfl (lv_at hl 0 rfl) ?_
    refine gf_X2_28 S hw dX2_burnFrom_1 ?_
    refine lv_iconst (v := i32 0) S.1 S.2.1 dX2_burnFrom_4 ic_0 ?_
    refine lv_iload_n S.1 S.2.1 dX2_burnFrom_5 rfl (lv_at hl 2 rfl) ?_
    obtain ⟨b1_, hF⟩ := Zgs hF
    refine Yiast S hw hzz zd_58 (by decide) r_0 hx2 b1_ dX2_burnFrom_6 (fun z2_ H locs ez hzz2_ hw => ?_)
    replace hF := Zle ez hF; clear ez
    refine lv_aload_n S.1 S.2.1 dX2_burnFrom_7 rfl (lv_at hl 0 rfl) ?_
    refine gf_X2_24 S hw dX2_burnFrom_8 ?_
    refine lv_iload_n S.1 S.2.1 dX2_burnFrom_11 rfl (lv_at hl 2 rfl) ?_
    refine lv_iconst (v := i32 1) S.1 S.2.1 dX2_burnFrom_12 ic_1 ?_
    obtain ⟨b3_, hF⟩ := Zgs hF
    refine Yzast S hw hzz2_ zd_57 (by decide) hx2 r_1 (Or.inr rfl) b3_ dX2_burnFrom_13 (fun z4_ H locs ez hzz4_ hw => ?_)
    replace hF := Zle ez hF; clear ez
    refine lv_iconst (v := i32 1) S.1 S.2.1 dX2_burnFrom_14 ic_1 ?_
    refine lv_istore (lv' := [(4, .int (i32 (1))), (0, .ref (ad 54)), (1, .ref (ad 11)), (2, .int (i32 (x2))), (3, .int (i32 (x3)))]) S.1 S.2.1 dX2_burnFrom_15 hl (by decide) rfl (fun ls hl => ?_)
    refine lv_iconst (v := i32 0) S.1 S.2.1 dX2_burnFrom_17 ic_0 ?_
    refine lv_istore (lv' := [(5, .int (i32 (0))), (4, .int (i32 (1))), (0, .ref (ad 54)), (1, .ref (ad 11)), (2, .int (i32 (x2))), (3, .int (i32 (x3)))]) S.1 S.2.1 dX2_burnFrom_18 hl (by decide) rfl (fun ls hl => ?_)
    exact w_X2_burnFrom_L20 S hr hlk hR hdj Zfuel _ _ _ _ _ _ _ hF hw hzz4_ hx3 r_1 r_0 (lv_sub hl [2, 3, 5, 1, 0] rfl))
set_option maxRecDepth 100000 in
set_option maxHeartbeats 4000000 in
theorem w_X2_holds_b68 {RR : Int × ZI} (S : CallFix p m c cX2_holds 5 s args Ztbl RX2) (hr : meth.sig.returnType = some .boolean) (hlk : meth.locks = false) (hR : 3 ≤ R.frames ∧ 60 * (3) ≤ R.locals) (hdj : Zdj ad) {k35 : ZI → Int → Int → Int → Option (Int × ZI)} (hk35 : ∀ (z : ZI) (x2 : Int) (x3 : Int) (x4 : Int) (H : Heap) (locs : List Loc) (ls : Array Slot), k35 z x2 x3 x4 = some RR → ZW D cA ad (ZA ad) (Zc z) s H locs → Zok z → InR x2 → InR x3 → InR x4 → lv_has ls 5 [(0, .ref (ad 54)), (1, .ref (ad 11)), (2, .int (i32 (x2))), (3, .int (i32 (x3))), (4, .int (i32 (x4)))] → W p l e R s m args below meth c H locs 0 0 (MQ below (YQi D cA ad RR.1 RR.2) args s 0 0 (ZA ad)) (F0 m 35 ls [])) : ∀ (z : ZI) (x2 : Int) (x3 : Int) (x4 : Int) (H : Heap) (locs : List Loc) (ls : Array Slot), X2_holds_b68 k35 z x2 x3 x4 = some RR → ZW D cA ad (ZA ad) (Zc z) s H locs → Zok z → InR x2 → InR x3 → InR x4 → lv_has ls 5 [(0, .ref (ad 54)), (1, .ref (ad 11)), (2, .int (i32 (x2))), (3, .int (i32 (x3))), (4, .int (i32 (x4)))] → W p l e R s m args below meth c H locs 0 0 (MQ below (YQi D cA ad RR.1 RR.2) args s 0 0 (ZA ad)) (F0 m 68 ls []) := by
  intro z x2 x3 x4 H locs ls hF hw hzz hx2 hx3 hx4 hl
  unfold X2_holds_b68 at hF
  obtain ⟨g1_, hF⟩ := Zgs hF
  refine lv_iinc (v := i32 (x4 + 1)) (lv' := [(4, .int (i32 (x4 + 1))), (0, .ref (ad 54)), (1, .ref (ad 11)), (2, .int (i32 (x2))), (3, .int (i32 (x3)))]) S.1 S.2.1 dX2_holds_68 hl (k := 4) rfl Yiinc (by decide) rfl (fun ls hl => ?_)
  refine lv_goto (tgt := 35) S.1 S.2.1 dX2_holds_71 (by decide) ?_
  exact hk35 _ _ _ _ _ _ _ hF hw hzz hx2 hx3 g1_ (lv_sub hl [1, 2, 3, 4, 0] rfl)
set_option maxRecDepth 100000 in
set_option maxHeartbeats 4000000 in
theorem w_X2_holds_L35 {RR : Int × ZI} (S : CallFix p m c cX2_holds 5 s args Ztbl RX2) (hr : meth.sig.returnType = some .boolean) (hlk : meth.locks = false) (hR : 3 ≤ R.frames ∧ 60 * (3) ≤ R.locals) (hdj : Zdj ad) : ∀ (n : Nat) (z : ZI) (x2 : Int) (x3 : Int) (x4 : Int) (H : Heap) (locs : List Loc) (ls : Array Slot), X2_holds_L35 n z x2 x3 x4 = some RR → ZW D cA ad (ZA ad) (Zc z) s H locs → Zok z → InR x2 → InR x3 → InR x4 → lv_has ls 5 [(0, .ref (ad 54)), (1, .ref (ad 11)), (2, .int (i32 (x2))), (3, .int (i32 (x3))), (4, .int (i32 (x4)))] → W p l e R s m args below meth c H locs 0 0 (MQ below (YQi D cA ad RR.1 RR.2) args s 0 0 (ZA ad)) (F0 m 35 ls []) := by
  intro n
  induction n with
  | zero => intro z x2 x3 x4 H locs ls hF; exact nomatch hF
  | succ n hk35 =>
    intro z x2 x3 x4 H locs ls hF hw hzz hx2 hx3 hx4 hl
    replace hF : X2_holds_L35b (X2_holds_L35 n) z x2 x3 x4 = some RR := hF
    unfold X2_holds_L35b at hF
    refine lv_iload S.1 S.2.1 dX2_holds_35 (lv_at hl 4 rfl) ?_
    refine lv_aload_n S.1 S.2.1 dX2_holds_37 rfl (lv_at hl 1 rfl) ?_
    refine gg_X2_54 S hw dX2_holds_38 ?_
    refine Yicmp_ge (tgt := 74) S hx4 (hzz.1 11 0 (by decide)) dX2_holds_41 (by decide) (fun c1_ => ?_) (fun c1_ => ?_)
    · replace hF := ZtP c1_ hF
      refine lv_iconst (v := i32 1) S.1 S.2.1 dX2_holds_74 ic_1 ?_
      exact Yiretz S hw hzz r_1 hr hlk (Or.inr rfl) hF dX2_holds_75
    · replace hF := ZtN c1_ hF
      refine lv_aload_n S.1 S.2.1 dX2_holds_44 rfl (lv_at hl 0 rfl) ?_
      refine gf_X2_24 S hw dX2_holds_45 ?_
      refine lv_iload S.1 S.2.1 dX2_holds_48 (lv_at hl 4 rfl) ?_
      obtain ⟨b2_, hF⟩ := Zgs hF
      refine Yzald S hw zd_57 (by decide) hx4 b2_ dX2_holds_50 ?_
      refine Yif_ne (tgt := 68) S (hzz.1 _ _ (by decide)) dX2_holds_51 (by decide) (fun c3_ => ?_) (fun c3_ => ?_)
      · replace hF := ZtN c3_ hF
        exact w_X2_holds_b68 S hr hlk hR hdj hk35 _ _ _ _ _ _ _ hF hw hzz hx2 hx3 hx4 (lv_sub hl [0, 1, 2, 3, 4] rfl)
      · replace hF := ZtP c3_ hF
        refine lv_aload_n S.1 S.2.1 dX2_holds_54 rfl (lv_at hl 0 rfl) ?_
        refine lv_aload_n S.1 S.2.1 dX2_holds_55 rfl (lv_at hl 1 rfl) ?_
        refine lv_iload S.1 S.2.1 dX2_holds_56 (lv_at hl 4 rfl) ?_
        refine lv_iload_n S.1 S.2.1 dX2_holds_58 rfl (lv_at hl 3 rfl) ?_
        obtain ⟨r6_, z4_, h5_, hF⟩ := Ybs hF
        refine YcallVi (rest := []) S hw (c_X2_burnFrom hdj hzz hx4 hx3 h5_) my_X2_burnFrom mi_X2_burnFrom ml_X2_77 zd_54 zc_X2 rfl (Zrr hR (by decide)) ⟨Nat.zero_le _, Nat.zero_le _⟩ hl.1 rfl rfl (Nat.le_of_ble_eq_true rfl) dX2_holds_59 (fun hrr6_ hzz4_ H locs hw => ?_)
        refine lv_iload_n S.1 S.2.1 dX2_holds_62 rfl (lv_at hl 2 rfl) ?_
        refine Yicmp_le (tgt := 68) S hrr6_ hx2 dX2_holds_63 (by decide) (fun c7_ => ?_) (fun c7_ => ?_)
        · replace hF := ZtP c7_ hF
          exact w_X2_holds_b68 S hr hlk hR hdj hk35 _ _ _ _ _ _ _ hF hw hzz4_ hx2 hx3 hx4 (lv_sub hl [0, 1, 2, 3, 4] rfl)
        · replace hF := ZtN c7_ hF
          refine lv_iconst (v := i32 0) S.1 S.2.1 dX2_holds_66 ic_0 ?_
          exact Yiretz S hw hzz4_ r_0 hr hlk (Or.inl rfl) hF dX2_holds_67
set_option maxRecDepth 100000 in
set_option maxHeartbeats 4000000 in
theorem w_X2_holds_b32 {RR : Int × ZI} (S : CallFix p m c cX2_holds 5 s args Ztbl RX2) (hr : meth.sig.returnType = some .boolean) (hlk : meth.locks = false) (hR : 3 ≤ R.frames ∧ 60 * (3) ≤ R.locals) (hdj : Zdj ad) : ∀ (z : ZI) (x2 : Int) (x3 : Int) (H : Heap) (locs : List Loc) (ls : Array Slot), X2_holds_b32 z x2 x3 = some RR → ZW D cA ad (ZA ad) (Zc z) s H locs → Zok z → InR x2 → InR x3 → lv_has ls 5 [(0, .ref (ad 54)), (1, .ref (ad 11)), (2, .int (i32 (x2))), (3, .int (i32 (x3)))] → W p l e R s m args below meth c H locs 0 0 (MQ below (YQi D cA ad RR.1 RR.2) args s 0 0 (ZA ad)) (F0 m 32 ls []) := by
  intro z x2 x3 H locs ls hF hw hzz hx2 hx3 hl
  unfold X2_holds_b32 at hF
  refine lv_iconst (v := i32 0) S.1 S.2.1 dX2_holds_32 ic_0 ?_
  refine lv_istore (lv' := [(4, .int (i32 (0))), (0, .ref (ad 54)), (1, .ref (ad 11)), (2, .int (i32 (x2))), (3, .int (i32 (x3)))]) S.1 S.2.1 dX2_holds_33 hl (by decide) rfl (fun ls hl => ?_)
  exact w_X2_holds_L35 S hr hlk hR hdj Zfuel _ _ _ _ _ _ _ hF hw hzz hx2 hx3 r_0 (lv_sub hl [1, 2, 3, 4, 0] rfl)
set_option maxRecDepth 100000 in
set_option maxHeartbeats 4000000 in
theorem w_X2_holds_L3 {RR : Int × ZI} (S : CallFix p m c cX2_holds 5 s args Ztbl RX2) (hr : meth.sig.returnType = some .boolean) (hlk : meth.locks = false) (hR : 3 ≤ R.frames ∧ 60 * (3) ≤ R.locals) (hdj : Zdj ad) : ∀ (n : Nat) (z : ZI) (x2 : Int) (x3 : Int) (x4 : Int) (H : Heap) (locs : List Loc) (ls : Array Slot), X2_holds_L3 n z x2 x3 x4 = some RR → ZW D cA ad (ZA ad) (Zc z) s H locs → Zok z → InR x2 → InR x3 → InR x4 → lv_has ls 5 [(0, .ref (ad 54)), (1, .ref (ad 11)), (2, .int (i32 (x2))), (3, .int (i32 (x3))), (4, .int (i32 (x4)))] → W p l e R s m args below meth c H locs 0 0 (MQ below (YQi D cA ad RR.1 RR.2) args s 0 0 (ZA ad)) (F0 m 3 ls []) := by
  intro n
  induction n with
  | zero => intro z x2 x3 x4 H locs ls hF; exact nomatch hF
  | succ n hk3 =>
    intro z x2 x3 x4 H locs ls hF hw hzz hx2 hx3 hx4 hl
    replace hF : X2_holds_L3b (X2_holds_L3 n) z x2 x3 x4 = some RR := hF
    unfold X2_holds_L3b at hF
    refine lv_iload S.1 S.2.1 dX2_holds_3 (lv_at hl 4 rfl) ?_
    refine lv_aload_n S.1 S.2.1 dX2_holds_5 rfl (lv_at hl 1 rfl) ?_
    refine gg_X2_54 S hw dX2_holds_6 ?_
    refine Yicmp_ge (tgt := 32) S hx4 (hzz.1 11 0 (by decide)) dX2_holds_9 (by decide) (fun c1_ => ?_) (fun c1_ => ?_)
    · replace hF := ZtP c1_ hF
      exact w_X2_holds_b32 S hr hlk hR hdj _ _ _ _ _ _ hF hw hzz hx2 hx3 (lv_sub hl [0, 1, 2, 3] rfl)
    · replace hF := ZtN c1_ hF
      refine lv_aload_n S.1 S.2.1 dX2_holds_12 rfl (lv_at hl 0 rfl) ?_
      refine gf_X2_24 S hw dX2_holds_13 ?_
      refine lv_iload S.1 S.2.1 dX2_holds_16 (lv_at hl 4 rfl) ?_
      refine lv_aload_n S.1 S.2.1 dX2_holds_18 rfl (lv_at hl 0 rfl) ?_
      refine lv_iload S.1 S.2.1 dX2_holds_19 (lv_at hl 4 rfl) ?_
      refine lv_iload_n S.1 S.2.1 dX2_holds_21 rfl (lv_at hl 3 rfl) ?_
      obtain ⟨r4_, z2_, h3_, hF⟩ := Ybs hF
      refine YcallVi (rest := [.int (i32 (x4)), .ref (ad 57)]) S hw (c_X2_isCleared hdj hzz hx4 hx3 h3_) my_X2_isCleared mi_X2_isCleared ml_X2_50 zd_54 zc_X2 rfl (Zrr hR (by decide)) ⟨Nat.zero_le _, Nat.zero_le _⟩ hl.1 rfl rfl (Nat.le_of_ble_eq_true rfl) dX2_holds_22 (fun hrr4_ hzz2_ H locs hw => ?_)
      obtain ⟨b7_, hF⟩ := Zgs hF
      obtain ⟨b5_, hF⟩ := Zgs hF
      refine Yzast S hw hzz2_ zd_57 (by decide) hx4 hrr4_ b7_ b5_ dX2_holds_25 (fun z6_ H locs ez hzz6_ hw => ?_)
      replace hF := Zle ez hF; clear ez
      obtain ⟨g8_, hF⟩ := Zgs hF
      refine lv_iinc (v := i32 (x4 + 1)) (lv' := [(4, .int (i32 (x4 + 1))), (0, .ref (ad 54)), (1, .ref (ad 11)), (2, .int (i32 (x2))), (3, .int (i32 (x3)))]) S.1 S.2.1 dX2_holds_26 hl (k := 4) rfl Yiinc (by decide) rfl (fun ls hl => ?_)
      refine lv_goto (tgt := 3) S.1 S.2.1 dX2_holds_29 (by decide) ?_
      exact hk3 _ _ _ _ _ _ _ hF hw hzz6_ hx2 hx3 g8_ (lv_sub hl [1, 2, 3, 4, 0] rfl)
set_option maxRecDepth 100000 in
set_option maxHeartbeats 4000000 in
theorem c_X2_holds {l : Launch} {D : va_G} {cA : Nat → ClassId} {ad : Nat → Nat} (hdj : Zdj ad) {z z1 : ZI} {x2 : Int} {x3 : Int} {r : Int} (hzz : Zok z) (hx2 : InR x2) (hx3 : InR x3) (hF : F_X2_holds z x2 x3 = some (r, z1)) : YMi l D cA ad (3) yX2_holds cX2_holds 5 (some .boolean) [.ref (ad 54), .ref (ad 11), .int (i32 x2), .int (i32 x3)] z r z1 :=
  Zmet hdj (by decide) rfl (Nat.le_of_ble_eq_true rfl) (lv := [(0, .ref (ad 54)), (1, .ref (ad 11)), (2, .int (i32 (x2))), (3, .int (i32 (x3)))]) rfl (fun p e s m args below meth c ls S hr hlk hw hl => by
    have hR : 3 ≤ (Zrm (3)).frames ∧ 60 * (3) ≤ (Zrm (3)).locals := ⟨Nat.le_refl _, Nat.le_refl _⟩
    unfold F_X2_holds at hF
    revert hR
    generalize Zrm (3) = R
    intro hR
    refine lv_iconst (v := i32 0) S.1 S.2.1 dX2_holds_0 ic_0 ?_
    refine lv_istore (lv' := [(4, .int (i32 (0))), (0, .ref (ad 54)), (1, .ref (ad 11)), (2, .int (i32 (x2))), (3, .int (i32 (x3)))]) S.1 S.2.1 dX2_holds_1 hl (by decide) rfl (fun ls hl => ?_)
    exact w_X2_holds_L3 S hr hlk hR hdj Zfuel _ _ _ _ _ _ _ hF hw hzz hx2 hx3 r_0 (lv_sub hl [1, 2, 3, 4, 0] rfl))
set_option maxRecDepth 100000 in
set_option maxHeartbeats 4000000 in
theorem w_X2_fewestLanes_b73 {RR : Int × ZI} (S : CallFix p m c cX2_fewestLanes 6 s args Ztbl RX2) (hr : meth.sig.returnType = some .int) (hlk : meth.locks = false) (hR : 4 ≤ R.frames ∧ 60 * (4) ≤ R.locals) (hdj : Zdj ad) {k25 : ZI → Int → Int → Int → Option (Int × ZI)} (hk25 : ∀ (z : ZI) (x2 : Int) (x3 : Int) (x4 : Int) (H : Heap) (locs : List Loc) (ls : Array Slot), k25 z x2 x3 x4 = some RR → ZW D cA ad (ZA ad) (Zc z) s H locs → Zok z → InR x2 → InR x3 → InR x4 → lv_has ls 6 [(0, .ref (ad 54)), (1, .ref (ad 11)), (2, .int (i32 (x2))), (3, .int (i32 (x3))), (4, .int (i32 (x4)))] → W p l e R s m args below meth c H locs 0 0 (MQ below (YQi D cA ad RR.1 RR.2) args s 0 0 (ZA ad)) (F0 m 25 ls [])) : ∀ (z : ZI) (x2 : Int) (x3 : Int) (x4 : Int) (H : Heap) (locs : List Loc) (ls : Array Slot), X2_fewestLanes_b73 k25 z x2 x3 x4 = some RR → ZW D cA ad (ZA ad) (Zc z) s H locs → Zok z → InR x2 → InR x3 → InR x4 → lv_has ls 6 [(0, .ref (ad 54)), (1, .ref (ad 11)), (2, .int (i32 (x2))), (3, .int (i32 (x3))), (4, .int (i32 (x4)))] → W p l e R s m args below meth c H locs 0 0 (MQ below (YQi D cA ad RR.1 RR.2) args s 0 0 (ZA ad)) (F0 m 73 ls []) := by
  intro z x2 x3 x4 H locs ls hF hw hzz hx2 hx3 hx4 hl
  unfold X2_fewestLanes_b73 at hF
  obtain ⟨g1_, hF⟩ := Zgs hF
  refine lv_iinc (v := i32 (x4 + 1)) (lv' := [(4, .int (i32 (x4 + 1))), (0, .ref (ad 54)), (1, .ref (ad 11)), (2, .int (i32 (x2))), (3, .int (i32 (x3)))]) S.1 S.2.1 dX2_fewestLanes_73 hl (k := 4) rfl Yiinc (by decide) rfl (fun ls hl => ?_)
  refine lv_goto (tgt := 25) S.1 S.2.1 dX2_fewestLanes_76 (by decide) ?_
  exact hk25 _ _ _ _ _ _ _ hF hw hzz hx2 hx3 g1_ (lv_sub hl [1, 2, 3, 4, 0] rfl)
set_option maxRecDepth 100000 in
set_option maxHeartbeats 4000000 in
theorem w_X2_fewestLanes_b67 {RR : Int × ZI} (S : CallFix p m c cX2_fewestLanes 6 s args Ztbl RX2) (hr : meth.sig.returnType = some .int) (hlk : meth.locks = false) (hR : 4 ≤ R.frames ∧ 60 * (4) ≤ R.locals) (hdj : Zdj ad) {k25 : ZI → Int → Int → Int → Option (Int × ZI)} (hk25 : ∀ (z : ZI) (x2 : Int) (x3 : Int) (x4 : Int) (H : Heap) (locs : List Loc) (ls : Array Slot), k25 z x2 x3 x4 = some RR → ZW D cA ad (ZA ad) (Zc z) s H locs → Zok z → InR x2 → InR x3 → InR x4 → lv_has ls 6 [(0, .ref (ad 54)), (1, .ref (ad 11)), (2, .int (i32 (x2))), (3, .int (i32 (x3))), (4, .int (i32 (x4)))] → W p l e R s m args below meth c H locs 0 0 (MQ below (YQi D cA ad RR.1 RR.2) args s 0 0 (ZA ad)) (F0 m 25 ls [])) {k37 : ZI → Int → Int → Int → Int → Option (Int × ZI)} (hk37 : ∀ (z : ZI) (x2 : Int) (x3 : Int) (x4 : Int) (x5 : Int) (H : Heap) (locs : List Loc) (ls : Array Slot), k37 z x2 x3 x4 x5 = some RR → ZW D cA ad (ZA ad) (Zc z) s H locs → Zok z → InR x2 → InR x3 → InR x4 → InR x5 → lv_has ls 6 [(0, .ref (ad 54)), (1, .ref (ad 11)), (2, .int (i32 (x2))), (3, .int (i32 (x3))), (4, .int (i32 (x4))), (5, .int (i32 (x5)))] → W p l e R s m args below meth c H locs 0 0 (MQ below (YQi D cA ad RR.1 RR.2) args s 0 0 (ZA ad)) (F0 m 37 ls [])) : ∀ (z : ZI) (x2 : Int) (x3 : Int) (x4 : Int) (x5 : Int) (H : Heap) (locs : List Loc) (ls : Array Slot), X2_fewestLanes_b67 k25 k37 z x2 x3 x4 x5 = some RR → ZW D cA ad (ZA ad) (Zc z) s H locs → Zok z → InR x2 → InR x3 → InR x4 → InR x5 → lv_has ls 6 [(0, .ref (ad 54)), (1, .ref (ad 11)), (2, .int (i32 (x2))), (3, .int (i32 (x3))), (4, .int (i32 (x4))), (5, .int (i32 (x5)))] → W p l e R s m args below meth c H locs 0 0 (MQ below (YQi D cA ad RR.1 RR.2) args s 0 0 (ZA ad)) (F0 m 67 ls []) := by
  intro z x2 x3 x4 x5 H locs ls hF hw hzz hx2 hx3 hx4 hx5 hl
  unfold X2_fewestLanes_b67 at hF
  obtain ⟨g1_, hF⟩ := Zgs hF
  refine lv_iinc (v := i32 (x5 + 1)) (lv' := [(5, .int (i32 (x5 + 1))), (0, .ref (ad 54)), (1, .ref (ad 11)), (2, .int (i32 (x2))), (3, .int (i32 (x3))), (4, .int (i32 (x4)))]) S.1 S.2.1 dX2_fewestLanes_67 hl (k := 5) rfl Yiinc (by decide) rfl (fun ls hl => ?_)
  refine lv_goto (tgt := 37) S.1 S.2.1 dX2_fewestLanes_70 (by decide) ?_
  exact hk37 _ _ _ _ _ _ _ _ hF hw hzz hx2 hx3 hx4 g1_ (lv_sub hl [1, 2, 3, 4, 5, 0] rfl)
set_option maxRecDepth 100000 in
set_option maxHeartbeats 4000000 in
theorem w_X2_fewestLanes_L37 {RR : Int × ZI} (S : CallFix p m c cX2_fewestLanes 6 s args Ztbl RX2) (hr : meth.sig.returnType = some .int) (hlk : meth.locks = false) (hR : 4 ≤ R.frames ∧ 60 * (4) ≤ R.locals) (hdj : Zdj ad) {k25 : ZI → Int → Int → Int → Option (Int × ZI)} (hk25 : ∀ (z : ZI) (x2 : Int) (x3 : Int) (x4 : Int) (H : Heap) (locs : List Loc) (ls : Array Slot), k25 z x2 x3 x4 = some RR → ZW D cA ad (ZA ad) (Zc z) s H locs → Zok z → InR x2 → InR x3 → InR x4 → lv_has ls 6 [(0, .ref (ad 54)), (1, .ref (ad 11)), (2, .int (i32 (x2))), (3, .int (i32 (x3))), (4, .int (i32 (x4)))] → W p l e R s m args below meth c H locs 0 0 (MQ below (YQi D cA ad RR.1 RR.2) args s 0 0 (ZA ad)) (F0 m 25 ls [])) : ∀ (n : Nat) (z : ZI) (x2 : Int) (x3 : Int) (x4 : Int) (x5 : Int) (H : Heap) (locs : List Loc) (ls : Array Slot), X2_fewestLanes_L37 k25 n z x2 x3 x4 x5 = some RR → ZW D cA ad (ZA ad) (Zc z) s H locs → Zok z → InR x2 → InR x3 → InR x4 → InR x5 → lv_has ls 6 [(0, .ref (ad 54)), (1, .ref (ad 11)), (2, .int (i32 (x2))), (3, .int (i32 (x3))), (4, .int (i32 (x4))), (5, .int (i32 (x5)))] → W p l e R s m args below meth c H locs 0 0 (MQ below (YQi D cA ad RR.1 RR.2) args s 0 0 (ZA ad)) (F0 m 37 ls []) := by
  intro n
  induction n with
  | zero => intro z x2 x3 x4 x5 H locs ls hF; exact nomatch hF
  | succ n hk37 =>
    intro z x2 x3 x4 x5 H locs ls hF hw hzz hx2 hx3 hx4 hx5 hl
    replace hF : X2_fewestLanes_L37b k25 (X2_fewestLanes_L37 k25 n) z x2 x3 x4 x5 = some RR := hF
    unfold X2_fewestLanes_L37b at hF
    refine lv_iload S.1 S.2.1 dX2_fewestLanes_37 (lv_at hl 5 rfl) ?_
    refine lv_iload_n S.1 S.2.1 dX2_fewestLanes_39 rfl (lv_at hl 3 rfl) ?_
    refine Yicmp_ge (tgt := 73) S hx5 hx3 dX2_fewestLanes_40 (by decide) (fun c1_ => ?_) (fun c1_ => ?_)
    · replace hF := ZtP c1_ hF
      exact w_X2_fewestLanes_b73 S hr hlk hR hdj hk25 _ _ _ _ _ _ _ hF hw hzz hx2 hx3 hx4 (lv_sub hl [0, 1, 2, 3, 4] rfl)
    · replace hF := ZtN c1_ hF
      refine lv_iload S.1 S.2.1 dX2_fewestLanes_43 (lv_at hl 5 rfl) ?_
      obtain ⟨r4_, z2_, h3_, hF⟩ := Ybs hF
      refine YcallSi (rest := []) S hw (c_J6_bitCount_0f7a4 hdj hzz hx5 h3_) my_J6_bitCount_0f7a4 ms_J6_bitCount_0f7a4 ml_X2_72 (Zrr hR (by decide)) ⟨Nat.zero_le _, Nat.zero_le _⟩ hl.1 rfl rfl (Nat.le_of_ble_eq_true rfl) dX2_fewestLanes_45 (fun hrr4_ hzz2_ H locs hw => ?_)
      refine lv_iload S.1 S.2.1 dX2_fewestLanes_48 (lv_at hl 4 rfl) ?_
      refine Yicmp_ne (tgt := 67) S hrr4_ hx4 dX2_fewestLanes_50 (by decide) (fun c5_ => ?_) (fun c5_ => ?_)
      · replace hF := ZtN c5_ hF
        exact w_X2_fewestLanes_b67 S hr hlk hR hdj hk25 hk37 _ _ _ _ _ _ _ _ hF hw hzz2_ hx2 hx3 hx4 hx5 (lv_sub hl [0, 1, 2, 3, 4, 5] rfl)
      · replace hF := ZtP c5_ hF
        refine lv_aload_n S.1 S.2.1 dX2_fewestLanes_53 rfl (lv_at hl 0 rfl) ?_
        refine lv_aload_n S.1 S.2.1 dX2_fewestLanes_54 rfl (lv_at hl 1 rfl) ?_
        refine lv_iload_n S.1 S.2.1 dX2_fewestLanes_55 rfl (lv_at hl 2 rfl) ?_
        refine lv_iload S.1 S.2.1 dX2_fewestLanes_56 (lv_at hl 5 rfl) ?_
        obtain ⟨r8_, z6_, h7_, hF⟩ := Ybs hF
        refine YcallVi (rest := []) S hw (c_X2_holds hdj hzz2_ hx2 hx5 h7_) my_X2_holds mi_X2_holds ml_X2_68 zd_54 zc_X2 rfl (Zrr hR (by decide)) ⟨Nat.zero_le _, Nat.zero_le _⟩ hl.1 rfl rfl (Nat.le_of_ble_eq_true rfl) dX2_fewestLanes_58 (fun hrr8_ hzz6_ H locs hw => ?_)
        refine Yif_eq (tgt := 67) S hrr8_ dX2_fewestLanes_61 (by decide) (fun c9_ => ?_) (fun c9_ => ?_)
        · replace hF := ZtP c9_ hF
          exact w_X2_fewestLanes_b67 S hr hlk hR hdj hk25 hk37 _ _ _ _ _ _ _ _ hF hw hzz6_ hx2 hx3 hx4 hx5 (lv_sub hl [0, 1, 2, 3, 4, 5] rfl)
        · replace hF := ZtN c9_ hF
          refine lv_iload S.1 S.2.1 dX2_fewestLanes_64 (lv_at hl 5 rfl) ?_
          exact Yireti S hw hzz6_ hx5 hr hlk hF dX2_fewestLanes_66
set_option maxRecDepth 100000 in
set_option maxHeartbeats 4000000 in
theorem w_X2_fewestLanes_L25 {RR : Int × ZI} (S : CallFix p m c cX2_fewestLanes 6 s args Ztbl RX2) (hr : meth.sig.returnType = some .int) (hlk : meth.locks = false) (hR : 4 ≤ R.frames ∧ 60 * (4) ≤ R.locals) (hdj : Zdj ad) : ∀ (n : Nat) (z : ZI) (x2 : Int) (x3 : Int) (x4 : Int) (H : Heap) (locs : List Loc) (ls : Array Slot), X2_fewestLanes_L25 n z x2 x3 x4 = some RR → ZW D cA ad (ZA ad) (Zc z) s H locs → Zok z → InR x2 → InR x3 → InR x4 → lv_has ls 6 [(0, .ref (ad 54)), (1, .ref (ad 11)), (2, .int (i32 (x2))), (3, .int (i32 (x3))), (4, .int (i32 (x4)))] → W p l e R s m args below meth c H locs 0 0 (MQ below (YQi D cA ad RR.1 RR.2) args s 0 0 (ZA ad)) (F0 m 25 ls []) := by
  intro n
  induction n with
  | zero => intro z x2 x3 x4 H locs ls hF; exact nomatch hF
  | succ n hk25 =>
    intro z x2 x3 x4 H locs ls hF hw hzz hx2 hx3 hx4 hl
    replace hF : X2_fewestLanes_L25b (X2_fewestLanes_L25 n) z x2 x3 x4 = some RR := hF
    unfold X2_fewestLanes_L25b at hF
    refine lv_iload S.1 S.2.1 dX2_fewestLanes_25 (lv_at hl 4 rfl) ?_
    refine lv_aload_n S.1 S.2.1 dX2_fewestLanes_27 rfl (lv_at hl 0 rfl) ?_
    refine gg_X2_31 S hw dX2_fewestLanes_28 ?_
    refine Yicmp_gt (tgt := 79) S hx4 (hzz.1 54 0 (by decide)) dX2_fewestLanes_31 (by decide) (fun c1_ => ?_) (fun c1_ => ?_)
    · replace hF := ZtP c1_ hF
      refine lv_bipush (v := i32 (-9)) S.1 S.2.1 dX2_fewestLanes_79 bp_m9 ?_
      exact Yireti S hw hzz r_m9 hr hlk hF dX2_fewestLanes_81
    · replace hF := ZtN c1_ hF
      refine lv_iconst (v := i32 0) S.1 S.2.1 dX2_fewestLanes_34 ic_0 ?_
      refine lv_istore (lv' := [(5, .int (i32 (0))), (0, .ref (ad 54)), (1, .ref (ad 11)), (2, .int (i32 (x2))), (3, .int (i32 (x3))), (4, .int (i32 (x4)))]) S.1 S.2.1 dX2_fewestLanes_35 hl (by decide) rfl (fun ls hl => ?_)
      exact w_X2_fewestLanes_L37 S hr hlk hR hdj hk25 Zfuel _ _ _ _ _ _ _ _ hF hw hzz hx2 hx3 hx4 r_0 (lv_sub hl [1, 2, 3, 4, 5, 0] rfl)
set_option maxRecDepth 100000 in
set_option maxHeartbeats 4000000 in
theorem c_X2_fewestLanes {l : Launch} {D : va_G} {cA : Nat → ClassId} {ad : Nat → Nat} (hdj : Zdj ad) {z z1 : ZI} {x2 : Int} {r : Int} (hzz : Zok z) (hx2 : InR x2) (hF : F_X2_fewestLanes z x2 = some (r, z1)) : YMi l D cA ad (4) yX2_fewestLanes cX2_fewestLanes 6 (some .int) [.ref (ad 54), .ref (ad 11), .int (i32 x2)] z r z1 :=
  Zmet hdj (by decide) rfl (Nat.le_of_ble_eq_true rfl) (lv := [(0, .ref (ad 54)), (1, .ref (ad 11)), (2, .int (i32 (x2)))]) rfl (fun p e s m args below meth c ls S hr hlk hw hl => by
    have hR : 4 ≤ (Zrm (4)).frames ∧ 60 * (4) ≤ (Zrm (4)).locals := ⟨Nat.le_refl _, Nat.le_refl _⟩
    unfold F_X2_fewestLanes at hF
    revert hR
    generalize Zrm (4) = R
    intro hR
    refine lv_iconst (v := i32 1) S.1 S.2.1 dX2_fewestLanes_0 ic_1 ?_
    refine lv_aload_n S.1 S.2.1 dX2_fewestLanes_1 rfl (lv_at hl 0 rfl) ?_
    refine gg_X2_31 S hw dX2_fewestLanes_2 ?_
    refine Yishl S dX2_fewestLanes_5 ?_
    refine lv_istore_n (lv' := [(3, .int (i32 (jshl 1 (z 54 0)))), (0, .ref (ad 54)), (1, .ref (ad 11)), (2, .int (i32 (x2)))]) S.1 S.2.1 dX2_fewestLanes_6 rfl hl (by decide) rfl (fun ls hl => ?_)
    refine lv_aload_n S.1 S.2.1 dX2_fewestLanes_7 rfl (lv_at hl 1 rfl) ?_
    refine lv_aload_n S.1 S.2.1 dX2_fewestLanes_8 rfl (lv_at hl 2 rfl) ?_
    refine lv_iload_n S.1 S.2.1 dX2_fewestLanes_9 rfl (lv_at hl 3 rfl) ?_
    refine lv_iload_n S.1 S.2.1 dX2_fewestLanes_10 rfl (lv_at hl 0 rfl) ?_
    refine lv_iconst (v := i32 1) S.1 S.2.1 dX2_fewestLanes_11 ic_1 ?_
    obtain ⟨g1_, hF⟩ := Zgs hF
    refine Yisub S dX2_fewestLanes_12 ?_
    obtain ⟨r4_, z2_, h3_, hF⟩ := Ybs hF
    refine YcallVi (rest := []) S hw (c_X2_holds hdj hzz hx2 g1_ h3_) my_X2_holds mi_X2_holds ml_X2_68 zd_54 zc_X2 rfl (Zrr hR (by decide)) ⟨Nat.zero_le _, Nat.zero_le _⟩ hl.1 rfl rfl (Nat.le_of_ble_eq_true rfl) dX2_fewestLanes_13 (fun hrr4_ hzz2_ H locs hw => ?_)
    refine Yif_ne (tgt := 22) S hrr4_ dX2_fewestLanes_16 (by decide) (fun c5_ => ?_) (fun c5_ => ?_)
    · replace hF := ZtN c5_ hF
      refine lv_iconst (v := i32 0) S.1 S.2.1 dX2_fewestLanes_22 ic_0 ?_
      refine lv_istore (lv' := [(4, .int (i32 (0))), (3, .int (i32 (jshl 1 (z 54 0)))), (0, .ref (ad 54)), (1, .ref (ad 11)), (2, .int (i32 (x2)))]) S.1 S.2.1 dX2_fewestLanes_23 hl (by decide) rfl (fun ls hl => ?_)
      exact w_X2_fewestLanes_L25 S hr hlk hR hdj Zfuel _ _ _ _ _ _ _ hF hw hzz2_ hx2 (InR_of _) r_0 (lv_sub hl [2, 3, 4, 1, 0] rfl)
    · replace hF := ZtP c5_ hF
      refine lv_bipush (v := i32 (-9)) S.1 S.2.1 dX2_fewestLanes_19 bp_m9 ?_
      exact Yireti S hw hzz2_ r_m9 hr hlk hF dX2_fewestLanes_21)
set_option maxRecDepth 100000 in
set_option maxHeartbeats 4000000 in
theorem w_X10_lanes_b46 {RR : Int × ZI} (S : CallFix p m c cX10_lanes 4 s args Ztbl RX10) (hr : meth.sig.returnType = some .int) (hlk : meth.locks = false) (hR : 5 ≤ R.frames ∧ 60 * (5) ≤ R.locals) (hdj : Zdj ad) : ∀ (z : ZI) (y0 : Int) (H : Heap) (locs : List Loc) (ls : Array Slot), X10_lanes_b46 z y0 = some RR → ZW D cA ad (ZA ad) (Zc z) s H locs → Zok z → InR y0 → lv_has ls 4 [] → W p l e R s m args below meth c H locs 0 0 (MQ below (YQi D cA ad RR.1 RR.2) args s 0 0 (ZA ad)) (F0 m 46 ls [.int (i32 (y0))]) := by
  intro z y0 H locs ls hF hw hzz hy0 hl
  unfold X10_lanes_b46 at hF
  exact Yireti S hw hzz hy0 hr hlk hF dX10_lanes_46
set_option maxRecDepth 100000 in
set_option maxHeartbeats 4000000 in
theorem c_X10_lanes {l : Launch} {D : va_G} {cA : Nat → ClassId} {ad : Nat → Nat} (hdj : Zdj ad) {z z1 : ZI} {x1 : Int} {x2 : Int} {r : Int} (hzz : Zok z) (hx1 : InR x1) (hx2 : InR x2) (hF : F_X10_lanes z x1 x2 = some (r, z1)) : YMi l D cA ad (5) yX10_lanes cX10_lanes 4 (some .int) [.ref (ad 0), .int (i32 x1), .int (i32 x2)] z r z1 :=
  Zmet hdj (by decide) rfl (Nat.le_of_ble_eq_true rfl) (lv := [(0, .ref (ad 0)), (1, .int (i32 (x1))), (2, .int (i32 (x2)))]) rfl (fun p e s m args below meth c ls S hr hlk hw hl => by
    have hR : 5 ≤ (Zrm (5)).frames ∧ 60 * (5) ≤ (Zrm (5)).locals := ⟨Nat.le_refl _, Nat.le_refl _⟩
    unfold F_X10_lanes at hF
    revert hR
    generalize Zrm (5) = R
    intro hR
    refine lv_iload_n S.1 S.2.1 dX10_lanes_0 rfl (lv_at hl 1 rfl) ?_
    obtain ⟨r3_, z1_, h2_, hF⟩ := Ybs hF
    refine YcallSi (rest := []) S hw (c_X10_isWind hdj hzz hx1 h2_) my_X10_isWind ms_X10_isWind ml_X10_272 (Zrr hR (by decide)) ⟨Nat.zero_le _, Nat.zero_le _⟩ hl.1 rfl rfl (Nat.le_of_ble_eq_true rfl) dX10_lanes_1 (fun hrr3_ hzz1_ H locs hw => ?_)
    refine Yif_ne (tgt := 14) S hrr3_ dX10_lanes_4 (by decide) (fun c4_ => ?_) (fun c4_ => ?_)
    · replace hF := ZtN c4_ hF
      refine lv_iload_n S.1 S.2.1 dX10_lanes_14 rfl (lv_at hl 2 rfl) ?_
      refine lv_iconst (v := i32 1) S.1 S.2.1 dX10_lanes_15 ic_1 ?_
      refine lv_bipush (v := i32 30) S.1 S.2.1 dX10_lanes_16 bp_30 ?_
      obtain ⟨r7_, z5_, h6_, hF⟩ := Ybs hF
      refine YcallSi (rest := []) S hw (c_X10_checkRange hdj hzz1_ hx2 r_1 r_30 h6_) my_X10_checkRange ms_X10_checkRange ml_X10_85 (Zrr hR (by decide)) ⟨Nat.zero_le _, Nat.zero_le _⟩ hl.1 rfl rfl (Nat.le_of_ble_eq_true rfl) dX10_lanes_18 (fun hrr7_ hzz5_ H locs hw => ?_)
      refine lv_istore_n (lv' := [(3, .int (i32 (r7_))), (0, .ref (ad 0)), (1, .int (i32 (x1))), (2, .int (i32 (x2)))]) S.1 S.2.1 dX10_lanes_21 rfl hl (by decide) rfl (fun ls hl => ?_)
      refine lv_iload_n S.1 S.2.1 dX10_lanes_22 rfl (lv_at hl 0 rfl) ?_
      refine Yif_ne (tgt := 41) S hrr7_ dX10_lanes_23 (by decide) (fun c8_ => ?_) (fun c8_ => ?_)
      · replace hF := ZtN c8_ hF
        refine lv_aload_n S.1 S.2.1 dX10_lanes_41 rfl (lv_at hl 1 rfl) ?_
        refine lv_iload_n S.1 S.2.1 dX10_lanes_42 rfl (lv_at hl 0 rfl) ?_
        obtain ⟨r11_, z9_, h10_, hF⟩ := Ybs hF
        refine YcallVi (rest := []) S hw (c_X10_refuse hdj hzz5_ hrr7_ h10_) my_X10_refuse mi_X10_refuse ml_X10_81 zd_0 zc_X10 rfl (Zrr hR (by decide)) ⟨Nat.zero_le _, Nat.zero_le _⟩ hl.1 rfl rfl (Nat.le_of_ble_eq_true rfl) dX10_lanes_43 (fun hrr11_ hzz9_ H locs hw => ?_)
        exact w_X10_lanes_b46 S hr hlk hR hdj _ _ _ _ _ hF hw hzz9_ hrr11_ (lv_sub hl [] rfl)
      · replace hF := ZtP c8_ hF
        refine lv_aload_n S.1 S.2.1 dX10_lanes_26 rfl (lv_at hl 1 rfl) ?_
        refine gf_X10_62 S hw dX10_lanes_27 ?_
        refine lv_aload_n S.1 S.2.1 dX10_lanes_30 rfl (lv_at hl 1 rfl) ?_
        refine gf_X10_27 S hw dX10_lanes_31 ?_
        refine lv_iload_n S.1 S.2.1 dX10_lanes_34 rfl (lv_at hl 3 rfl) ?_
        obtain ⟨r14_, z12_, h13_, hF⟩ := Ybs hF
        refine YcallVi (rest := []) S hw (c_X2_fewestLanes hdj hzz5_ hx2 h13_) my_X2_fewestLanes mi_X2_fewestLanes ml_X10_285 zd_54 zc_X2 rfl (Zrr hR (by decide)) ⟨Nat.zero_le _, Nat.zero_le _⟩ hl.1 rfl rfl (Nat.le_of_ble_eq_true rfl) dX10_lanes_35 (fun hrr14_ hzz12_ H locs hw => ?_)
        refine lv_goto (tgt := 46) S.1 S.2.1 dX10_lanes_38 (by decide) ?_
        exact w_X10_lanes_b46 S hr hlk hR hdj _ _ _ _ _ hF hw hzz12_ hrr14_ (lv_sub hl [] rfl)
    · replace hF := ZtP c4_ hF
      refine lv_aload_n S.1 S.2.1 dX10_lanes_7 rfl (lv_at hl 0 rfl) ?_
      refine lv_bipush (v := i32 (-2)) S.1 S.2.1 dX10_lanes_8 bp_m2 ?_
      obtain ⟨r17_, z15_, h16_, hF⟩ := Ybs hF
      refine YcallVi (rest := []) S hw (c_X10_refuse hdj hzz1_ r_m2 h16_) my_X10_refuse mi_X10_refuse ml_X10_81 zd_0 zc_X10 rfl (Zrr hR (by decide)) ⟨Nat.zero_le _, Nat.zero_le _⟩ hl.1 rfl rfl (Nat.le_of_ble_eq_true rfl) dX10_lanes_10 (fun hrr17_ hzz15_ H locs hw => ?_)
      exact Yireti S hw hzz15_ hrr17_ hr hlk hF dX10_lanes_13)
set_option maxRecDepth 100000 in
set_option maxHeartbeats 4000000 in
theorem w_X4_addLatrine_b26 {RR : Int × ZI} (S : CallFix p m c cX4_addLatrine 3 s args Ztbl RX4) (hr : meth.sig.returnType = some .int) (hlk : meth.locks = false) (hR : 0 ≤ R.frames ∧ 60 * (0) ≤ R.locals) (hdj : Zdj ad) : ∀ (z : ZI) (H : Heap) (locs : List Loc) (ls : Array Slot), X4_addLatrine_b26 z  = some RR → ZW D cA ad (ZA ad) (Zc z) s H locs → Zok z → lv_has ls 3 [(0, .ref (ad 2))] → W p l e R s m args below meth c H locs 0 0 (MQ below (YQi D cA ad RR.1 RR.2) args s 0 0 (ZA ad)) (F0 m 26 ls []) := by
  intro z  H locs ls hF hw hzz  hl
  unfold X4_addLatrine_b26 at hF
  refine lv_aload_n S.1 S.2.1 dX4_addLatrine_26 rfl (lv_at hl 0 rfl) ?_
  refine lv_dup S.1 S.2.1 dX4_addLatrine_27 rfl ?_
  refine gg_X4_60 S hw dX4_addLatrine_28 ?_
  refine lv_dup_x1 S.1 S.2.1 dX4_addLatrine_31 rfl rfl ?_
  refine lv_iconst (v := i32 1) S.1 S.2.1 dX4_addLatrine_32 ic_1 ?_
  obtain ⟨g1_, hF⟩ := Zgs hF
  refine Yiadd S dX4_addLatrine_33 ?_
  refine pp_X4_60 S hw hzz g1_ dX4_addLatrine_34 (fun z2_ H locs ez hzz2_ hw => ?_)
  replace hF := Zle ez hF; clear ez
  exact Yireti S hw hzz2_ (hzz.1 2 2 (by decide)) hr hlk hF dX4_addLatrine_37
set_option maxRecDepth 100000 in
set_option maxHeartbeats 4000000 in
theorem w_X4_addLatrine_b19 {RR : Int × ZI} (S : CallFix p m c cX4_addLatrine 3 s args Ztbl RX4) (hr : meth.sig.returnType = some .int) (hlk : meth.locks = false) (hR : 0 ≤ R.frames ∧ 60 * (0) ≤ R.locals) (hdj : Zdj ad) : ∀ (z : ZI) (x1 : Int) (x2 : Int) (H : Heap) (locs : List Loc) (ls : Array Slot), X4_addLatrine_b19 z x1 x2 = some RR → ZW D cA ad (ZA ad) (Zc z) s H locs → Zok z → InR x1 → InR x2 → lv_has ls 3 [(0, .ref (ad 2)), (1, .int (i32 (x1))), (2, .int (i32 (x2)))] → W p l e R s m args below meth c H locs 0 0 (MQ below (YQi D cA ad RR.1 RR.2) args s 0 0 (ZA ad)) (F0 m 19 ls []) := by
  intro z x1 x2 H locs ls hF hw hzz hx1 hx2 hl
  unfold X4_addLatrine_b19 at hF
  refine lv_aload_n S.1 S.2.1 dX4_addLatrine_19 rfl (lv_at hl 0 rfl) ?_
  refine gf_X4_21 S hw dX4_addLatrine_20 ?_
  refine lv_iload_n S.1 S.2.1 dX4_addLatrine_23 rfl (lv_at hl 1 rfl) ?_
  refine lv_iload_n S.1 S.2.1 dX4_addLatrine_24 rfl (lv_at hl 2 rfl) ?_
  obtain ⟨b1_, hF⟩ := Zgs hF
  refine Yiast S hw hzz zd_4 (by decide) hx1 hx2 b1_ dX4_addLatrine_25 (fun z2_ H locs ez hzz2_ hw => ?_)
  replace hF := Zle ez hF; clear ez
  exact w_X4_addLatrine_b26 S hr hlk hR hdj _ _ _ _ hF hw hzz2_  (lv_sub hl [0] rfl)
set_option maxRecDepth 100000 in
set_option maxHeartbeats 4000000 in
theorem c_X4_addLatrine {l : Launch} {D : va_G} {cA : Nat → ClassId} {ad : Nat → Nat} (hdj : Zdj ad) {z z1 : ZI} {x1 : Int} {x2 : Int} {r : Int} (hzz : Zok z) (hx1 : InR x1) (hx2 : InR x2) (hF : F_X4_addLatrine z x1 x2 = some (r, z1)) : YMi l D cA ad (0) yX4_addLatrine cX4_addLatrine 3 (some .int) [.ref (ad 2), .int (i32 x1), .int (i32 x2)] z r z1 :=
  Zmet hdj (by decide) rfl (Nat.le_of_ble_eq_true rfl) (lv := [(0, .ref (ad 2)), (1, .int (i32 (x1))), (2, .int (i32 (x2)))]) rfl (fun p e s m args below meth c ls S hr hlk hw hl => by
    have hR : 0 ≤ (Zrm (0)).frames ∧ 60 * (0) ≤ (Zrm (0)).locals := ⟨Nat.le_refl _, Nat.le_refl _⟩
    unfold F_X4_addLatrine at hF
    revert hR
    generalize Zrm (0) = R
    intro hR
    refine lv_aload_n S.1 S.2.1 dX4_addLatrine_0 rfl (lv_at hl 0 rfl) ?_
    refine gf_X4_21 S hw dX4_addLatrine_1 ?_
    refine lv_iload_n S.1 S.2.1 dX4_addLatrine_4 rfl (lv_at hl 1 rfl) ?_
    obtain ⟨b1_, hF⟩ := Zgs hF
    refine Yiald S hw zd_4 (by decide) hx1 b1_ dX4_addLatrine_5 ?_
    refine Yif_eq (tgt := 19) S (hzz.1 _ _ (by decide)) dX4_addLatrine_6 (by decide) (fun c2_ => ?_) (fun c2_ => ?_)
    · replace hF := ZtP c2_ hF
      exact w_X4_addLatrine_b19 S hr hlk hR hdj _ _ _ _ _ _ hF hw hzz hx1 hx2 (lv_sub hl [0, 1, 2] rfl)
    · replace hF := ZtN c2_ hF
      refine lv_iload_n S.1 S.2.1 dX4_addLatrine_9 rfl (lv_at hl 2 rfl) ?_
      refine lv_aload_n S.1 S.2.1 dX4_addLatrine_10 rfl (lv_at hl 0 rfl) ?_
      refine gf_X4_21 S hw dX4_addLatrine_11 ?_
      refine lv_iload_n S.1 S.2.1 dX4_addLatrine_14 rfl (lv_at hl 1 rfl) ?_
      obtain ⟨b3_, hF⟩ := Zgs hF
      refine Yiald S hw zd_4 (by decide) hx1 b3_ dX4_addLatrine_15 ?_
      refine Yicmp_ge (tgt := 26) S hx2 (hzz.1 _ _ (by decide)) dX4_addLatrine_16 (by decide) (fun c4_ => ?_) (fun c4_ => ?_)
      · replace hF := ZtP c4_ hF
        exact w_X4_addLatrine_b26 S hr hlk hR hdj _ _ _ _ hF hw hzz  (lv_sub hl [0] rfl)
      · replace hF := ZtN c4_ hF
        exact w_X4_addLatrine_b19 S hr hlk hR hdj _ _ _ _ _ _ hF hw hzz hx1 hx2 (lv_sub hl [0, 1, 2] rfl))
set_option maxRecDepth 100000 in
set_option maxHeartbeats 4000000 in
theorem w_X10_latrine_b43 {RR : Int × ZI} (S : CallFix p m c cX10_latrine 3 s args Ztbl RX10) (hr : meth.sig.returnType = some .int) (hlk : meth.locks = false) (hR : 1 ≤ R.frames ∧ 60 * (1) ≤ R.locals) (hdj : Zdj ad) : ∀ (z : ZI) (H : Heap) (locs : List Loc) (ls : Array Slot), X10_latrine_b43 z  = some RR → ZW D cA ad (ZA ad) (Zc z) s H locs → Zok z → lv_has ls 3 [(0, .ref (ad 0))] → W p l e R s m args below meth c H locs 0 0 (MQ below (YQi D cA ad RR.1 RR.2) args s 0 0 (ZA ad)) (F0 m 43 ls []) := by
  intro z  H locs ls hF hw hzz  hl
  unfold X10_latrine_b43 at hF
  refine lv_aload_n S.1 S.2.1 dX10_latrine_43 rfl (lv_at hl 0 rfl) ?_
  refine lv_bipush (v := i32 (-6)) S.1 S.2.1 dX10_latrine_44 bp_m6 ?_
  obtain ⟨r3_, z1_, h2_, hF⟩ := Ybs hF
  refine YcallVi (rest := []) S hw (c_X10_refuse hdj hzz r_m6 h2_) my_X10_refuse mi_X10_refuse ml_X10_81 zd_0 zc_X10 rfl (Zrr hR (by decide)) ⟨Nat.zero_le _, Nat.zero_le _⟩ hl.1 rfl rfl (Nat.le_of_ble_eq_true rfl) dX10_latrine_46 (fun hrr3_ hzz1_ H locs hw => ?_)
  exact Yireti S hw hzz1_ hrr3_ hr hlk hF dX10_latrine_49
set_option maxRecDepth 100000 in
set_option maxHeartbeats 4000000 in
theorem c_X10_latrine {l : Launch} {D : va_G} {cA : Nat → ClassId} {ad : Nat → Nat} (hdj : Zdj ad) {z z1 : ZI} {x1 : Int} {x2 : Int} {r : Int} (hzz : Zok z) (hx1 : InR x1) (hx2 : InR x2) (hF : F_X10_latrine z x1 x2 = some (r, z1)) : YMi l D cA ad (1) yX10_latrine cX10_latrine 3 (some .int) [.ref (ad 0), .int (i32 x1), .int (i32 x2)] z r z1 :=
  Zmet hdj (by decide) rfl (Nat.le_of_ble_eq_true rfl) (lv := [(0, .ref (ad 0)), (1, .int (i32 (x1))), (2, .int (i32 (x2)))]) rfl (fun p e s m args below meth c ls S hr hlk hw hl => by
    have hR : 1 ≤ (Zrm (1)).frames ∧ 60 * (1) ≤ (Zrm (1)).locals := ⟨Nat.le_refl _, Nat.le_refl _⟩
    unfold F_X10_latrine at hF
    revert hR
    generalize Zrm (1) = R
    intro hR
    refine lv_iload_n S.1 S.2.1 dX10_latrine_0 rfl (lv_at hl 1 rfl) ?_
    obtain ⟨r3_, z1_, h2_, hF⟩ := Ybs hF
    refine YcallSi (rest := []) S hw (c_X10_isCell hdj hzz hx1 h2_) my_X10_isCell ms_X10_isCell ml_X10_89 (Zrr hR (by decide)) ⟨Nat.zero_le _, Nat.zero_le _⟩ hl.1 rfl rfl (Nat.le_of_ble_eq_true rfl) dX10_latrine_1 (fun hrr3_ hzz1_ H locs hw => ?_)
    refine Yif_ne (tgt := 13) S hrr3_ dX10_latrine_4 (by decide) (fun c4_ => ?_) (fun c4_ => ?_)
    · replace hF := ZtN c4_ hF
      refine lv_iload_n S.1 S.2.1 dX10_latrine_13 rfl (lv_at hl 2 rfl) ?_
      refine lv_iconst (v := i32 1) S.1 S.2.1 dX10_latrine_14 ic_1 ?_
      refine Yicmp_ge (tgt := 25) S hx2 r_1 dX10_latrine_15 (by decide) (fun c5_ => ?_) (fun c5_ => ?_)
      · replace hF := ZtP c5_ hF
        refine lv_iload_n S.1 S.2.1 dX10_latrine_25 rfl (lv_at hl 2 rfl) ?_
        refine lv_ldc (own := RX10) (v := i32 99999) S.1 S.2.1 S.2.2.2.1 (S.2.2.2.2 _ yc_X10_239) dX10_latrine_26 ?_
        refine Yicmp_gt (tgt := 43) S hx2 r_99999 dX10_latrine_28 (by decide) (fun c6_ => ?_) (fun c6_ => ?_)
        · replace hF := ZtP c6_ hF
          exact w_X10_latrine_b43 S hr hlk hR hdj _ _ _ _ hF hw hzz1_  (lv_sub hl [0] rfl)
        · replace hF := ZtN c6_ hF
          refine lv_aload_n S.1 S.2.1 dX10_latrine_31 rfl (lv_at hl 0 rfl) ?_
          refine gf_X10_20 S hw dX10_latrine_32 ?_
          refine gg_X10_240 S hw dX10_latrine_35 ?_
          refine lv_bipush (v := i32 14) S.1 S.2.1 dX10_latrine_38 bp_14 ?_
          refine Yicmp_lt (tgt := 50) S (hzz1_.1 2 2 (by decide)) r_14 dX10_latrine_40 (by decide) (fun c7_ => ?_) (fun c7_ => ?_)
          · replace hF := ZtP c7_ hF
            refine lv_aload_n S.1 S.2.1 dX10_latrine_50 rfl (lv_at hl 0 rfl) ?_
            refine gf_X10_20 S hw dX10_latrine_51 ?_
            refine lv_iload_n S.1 S.2.1 dX10_latrine_54 rfl (lv_at hl 1 rfl) ?_
            refine lv_iload_n S.1 S.2.1 dX10_latrine_55 rfl (lv_at hl 2 rfl) ?_
            obtain ⟨r10_, z8_, h9_, hF⟩ := Ybs hF
            refine YcallVi (rest := []) S hw (c_X4_addLatrine hdj hzz1_ hx1 hx2 h9_) my_X4_addLatrine mi_X4_addLatrine ml_X10_243 zd_2 zc_X4 rfl (Zrr hR (by decide)) ⟨Nat.zero_le _, Nat.zero_le _⟩ hl.1 rfl rfl (Nat.le_of_ble_eq_true rfl) dX10_latrine_56 (fun hrr10_ hzz8_ H locs hw => ?_)
            exact Yireti S hw hzz8_ hrr10_ hr hlk hF dX10_latrine_59
          · replace hF := ZtN c7_ hF
            exact w_X10_latrine_b43 S hr hlk hR hdj _ _ _ _ hF hw hzz1_  (lv_sub hl [0] rfl)
      · replace hF := ZtN c5_ hF
        refine lv_aload_n S.1 S.2.1 dX10_latrine_18 rfl (lv_at hl 0 rfl) ?_
        refine lv_bipush (v := i32 (-4)) S.1 S.2.1 dX10_latrine_19 bp_m4 ?_
        obtain ⟨r13_, z11_, h12_, hF⟩ := Ybs hF
        refine YcallVi (rest := []) S hw (c_X10_refuse hdj hzz1_ r_m4 h12_) my_X10_refuse mi_X10_refuse ml_X10_81 zd_0 zc_X10 rfl (Zrr hR (by decide)) ⟨Nat.zero_le _, Nat.zero_le _⟩ hl.1 rfl rfl (Nat.le_of_ble_eq_true rfl) dX10_latrine_21 (fun hrr13_ hzz11_ H locs hw => ?_)
        exact Yireti S hw hzz11_ hrr13_ hr hlk hF dX10_latrine_24
    · replace hF := ZtP c4_ hF
      refine lv_aload_n S.1 S.2.1 dX10_latrine_7 rfl (lv_at hl 0 rfl) ?_
      refine lv_iconst (v := i32 (-1)) S.1 S.2.1 dX10_latrine_8 ic_m1 ?_
      obtain ⟨r16_, z14_, h15_, hF⟩ := Ybs hF
      refine YcallVi (rest := []) S hw (c_X10_refuse hdj hzz1_ r_m1 h15_) my_X10_refuse mi_X10_refuse ml_X10_81 zd_0 zc_X10 rfl (Zrr hR (by decide)) ⟨Nat.zero_le _, Nat.zero_le _⟩ hl.1 rfl rfl (Nat.le_of_ble_eq_true rfl) dX10_latrine_9 (fun hrr16_ hzz14_ H locs hw => ?_)
      exact Yireti S hw hzz14_ hrr16_ hr hlk hF dX10_latrine_12)
set_option maxRecDepth 100000 in
set_option maxHeartbeats 4000000 in
theorem c_X10_list {l : Launch} {D : va_G} {cA : Nat → ClassId} {ad : Nat → Nat} (hdj : Zdj ad) {z z1 : ZI} {x1 : Int} {x2 : Int} {r : Int} (hzz : Zok z) (hx1 : InR x1) (hx2 : InR x2) (hF : F_X10_list z x1 x2 = some (r, z1)) : YMi l D cA ad (47) yX10_list cX10_list 4 (some .int) [.ref (ad 0), .int (i32 x1), .int (i32 x2)] z r z1 :=
  Zmet hdj (by decide) rfl (Nat.le_of_ble_eq_true rfl) (lv := [(0, .ref (ad 0)), (1, .int (i32 (x1))), (2, .int (i32 (x2)))]) rfl (fun p e s m args below meth c ls S hr hlk hw hl => by
    have hR : 47 ≤ (Zrm (47)).frames ∧ 60 * (47) ≤ (Zrm (47)).locals := ⟨Nat.le_refl _, Nat.le_refl _⟩
    unfold F_X10_list at hF
    revert hR
    generalize Zrm (47) = R
    intro hR
    refine lv_iload_n S.1 S.2.1 dX10_list_0 rfl (lv_at hl 1 rfl) ?_
    refine lv_iconst (v := i32 0) S.1 S.2.1 dX10_list_1 ic_0 ?_
    refine lv_sipush (v := i32 999) S.1 S.2.1 dX10_list_2 sp_999 ?_
    obtain ⟨r3_, z1_, h2_, hF⟩ := Ybs hF
    refine YcallSi (rest := []) S hw (c_X10_checkRange hdj hzz hx1 r_0 r_999 h2_) my_X10_checkRange ms_X10_checkRange ml_X10_85 (Zrr hR (by decide)) ⟨Nat.zero_le _, Nat.zero_le _⟩ hl.1 rfl rfl (Nat.le_of_ble_eq_true rfl) dX10_list_5 (fun hrr3_ hzz1_ H locs hw => ?_)
    refine lv_istore_n (lv' := [(3, .int (i32 (r3_))), (0, .ref (ad 0)), (1, .int (i32 (x1))), (2, .int (i32 (x2)))]) S.1 S.2.1 dX10_list_8 rfl hl (by decide) rfl (fun ls hl => ?_)
    refine lv_iload_n S.1 S.2.1 dX10_list_9 rfl (lv_at hl 0 rfl) ?_
    refine Yif_eq (tgt := 19) S hrr3_ dX10_list_10 (by decide) (fun c4_ => ?_) (fun c4_ => ?_)
    · replace hF := ZtP c4_ hF
      refine lv_aload_n S.1 S.2.1 dX10_list_19 rfl (lv_at hl 1 rfl) ?_
      refine gf_X10_69 S hw dX10_list_20 ?_
      refine lv_aload_n S.1 S.2.1 dX10_list_23 rfl (lv_at hl 1 rfl) ?_
      refine gf_X10_27 S hw dX10_list_24 ?_
      refine lv_aload_n S.1 S.2.1 dX10_list_27 rfl (lv_at hl 1 rfl) ?_
      refine gf_X10_34 S hw dX10_list_28 ?_
      refine lv_iload_n S.1 S.2.1 dX10_list_31 rfl (lv_at hl 2 rfl) ?_
      obtain ⟨r7_, z5_, h6_, hF⟩ := Ybs hF
      refine YcallVi (rest := []) S hw (c_X5_rank hdj hzz1_ hx1 h6_) my_X5_rank mi_X5_rank ml_X10_299 zd_59 zc_X5 rfl (Zrr hR (by decide)) ⟨Nat.zero_le _, Nat.zero_le _⟩ hl.1 rfl rfl (Nat.le_of_ble_eq_true rfl) dX10_list_32 (fun hrr7_ hzz5_ H locs hw => ?_)
      refine lv_pop S.1 S.2.1 dX10_list_35 rfl ?_
      refine lv_aload_n S.1 S.2.1 dX10_list_36 rfl (lv_at hl 1 rfl) ?_
      refine gf_X10_69 S hw dX10_list_37 ?_
      refine lv_iload_n S.1 S.2.1 dX10_list_40 rfl (lv_at hl 3 rfl) ?_
      obtain ⟨r10_, z8_, h9_, hF⟩ := Ybs hF
      refine YcallVi (rest := []) S hw (c_X5_rankedAt hdj hzz5_ hx2 h9_) my_X5_rankedAt mi_X5_rankedAt ml_X10_303 zd_59 zc_X5 rfl (Zrr hR (by decide)) ⟨Nat.zero_le _, Nat.zero_le _⟩ hl.1 rfl rfl (Nat.le_of_ble_eq_true rfl) dX10_list_41 (fun hrr10_ hzz8_ H locs hw => ?_)
      exact Yireti S hw hzz8_ hrr10_ hr hlk hF dX10_list_44
    · replace hF := ZtN c4_ hF
      refine lv_aload_n S.1 S.2.1 dX10_list_13 rfl (lv_at hl 1 rfl) ?_
      refine lv_iload_n S.1 S.2.1 dX10_list_14 rfl (lv_at hl 0 rfl) ?_
      obtain ⟨r13_, z11_, h12_, hF⟩ := Ybs hF
      refine YcallVi (rest := []) S hw (c_X10_refuse hdj hzz1_ hrr3_ h12_) my_X10_refuse mi_X10_refuse ml_X10_81 zd_0 zc_X10 rfl (Zrr hR (by decide)) ⟨Nat.zero_le _, Nat.zero_le _⟩ hl.1 rfl rfl (Nat.le_of_ble_eq_true rfl) dX10_list_15 (fun hrr13_ hzz11_ H locs hw => ?_)
      exact Yireti S hw hzz11_ hrr13_ hr hlk hF dX10_list_18)
set_option maxRecDepth 100000 in
set_option maxHeartbeats 4000000 in
theorem w_X2_stepMinutes_b21 {RR : Int × ZI} (S : CallFix p m c cX2_stepMinutes 2 s args Ztbl RX2) (hr : meth.sig.returnType = some .int) (hlk : meth.locks = false) (hR : 0 ≤ R.frames ∧ 60 * (0) ≤ R.locals) (hdj : Zdj ad) : ∀ (z : ZI) (y0 : Int) (H : Heap) (locs : List Loc) (ls : Array Slot), X2_stepMinutes_b21 z y0 = some RR → ZW D cA ad (ZA ad) (Zc z) s H locs → Zok z → InR y0 → lv_has ls 2 [] → W p l e R s m args below meth c H locs 0 0 (MQ below (YQi D cA ad RR.1 RR.2) args s 0 0 (ZA ad)) (F0 m 21 ls [.int (i32 (y0))]) := by
  intro z y0 H locs ls hF hw hzz hy0 hl
  unfold X2_stepMinutes_b21 at hF
  exact Yireti S hw hzz hy0 hr hlk hF dX2_stepMinutes_21
set_option maxRecDepth 100000 in
set_option maxHeartbeats 4000000 in
theorem c_X2_stepMinutes {l : Launch} {D : va_G} {cA : Nat → ClassId} {ad : Nat → Nat} (hdj : Zdj ad) {z z1 : ZI} {x0 : Int} {x1 : Int} {r : Int} (hzz : Zok z) (hx0 : InR x0) (hx1 : InR x1) (hF : F_X2_stepMinutes z x0 x1 = some (r, z1)) : YMi l D cA ad (0) yX2_stepMinutes cX2_stepMinutes 2 (some .int) [.int (i32 x0), .int (i32 x1)] z r z1 :=
  Zmet hdj (by decide) rfl (Nat.le_of_ble_eq_true rfl) (lv := [(0, .int (i32 (x0))), (1, .int (i32 (x1)))]) rfl (fun p e s m args below meth c ls S hr hlk hw hl => by
    have hR : 0 ≤ (Zrm (0)).frames ∧ 60 * (0) ≤ (Zrm (0)).locals := ⟨Nat.le_refl _, Nat.le_refl _⟩
    unfold F_X2_stepMinutes at hF
    revert hR
    generalize Zrm (0) = R
    intro hR
    refine lv_iload_n S.1 S.2.1 dX2_stepMinutes_0 rfl (lv_at hl 0 rfl) ?_
    refine lv_iload_n S.1 S.2.1 dX2_stepMinutes_1 rfl (lv_at hl 1 rfl) ?_
    refine Yicmp_ne (tgt := 7) S hx0 hx1 dX2_stepMinutes_2 (by decide) (fun c1_ => ?_) (fun c1_ => ?_)
    · replace hF := ZtN c1_ hF
      refine lv_iload_n S.1 S.2.1 dX2_stepMinutes_7 rfl (lv_at hl 0 rfl) ?_
      refine lv_iload_n S.1 S.2.1 dX2_stepMinutes_8 rfl (lv_at hl 1 rfl) ?_
      refine lv_iconst (v := i32 2) S.1 S.2.1 dX2_stepMinutes_9 ic_2 ?_
      obtain ⟨g2_, hF⟩ := Zgs hF
      refine Yiadd S dX2_stepMinutes_10 ?_
      refine lv_iconst (v := i32 4) S.1 S.2.1 dX2_stepMinutes_11 ic_4 ?_
      refine Yirem S g2_ r_4 (by decide) dX2_stepMinutes_12 ?_
      refine Yicmp_ne (tgt := 20) S hx0 (InR_tmod g2_) dX2_stepMinutes_13 (by decide) (fun c3_ => ?_) (fun c3_ => ?_)
      · replace hF := ZtN c3_ hF
        refine lv_iconst (v := i32 2) S.1 S.2.1 dX2_stepMinutes_20 ic_2 ?_
        exact w_X2_stepMinutes_b21 S hr hlk hR hdj _ _ _ _ _ hF hw hzz r_2 (lv_sub hl [] rfl)
      · replace hF := ZtP c3_ hF
        refine lv_iconst (v := i32 4) S.1 S.2.1 dX2_stepMinutes_16 ic_4 ?_
        refine lv_goto (tgt := 21) S.1 S.2.1 dX2_stepMinutes_17 (by decide) ?_
        exact w_X2_stepMinutes_b21 S hr hlk hR hdj _ _ _ _ _ hF hw hzz r_4 (lv_sub hl [] rfl)
    · replace hF := ZtP c1_ hF
      refine lv_iconst (v := i32 1) S.1 S.2.1 dX2_stepMinutes_5 ic_1 ?_
      exact Yireti S hw hzz r_1 hr hlk hF dX2_stepMinutes_6)
set_option maxRecDepth 100000 in
set_option maxHeartbeats 4000000 in
theorem w_X2_spread_b85 {RR : Int × ZI} (S : CallFix p m c cX2_spread 9 s args Ztbl RX2) (hr : meth.sig.returnType = some .boolean) (hlk : meth.locks = false) (hR : 2 ≤ R.frames ∧ 60 * (2) ≤ R.locals) (hdj : Zdj ad) {k6 : ZI → Int → Int → Int → Int → Int → Option (Int × ZI)} (hk6 : ∀ (z : ZI) (x2 : Int) (x3 : Int) (x4 : Int) (x5 : Int) (x6 : Int) (H : Heap) (locs : List Loc) (ls : Array Slot), k6 z x2 x3 x4 x5 x6 = some RR → ZW D cA ad (ZA ad) (Zc z) s H locs → Zok z → InR x2 → InR x3 → InR x4 → InR x5 → InR x6 → lv_has ls 9 [(0, .ref (ad 54)), (1, .ref (ad 11)), (2, .int (i32 (x2))), (3, .int (i32 (x3))), (4, .int (i32 (x4))), (5, .int (i32 (x5))), (6, .int (i32 (x6)))] → W p l e R s m args below meth c H locs 0 0 (MQ below (YQi D cA ad RR.1 RR.2) args s 0 0 (ZA ad)) (F0 m 6 ls [])) : ∀ (z : ZI) (x2 : Int) (x3 : Int) (x4 : Int) (x5 : Int) (x6 : Int) (H : Heap) (locs : List Loc) (ls : Array Slot), X2_spread_b85 k6 z x2 x3 x4 x5 x6 = some RR → ZW D cA ad (ZA ad) (Zc z) s H locs → Zok z → InR x2 → InR x3 → InR x4 → InR x5 → InR x6 → lv_has ls 9 [(0, .ref (ad 54)), (1, .ref (ad 11)), (2, .int (i32 (x2))), (3, .int (i32 (x3))), (4, .int (i32 (x4))), (5, .int (i32 (x5))), (6, .int (i32 (x6)))] → W p l e R s m args below meth c H locs 0 0 (MQ below (YQi D cA ad RR.1 RR.2) args s 0 0 (ZA ad)) (F0 m 85 ls []) := by
  intro z x2 x3 x4 x5 x6 H locs ls hF hw hzz hx2 hx3 hx4 hx5 hx6 hl
  unfold X2_spread_b85 at hF
  obtain ⟨g1_, hF⟩ := Zgs hF
  refine lv_iinc (v := i32 (x6 + 1)) (lv' := [(6, .int (i32 (x6 + 1))), (0, .ref (ad 54)), (1, .ref (ad 11)), (2, .int (i32 (x2))), (3, .int (i32 (x3))), (4, .int (i32 (x4))), (5, .int (i32 (x5)))]) S.1 S.2.1 dX2_spread_85 hl (k := 6) rfl Yiinc (by decide) rfl (fun ls hl => ?_)
  refine lv_goto (tgt := 6) S.1 S.2.1 dX2_spread_88 (by decide) ?_
  exact hk6 _ _ _ _ _ _ _ _ _ hF hw hzz hx2 hx3 hx4 hx5 g1_ (lv_sub hl [1, 2, 3, 4, 5, 6, 0] rfl)
set_option maxRecDepth 100000 in
set_option maxHeartbeats 4000000 in
theorem w_X2_spread_b73 {RR : Int × ZI} (S : CallFix p m c cX2_spread 9 s args Ztbl RX2) (hr : meth.sig.returnType = some .boolean) (hlk : meth.locks = false) (hR : 2 ≤ R.frames ∧ 60 * (2) ≤ R.locals) (hdj : Zdj ad) {k6 : ZI → Int → Int → Int → Int → Int → Option (Int × ZI)} (hk6 : ∀ (z : ZI) (x2 : Int) (x3 : Int) (x4 : Int) (x5 : Int) (x6 : Int) (H : Heap) (locs : List Loc) (ls : Array Slot), k6 z x2 x3 x4 x5 x6 = some RR → ZW D cA ad (ZA ad) (Zc z) s H locs → Zok z → InR x2 → InR x3 → InR x4 → InR x5 → InR x6 → lv_has ls 9 [(0, .ref (ad 54)), (1, .ref (ad 11)), (2, .int (i32 (x2))), (3, .int (i32 (x3))), (4, .int (i32 (x4))), (5, .int (i32 (x5))), (6, .int (i32 (x6)))] → W p l e R s m args below meth c H locs 0 0 (MQ below (YQi D cA ad RR.1 RR.2) args s 0 0 (ZA ad)) (F0 m 6 ls [])) : ∀ (z : ZI) (x2 : Int) (x3 : Int) (x4 : Int) (x6 : Int) (x7 : Int) (x8 : Int) (H : Heap) (locs : List Loc) (ls : Array Slot), X2_spread_b73 k6 z x2 x3 x4 x6 x7 x8 = some RR → ZW D cA ad (ZA ad) (Zc z) s H locs → Zok z → InR x2 → InR x3 → InR x4 → InR x6 → InR x7 → InR x8 → lv_has ls 9 [(0, .ref (ad 54)), (1, .ref (ad 11)), (2, .int (i32 (x2))), (3, .int (i32 (x3))), (4, .int (i32 (x4))), (6, .int (i32 (x6))), (7, .int (i32 (x7))), (8, .int (i32 (x8)))] → W p l e R s m args below meth c H locs 0 0 (MQ below (YQi D cA ad RR.1 RR.2) args s 0 0 (ZA ad)) (F0 m 73 ls []) := by
  intro z x2 x3 x4 x6 x7 x8 H locs ls hF hw hzz hx2 hx3 hx4 hx6 hx7 hx8 hl
  unfold X2_spread_b73 at hF
  refine lv_aload_n S.1 S.2.1 dX2_spread_73 rfl (lv_at hl 0 rfl) ?_
  refine gf_X2_21 S hw dX2_spread_74 ?_
  refine lv_iload S.1 S.2.1 dX2_spread_77 (lv_at hl 6 rfl) ?_
  refine lv_iload S.1 S.2.1 dX2_spread_79 (lv_at hl 7 rfl) ?_
  obtain ⟨b1_, hF⟩ := Zgs hF
  refine Yiast S hw hzz zd_56 (by decide) hx7 hx8 b1_ dX2_spread_81 (fun z2_ H locs ez hzz2_ hw => ?_)
  replace hF := Zle ez hF; clear ez
  refine lv_iconst (v := i32 1) S.1 S.2.1 dX2_spread_82 ic_1 ?_
  refine lv_istore (lv' := [(5, .int (i32 (1))), (0, .ref (ad 54)), (1, .ref (ad 11)), (2, .int (i32 (x2))), (3, .int (i32 (x3))), (4, .int (i32 (x4))), (6, .int (i32 (x6))), (7, .int (i32 (x7))), (8, .int (i32 (x8)))]) S.1 S.2.1 dX2_spread_83 hl (by decide) rfl (fun ls hl => ?_)
  exact w_X2_spread_b85 S hr hlk hR hdj hk6 _ _ _ _ _ _ _ _ _ hF hw hzz2_ hx2 hx3 hx4 r_1 hx6 (lv_sub hl [1, 2, 3, 4, 5, 0, 6] rfl)
set_option maxRecDepth 100000 in
set_option maxHeartbeats 4000000 in
theorem w_X2_spread_L6 {RR : Int × ZI} (S : CallFix p m c cX2_spread 9 s args Ztbl RX2) (hr : meth.sig.returnType = some .boolean) (hlk : meth.locks = false) (hR : 2 ≤ R.frames ∧ 60 * (2) ≤ R.locals) (hdj : Zdj ad) : ∀ (n : Nat) (z : ZI) (x2 : Int) (x3 : Int) (x4 : Int) (x5 : Int) (x6 : Int) (H : Heap) (locs : List Loc) (ls : Array Slot), X2_spread_L6 n z x2 x3 x4 x5 x6 = some RR → ZW D cA ad (ZA ad) (Zc z) s H locs → Zok z → InR x2 → InR x3 → InR x4 → InR x5 → InR x6 → lv_has ls 9 [(0, .ref (ad 54)), (1, .ref (ad 11)), (2, .int (i32 (x2))), (3, .int (i32 (x3))), (4, .int (i32 (x4))), (5, .int (i32 (x5))), (6, .int (i32 (x6)))] → W p l e R s m args below meth c H locs 0 0 (MQ below (YQi D cA ad RR.1 RR.2) args s 0 0 (ZA ad)) (F0 m 6 ls []) := by
  intro n
  induction n with
  | zero => intro z x2 x3 x4 x5 x6 H locs ls hF; exact nomatch hF
  | succ n hk6 =>
    intro z x2 x3 x4 x5 x6 H locs ls hF hw hzz hx2 hx3 hx4 hx5 hx6 hl
    replace hF : X2_spread_L6b (X2_spread_L6 n) z x2 x3 x4 x5 x6 = some RR := hF
    unfold X2_spread_L6b at hF
    refine lv_iload S.1 S.2.1 dX2_spread_6 (lv_at hl 6 rfl) ?_
    refine lv_iconst (v := i32 4) S.1 S.2.1 dX2_spread_8 ic_4 ?_
    refine Yicmp_ge (tgt := 91) S hx6 r_4 dX2_spread_9 (by decide) (fun c1_ => ?_) (fun c1_ => ?_)
    · replace hF := ZtP c1_ hF
      refine lv_iload S.1 S.2.1 dX2_spread_91 (lv_at hl 5 rfl) ?_
      obtain ⟨b2_, hF⟩ := Zgs hF
      exact Yiretz S hw hzz hx5 hr hlk b2_ hF dX2_spread_93
    · replace hF := ZtN c1_ hF
      refine lv_aload_n S.1 S.2.1 dX2_spread_12 rfl (lv_at hl 0 rfl) ?_
      refine lv_aload_n S.1 S.2.1 dX2_spread_13 rfl (lv_at hl 1 rfl) ?_
      refine lv_iload_n S.1 S.2.1 dX2_spread_14 rfl (lv_at hl 2 rfl) ?_
      refine lv_iload S.1 S.2.1 dX2_spread_15 (lv_at hl 6 rfl) ?_
      refine lv_iload S.1 S.2.1 dX2_spread_17 (lv_at hl 4 rfl) ?_
      obtain ⟨r5_, z3_, h4_, hF⟩ := Ybs hF
      refine YcallVi (rest := []) S hw (c_X2_nextHouse hdj hzz hx2 hx6 hx4 h4_) my_X2_nextHouse mi_X2_nextHouse ml_X2_61 zd_54 zc_X2 rfl (Zrr hR (by decide)) ⟨Nat.zero_le _, Nat.zero_le _⟩ hl.1 rfl rfl (Nat.le_of_ble_eq_true rfl) dX2_spread_19 (fun hrr5_ hzz3_ H locs hw => ?_)
      refine lv_istore (lv' := [(7, .int (i32 (r5_))), (0, .ref (ad 54)), (1, .ref (ad 11)), (2, .int (i32 (x2))), (3, .int (i32 (x3))), (4, .int (i32 (x4))), (5, .int (i32 (x5))), (6, .int (i32 (x6)))]) S.1 S.2.1 dX2_spread_22 hl (by decide) rfl (fun ls hl => ?_)
      refine lv_iload S.1 S.2.1 dX2_spread_24 (lv_at hl 0 rfl) ?_
      refine lv_bipush (v := i32 (-9)) S.1 S.2.1 dX2_spread_26 bp_m9 ?_
      refine Yicmp_ne (tgt := 34) S hrr5_ r_m9 dX2_spread_28 (by decide) (fun c6_ => ?_) (fun c6_ => ?_)
      · replace hF := ZtN c6_ hF
        refine lv_aload_n S.1 S.2.1 dX2_spread_34 rfl (lv_at hl 1 rfl) ?_
        refine gf_X2_21 S hw dX2_spread_35 ?_
        refine lv_iload_n S.1 S.2.1 dX2_spread_38 rfl (lv_at hl 3 rfl) ?_
        obtain ⟨b7_, hF⟩ := Zgs hF
        refine Yiald S hw zd_56 (by decide) hx2 b7_ dX2_spread_39 ?_
        refine lv_iload S.1 S.2.1 dX2_spread_40 (lv_at hl 7 rfl) ?_
        refine lv_iload_n S.1 S.2.1 dX2_spread_42 rfl (lv_at hl 4 rfl) ?_
        obtain ⟨r10_, z8_, h9_, hF⟩ := Ybs hF
        refine YcallSi (rest := [.int (i32 (z3_ 56 x2))]) S hw (c_X2_stepMinutes hdj hzz3_ hx6 hx3 h9_) my_X2_stepMinutes ms_X2_stepMinutes ml_X2_65 (Zrr hR (by decide)) ⟨Nat.zero_le _, Nat.zero_le _⟩ hl.1 rfl rfl (Nat.le_of_ble_eq_true rfl) dX2_spread_43 (fun hrr10_ hzz8_ H locs hw => ?_)
        obtain ⟨g11_, hF⟩ := Zgs hF
        refine Yiadd S dX2_spread_46 ?_
        refine lv_istore (lv' := [(8, .int (i32 ((z3_ 56 x2) + r10_))), (7, .int (i32 (r5_))), (0, .ref (ad 54)), (1, .ref (ad 11)), (2, .int (i32 (x2))), (3, .int (i32 (x3))), (4, .int (i32 (x4))), (5, .int (i32 (x5))), (6, .int (i32 (x6)))]) S.1 S.2.1 dX2_spread_47 hl (by decide) rfl (fun ls hl => ?_)
        refine lv_aload_n S.1 S.2.1 dX2_spread_49 rfl (lv_at hl 2 rfl) ?_
        refine gf_X2_21 S hw dX2_spread_50 ?_
        refine lv_iload S.1 S.2.1 dX2_spread_53 (lv_at hl 1 rfl) ?_
        obtain ⟨b12_, hF⟩ := Zgs hF
        refine Yiald S hw zd_56 (by decide) hrr5_ b12_ dX2_spread_55 ?_
        refine lv_bipush (v := i32 (-9)) S.1 S.2.1 dX2_spread_56 bp_m9 ?_
        refine Yicmp_eq (tgt := 73) S (hzz8_.1 _ _ (by decide)) r_m9 dX2_spread_58 (by decide) (fun c13_ => ?_) (fun c13_ => ?_)
        · replace hF := ZtP c13_ hF
          exact w_X2_spread_b73 S hr hlk hR hdj hk6 _ _ _ _ _ _ _ _ _ _ hF hw hzz8_ hx2 hx3 hx4 hx6 hrr5_ g11_ (lv_sub hl [2, 3, 4, 5, 6, 8, 1, 0] rfl)
        · replace hF := ZtN c13_ hF
          refine lv_iload S.1 S.2.1 dX2_spread_61 (lv_at hl 0 rfl) ?_
          refine lv_aload_n S.1 S.2.1 dX2_spread_63 rfl (lv_at hl 2 rfl) ?_
          refine gf_X2_21 S hw dX2_spread_64 ?_
          refine lv_iload S.1 S.2.1 dX2_spread_67 (lv_at hl 1 rfl) ?_
          obtain ⟨b14_, hF⟩ := Zgs hF
          refine Yiald S hw zd_56 (by decide) hrr5_ b14_ dX2_spread_69 ?_
          refine Yicmp_ge (tgt := 85) S g11_ (hzz8_.1 _ _ (by decide)) dX2_spread_70 (by decide) (fun c15_ => ?_) (fun c15_ => ?_)
          · replace hF := ZtP c15_ hF
            exact w_X2_spread_b85 S hr hlk hR hdj hk6 _ _ _ _ _ _ _ _ _ hF hw hzz8_ hx2 hx3 hx4 hx5 hx6 (lv_sub hl [2, 3, 4, 5, 6, 7, 8] rfl)
          · replace hF := ZtN c15_ hF
            exact w_X2_spread_b73 S hr hlk hR hdj hk6 _ _ _ _ _ _ _ _ _ _ hF hw hzz8_ hx2 hx3 hx4 hx6 hrr5_ g11_ (lv_sub hl [2, 3, 4, 5, 6, 8, 1, 0] rfl)
      · replace hF := ZtP c6_ hF
        refine lv_goto (tgt := 85) S.1 S.2.1 dX2_spread_31 (by decide) ?_
        exact w_X2_spread_b85 S hr hlk hR hdj hk6 _ _ _ _ _ _ _ _ _ hF hw hzz3_ hx2 hx3 hx4 hx5 hx6 (lv_sub hl [1, 2, 3, 4, 5, 6, 7] rfl)
set_option maxRecDepth 100000 in
set_option maxHeartbeats 4000000 in
theorem c_X2_spread {l : Launch} {D : va_G} {cA : Nat → ClassId} {ad : Nat → Nat} (hdj : Zdj ad) {z z1 : ZI} {x2 : Int} {x3 : Int} {x4 : Int} {r : Int} (hzz : Zok z) (hx2 : InR x2) (hx3 : InR x3) (hx4 : InR x4) (hF : F_X2_spread z x2 x3 x4 = some (r, z1)) : YMi l D cA ad (2) yX2_spread cX2_spread 9 (some .boolean) [.ref (ad 54), .ref (ad 11), .int (i32 x2), .int (i32 x3), .int (i32 x4)] z r z1 :=
  Zmet hdj (by decide) rfl (Nat.le_of_ble_eq_true rfl) (lv := [(0, .ref (ad 54)), (1, .ref (ad 11)), (2, .int (i32 (x2))), (3, .int (i32 (x3))), (4, .int (i32 (x4)))]) rfl (fun p e s m args below meth c ls S hr hlk hw hl => by
    have hR : 2 ≤ (Zrm (2)).frames ∧ 60 * (2) ≤ (Zrm (2)).locals := ⟨Nat.le_refl _, Nat.le_refl _⟩
    unfold F_X2_spread at hF
    revert hR
    generalize Zrm (2) = R
    intro hR
    refine lv_iconst (v := i32 0) S.1 S.2.1 dX2_spread_0 ic_0 ?_
    refine lv_istore (lv' := [(5, .int (i32 (0))), (0, .ref (ad 54)), (1, .ref (ad 11)), (2, .int (i32 (x2))), (3, .int (i32 (x3))), (4, .int (i32 (x4)))]) S.1 S.2.1 dX2_spread_1 hl (by decide) rfl (fun ls hl => ?_)
    refine lv_iconst (v := i32 0) S.1 S.2.1 dX2_spread_3 ic_0 ?_
    refine lv_istore (lv' := [(6, .int (i32 (0))), (5, .int (i32 (0))), (0, .ref (ad 54)), (1, .ref (ad 11)), (2, .int (i32 (x2))), (3, .int (i32 (x3))), (4, .int (i32 (x4)))]) S.1 S.2.1 dX2_spread_4 hl (by decide) rfl (fun ls hl => ?_)
    exact w_X2_spread_L6 S hr hlk hR hdj Zfuel _ _ _ _ _ _ _ _ _ hF hw hzz hx2 hx3 hx4 r_0 r_0 (lv_sub hl [2, 3, 4, 5, 6, 1, 0] rfl))
set_option maxRecDepth 100000 in
set_option maxHeartbeats 4000000 in
theorem w_X2_minutesTo_b20 {RR : Int × ZI} (S : CallFix p m c cX2_minutesTo 9 s args Ztbl RX2) (hr : meth.sig.returnType = some .int) (hlk : meth.locks = false) (hR : 3 ≤ R.frames ∧ 60 * (3) ≤ R.locals) (hdj : Zdj ad) : ∀ (z : ZI) (H : Heap) (locs : List Loc) (ls : Array Slot), X2_minutesTo_b20 z  = some RR → ZW D cA ad (ZA ad) (Zc z) s H locs → Zok z → lv_has ls 9 [] → W p l e R s m args below meth c H locs 0 0 (MQ below (YQi D cA ad RR.1 RR.2) args s 0 0 (ZA ad)) (F0 m 20 ls []) := by
  intro z  H locs ls hF hw hzz  hl
  unfold X2_minutesTo_b20 at hF
  refine lv_bipush (v := i32 (-9)) S.1 S.2.1 dX2_minutesTo_20 bp_m9 ?_
  exact Yireti S hw hzz r_m9 hr hlk hF dX2_minutesTo_22
set_option maxRecDepth 100000 in
set_option maxHeartbeats 4000000 in
theorem w_X2_minutesTo_b115 {RR : Int × ZI} (S : CallFix p m c cX2_minutesTo 9 s args Ztbl RX2) (hr : meth.sig.returnType = some .int) (hlk : meth.locks = false) (hR : 3 ≤ R.frames ∧ 60 * (3) ≤ R.locals) (hdj : Zdj ad) : ∀ (z : ZI) (x3 : Int) (H : Heap) (locs : List Loc) (ls : Array Slot), X2_minutesTo_b115 z x3 = some RR → ZW D cA ad (ZA ad) (Zc z) s H locs → Zok z → InR x3 → lv_has ls 9 [(0, .ref (ad 54)), (3, .int (i32 (x3)))] → W p l e R s m args below meth c H locs 0 0 (MQ below (YQi D cA ad RR.1 RR.2) args s 0 0 (ZA ad)) (F0 m 115 ls []) := by
  intro z x3 H locs ls hF hw hzz hx3 hl
  unfold X2_minutesTo_b115 at hF
  refine lv_aload_n S.1 S.2.1 dX2_minutesTo_115 rfl (lv_at hl 0 rfl) ?_
  refine gf_X2_21 S hw dX2_minutesTo_116 ?_
  refine lv_iload_n S.1 S.2.1 dX2_minutesTo_119 rfl (lv_at hl 1 rfl) ?_
  obtain ⟨b1_, hF⟩ := Zgs hF
  refine Yiald S hw zd_56 (by decide) hx3 b1_ dX2_minutesTo_120 ?_
  exact Yireti S hw hzz (hzz.1 _ _ (by decide)) hr hlk hF dX2_minutesTo_121
set_option maxRecDepth 100000 in
set_option maxHeartbeats 4000000 in
theorem w_X2_minutesTo_b109 {RR : Int × ZI} (S : CallFix p m c cX2_minutesTo 9 s args Ztbl RX2) (hr : meth.sig.returnType = some .int) (hlk : meth.locks = false) (hR : 3 ≤ R.frames ∧ 60 * (3) ≤ R.locals) (hdj : Zdj ad) {k45 : ZI → Int → Int → Int → Int → Int → Option (Int × ZI)} (hk45 : ∀ (z : ZI) (x3 : Int) (x4 : Int) (x5 : Int) (x6 : Int) (x7 : Int) (H : Heap) (locs : List Loc) (ls : Array Slot), k45 z x3 x4 x5 x6 x7 = some RR → ZW D cA ad (ZA ad) (Zc z) s H locs → Zok z → InR x3 → InR x4 → InR x5 → InR x6 → InR x7 → lv_has ls 9 [(0, .ref (ad 54)), (1, .ref (ad 11)), (3, .int (i32 (x3))), (4, .int (i32 (x4))), (5, .int (i32 (x5))), (6, .int (i32 (x6))), (7, .int (i32 (x7)))] → W p l e R s m args below meth c H locs 0 0 (MQ below (YQi D cA ad RR.1 RR.2) args s 0 0 (ZA ad)) (F0 m 45 ls [])) : ∀ (z : ZI) (x3 : Int) (x4 : Int) (x5 : Int) (x6 : Int) (x7 : Int) (H : Heap) (locs : List Loc) (ls : Array Slot), X2_minutesTo_b109 k45 z x3 x4 x5 x6 x7 = some RR → ZW D cA ad (ZA ad) (Zc z) s H locs → Zok z → InR x3 → InR x4 → InR x5 → InR x6 → InR x7 → lv_has ls 9 [(0, .ref (ad 54)), (1, .ref (ad 11)), (3, .int (i32 (x3))), (4, .int (i32 (x4))), (5, .int (i32 (x5))), (6, .int (i32 (x6))), (7, .int (i32 (x7)))] → W p l e R s m args below meth c H locs 0 0 (MQ below (YQi D cA ad RR.1 RR.2) args s 0 0 (ZA ad)) (F0 m 109 ls []) := by
  intro z x3 x4 x5 x6 x7 H locs ls hF hw hzz hx3 hx4 hx5 hx6 hx7 hl
  unfold X2_minutesTo_b109 at hF
  obtain ⟨g1_, hF⟩ := Zgs hF
  refine lv_iinc (v := i32 (x7 + 1)) (lv' := [(7, .int (i32 (x7 + 1))), (0, .ref (ad 54)), (1, .ref (ad 11)), (3, .int (i32 (x3))), (4, .int (i32 (x4))), (5, .int (i32 (x5))), (6, .int (i32 (x6)))]) S.1 S.2.1 dX2_minutesTo_109 hl (k := 6) rfl Yiinc (by decide) rfl (fun ls hl => ?_)
  refine lv_goto (tgt := 45) S.1 S.2.1 dX2_minutesTo_112 (by decide) ?_
  exact hk45 _ _ _ _ _ _ _ _ _ hF hw hzz hx3 hx4 hx5 hx6 g1_ (lv_sub hl [1, 2, 3, 4, 5, 6, 0] rfl)
set_option maxRecDepth 100000 in
set_option maxHeartbeats 4000000 in
theorem w_X2_minutesTo_b103 {RR : Int × ZI} (S : CallFix p m c cX2_minutesTo 9 s args Ztbl RX2) (hr : meth.sig.returnType = some .int) (hlk : meth.locks = false) (hR : 3 ≤ R.frames ∧ 60 * (3) ≤ R.locals) (hdj : Zdj ad) {k45 : ZI → Int → Int → Int → Int → Int → Option (Int × ZI)} (hk45 : ∀ (z : ZI) (x3 : Int) (x4 : Int) (x5 : Int) (x6 : Int) (x7 : Int) (H : Heap) (locs : List Loc) (ls : Array Slot), k45 z x3 x4 x5 x6 x7 = some RR → ZW D cA ad (ZA ad) (Zc z) s H locs → Zok z → InR x3 → InR x4 → InR x5 → InR x6 → InR x7 → lv_has ls 9 [(0, .ref (ad 54)), (1, .ref (ad 11)), (3, .int (i32 (x3))), (4, .int (i32 (x4))), (5, .int (i32 (x5))), (6, .int (i32 (x6))), (7, .int (i32 (x7)))] → W p l e R s m args below meth c H locs 0 0 (MQ below (YQi D cA ad RR.1 RR.2) args s 0 0 (ZA ad)) (F0 m 45 ls [])) {k65 : ZI → Int → Int → Int → Int → Int → Int → Option (Int × ZI)} (hk65 : ∀ (z : ZI) (x3 : Int) (x4 : Int) (x5 : Int) (x6 : Int) (x7 : Int) (x8 : Int) (H : Heap) (locs : List Loc) (ls : Array Slot), k65 z x3 x4 x5 x6 x7 x8 = some RR → ZW D cA ad (ZA ad) (Zc z) s H locs → Zok z → InR x3 → InR x4 → InR x5 → InR x6 → InR x7 → InR x8 → lv_has ls 9 [(0, .ref (ad 54)), (1, .ref (ad 11)), (3, .int (i32 (x3))), (4, .int (i32 (x4))), (5, .int (i32 (x5))), (6, .int (i32 (x6))), (7, .int (i32 (x7))), (8, .int (i32 (x8)))] → W p l e R s m args below meth c H locs 0 0 (MQ below (YQi D cA ad RR.1 RR.2) args s 0 0 (ZA ad)) (F0 m 65 ls [])) : ∀ (z : ZI) (x3 : Int) (x4 : Int) (x5 : Int) (x6 : Int) (x7 : Int) (x8 : Int) (H : Heap) (locs : List Loc) (ls : Array Slot), X2_minutesTo_b103 k45 k65 z x3 x4 x5 x6 x7 x8 = some RR → ZW D cA ad (ZA ad) (Zc z) s H locs → Zok z → InR x3 → InR x4 → InR x5 → InR x6 → InR x7 → InR x8 → lv_has ls 9 [(0, .ref (ad 54)), (1, .ref (ad 11)), (3, .int (i32 (x3))), (4, .int (i32 (x4))), (5, .int (i32 (x5))), (6, .int (i32 (x6))), (7, .int (i32 (x7))), (8, .int (i32 (x8)))] → W p l e R s m args below meth c H locs 0 0 (MQ below (YQi D cA ad RR.1 RR.2) args s 0 0 (ZA ad)) (F0 m 103 ls []) := by
  intro z x3 x4 x5 x6 x7 x8 H locs ls hF hw hzz hx3 hx4 hx5 hx6 hx7 hx8 hl
  unfold X2_minutesTo_b103 at hF
  obtain ⟨g1_, hF⟩ := Zgs hF
  refine lv_iinc (v := i32 (x8 + 1)) (lv' := [(8, .int (i32 (x8 + 1))), (0, .ref (ad 54)), (1, .ref (ad 11)), (3, .int (i32 (x3))), (4, .int (i32 (x4))), (5, .int (i32 (x5))), (6, .int (i32 (x6))), (7, .int (i32 (x7)))]) S.1 S.2.1 dX2_minutesTo_103 hl (k := 7) rfl Yiinc (by decide) rfl (fun ls hl => ?_)
  refine lv_goto (tgt := 65) S.1 S.2.1 dX2_minutesTo_106 (by decide) ?_
  exact hk65 _ _ _ _ _ _ _ _ _ _ hF hw hzz hx3 hx4 hx5 hx6 hx7 g1_ (lv_sub hl [1, 2, 3, 4, 5, 6, 7, 0] rfl)
set_option maxRecDepth 100000 in
set_option maxHeartbeats 4000000 in
theorem w_X2_minutesTo_L65 {RR : Int × ZI} (S : CallFix p m c cX2_minutesTo 9 s args Ztbl RX2) (hr : meth.sig.returnType = some .int) (hlk : meth.locks = false) (hR : 3 ≤ R.frames ∧ 60 * (3) ≤ R.locals) (hdj : Zdj ad) {k45 : ZI → Int → Int → Int → Int → Int → Option (Int × ZI)} (hk45 : ∀ (z : ZI) (x3 : Int) (x4 : Int) (x5 : Int) (x6 : Int) (x7 : Int) (H : Heap) (locs : List Loc) (ls : Array Slot), k45 z x3 x4 x5 x6 x7 = some RR → ZW D cA ad (ZA ad) (Zc z) s H locs → Zok z → InR x3 → InR x4 → InR x5 → InR x6 → InR x7 → lv_has ls 9 [(0, .ref (ad 54)), (1, .ref (ad 11)), (3, .int (i32 (x3))), (4, .int (i32 (x4))), (5, .int (i32 (x5))), (6, .int (i32 (x6))), (7, .int (i32 (x7)))] → W p l e R s m args below meth c H locs 0 0 (MQ below (YQi D cA ad RR.1 RR.2) args s 0 0 (ZA ad)) (F0 m 45 ls [])) : ∀ (n : Nat) (z : ZI) (x3 : Int) (x4 : Int) (x5 : Int) (x6 : Int) (x7 : Int) (x8 : Int) (H : Heap) (locs : List Loc) (ls : Array Slot), X2_minutesTo_L65 k45 n z x3 x4 x5 x6 x7 x8 = some RR → ZW D cA ad (ZA ad) (Zc z) s H locs → Zok z → InR x3 → InR x4 → InR x5 → InR x6 → InR x7 → InR x8 → lv_has ls 9 [(0, .ref (ad 54)), (1, .ref (ad 11)), (3, .int (i32 (x3))), (4, .int (i32 (x4))), (5, .int (i32 (x5))), (6, .int (i32 (x6))), (7, .int (i32 (x7))), (8, .int (i32 (x8)))] → W p l e R s m args below meth c H locs 0 0 (MQ below (YQi D cA ad RR.1 RR.2) args s 0 0 (ZA ad)) (F0 m 65 ls []) := by
  intro n
  induction n with
  | zero => intro z x3 x4 x5 x6 x7 x8 H locs ls hF; exact nomatch hF
  | succ n hk65 =>
    intro z x3 x4 x5 x6 x7 x8 H locs ls hF hw hzz hx3 hx4 hx5 hx6 hx7 hx8 hl
    replace hF : X2_minutesTo_L65b k45 (X2_minutesTo_L65 k45 n) z x3 x4 x5 x6 x7 x8 = some RR := hF
    unfold X2_minutesTo_L65b at hF
    refine lv_iload S.1 S.2.1 dX2_minutesTo_65 (lv_at hl 7 rfl) ?_
    refine lv_aload_n S.1 S.2.1 dX2_minutesTo_67 rfl (lv_at hl 1 rfl) ?_
    refine gg_X2_54 S hw dX2_minutesTo_68 ?_
    refine Yicmp_ge (tgt := 109) S hx8 (hzz.1 11 0 (by decide)) dX2_minutesTo_71 (by decide) (fun c1_ => ?_) (fun c1_ => ?_)
    · replace hF := ZtP c1_ hF
      exact w_X2_minutesTo_b109 S hr hlk hR hdj hk45 _ _ _ _ _ _ _ _ _ hF hw hzz hx3 hx4 hx5 hx6 hx7 (lv_sub hl [0, 1, 2, 3, 4, 5, 6] rfl)
    · replace hF := ZtN c1_ hF
      refine lv_aload_n S.1 S.2.1 dX2_minutesTo_74 rfl (lv_at hl 0 rfl) ?_
      refine gf_X2_21 S hw dX2_minutesTo_75 ?_
      refine lv_iload S.1 S.2.1 dX2_minutesTo_78 (lv_at hl 7 rfl) ?_
      obtain ⟨b2_, hF⟩ := Zgs hF
      refine Yiald S hw zd_56 (by decide) hx8 b2_ dX2_minutesTo_80 ?_
      refine lv_bipush (v := i32 (-9)) S.1 S.2.1 dX2_minutesTo_81 bp_m9 ?_
      refine Yicmp_eq (tgt := 103) S (hzz.1 _ _ (by decide)) r_m9 dX2_minutesTo_83 (by decide) (fun c3_ => ?_) (fun c3_ => ?_)
      · replace hF := ZtP c3_ hF
        exact w_X2_minutesTo_b103 S hr hlk hR hdj hk45 hk65 _ _ _ _ _ _ _ _ _ _ hF hw hzz hx3 hx4 hx5 hx6 hx7 hx8 (lv_sub hl [0, 1, 2, 3, 4, 5, 6, 7] rfl)
      · replace hF := ZtN c3_ hF
        refine lv_aload_n S.1 S.2.1 dX2_minutesTo_86 rfl (lv_at hl 0 rfl) ?_
        refine lv_aload_n S.1 S.2.1 dX2_minutesTo_87 rfl (lv_at hl 1 rfl) ?_
        refine lv_iload S.1 S.2.1 dX2_minutesTo_88 (lv_at hl 7 rfl) ?_
        refine lv_iload S.1 S.2.1 dX2_minutesTo_90 (lv_at hl 3 rfl) ?_
        refine lv_iload S.1 S.2.1 dX2_minutesTo_92 (lv_at hl 4 rfl) ?_
        obtain ⟨r6_, z4_, h5_, hF⟩ := Ybs hF
        refine YcallVi (rest := []) S hw (c_X2_spread hdj hzz hx8 hx4 hx5 h5_) my_X2_spread mi_X2_spread ml_X2_57 zd_54 zc_X2 rfl (Zrr hR (by decide)) ⟨Nat.zero_le _, Nat.zero_le _⟩ hl.1 rfl rfl (Nat.le_of_ble_eq_true rfl) dX2_minutesTo_94 (fun hrr6_ hzz4_ H locs hw => ?_)
        refine Yif_eq (tgt := 103) S hrr6_ dX2_minutesTo_97 (by decide) (fun c7_ => ?_) (fun c7_ => ?_)
        · replace hF := ZtP c7_ hF
          exact w_X2_minutesTo_b103 S hr hlk hR hdj hk45 hk65 _ _ _ _ _ _ _ _ _ _ hF hw hzz4_ hx3 hx4 hx5 hx6 hx7 hx8 (lv_sub hl [0, 1, 2, 3, 4, 5, 6, 7] rfl)
        · replace hF := ZtN c7_ hF
          refine lv_iconst (v := i32 1) S.1 S.2.1 dX2_minutesTo_100 ic_1 ?_
          refine lv_istore (lv' := [(6, .int (i32 (1))), (0, .ref (ad 54)), (1, .ref (ad 11)), (3, .int (i32 (x3))), (4, .int (i32 (x4))), (5, .int (i32 (x5))), (7, .int (i32 (x7))), (8, .int (i32 (x8)))]) S.1 S.2.1 dX2_minutesTo_101 hl (by decide) rfl (fun ls hl => ?_)
          exact w_X2_minutesTo_b103 S hr hlk hR hdj hk45 hk65 _ _ _ _ _ _ _ _ _ _ hF hw hzz4_ hx3 hx4 hx5 r_1 hx7 hx8 (lv_sub hl [1, 2, 3, 4, 5, 0, 6, 7] rfl)
set_option maxRecDepth 100000 in
set_option maxHeartbeats 4000000 in
theorem w_X2_minutesTo_L45 {RR : Int × ZI} (S : CallFix p m c cX2_minutesTo 9 s args Ztbl RX2) (hr : meth.sig.returnType = some .int) (hlk : meth.locks = false) (hR : 3 ≤ R.frames ∧ 60 * (3) ≤ R.locals) (hdj : Zdj ad) : ∀ (n : Nat) (z : ZI) (x3 : Int) (x4 : Int) (x5 : Int) (x6 : Int) (x7 : Int) (H : Heap) (locs : List Loc) (ls : Array Slot), X2_minutesTo_L45 n z x3 x4 x5 x6 x7 = some RR → ZW D cA ad (ZA ad) (Zc z) s H locs → Zok z → InR x3 → InR x4 → InR x5 → InR x6 → InR x7 → lv_has ls 9 [(0, .ref (ad 54)), (1, .ref (ad 11)), (3, .int (i32 (x3))), (4, .int (i32 (x4))), (5, .int (i32 (x5))), (6, .int (i32 (x6))), (7, .int (i32 (x7)))] → W p l e R s m args below meth c H locs 0 0 (MQ below (YQi D cA ad RR.1 RR.2) args s 0 0 (ZA ad)) (F0 m 45 ls []) := by
  intro n
  induction n with
  | zero => intro z x3 x4 x5 x6 x7 H locs ls hF; exact nomatch hF
  | succ n hk45 =>
    intro z x3 x4 x5 x6 x7 H locs ls hF hw hzz hx3 hx4 hx5 hx6 hx7 hl
    replace hF : X2_minutesTo_L45b (X2_minutesTo_L45 n) z x3 x4 x5 x6 x7 = some RR := hF
    unfold X2_minutesTo_L45b at hF
    refine lv_iload S.1 S.2.1 dX2_minutesTo_45 (lv_at hl 6 rfl) ?_
    refine lv_aload_n S.1 S.2.1 dX2_minutesTo_47 rfl (lv_at hl 1 rfl) ?_
    refine gg_X2_54 S hw dX2_minutesTo_48 ?_
    refine Yicmp_ge (tgt := 115) S hx7 (hzz.1 11 0 (by decide)) dX2_minutesTo_51 (by decide) (fun c1_ => ?_) (fun c1_ => ?_)
    · replace hF := ZtP c1_ hF
      exact w_X2_minutesTo_b115 S hr hlk hR hdj _ _ _ _ _ hF hw hzz hx3 (lv_sub hl [0, 2] rfl)
    · replace hF := ZtN c1_ hF
      refine lv_iload S.1 S.2.1 dX2_minutesTo_54 (lv_at hl 5 rfl) ?_
      refine Yif_eq (tgt := 115) S hx6 dX2_minutesTo_56 (by decide) (fun c2_ => ?_) (fun c2_ => ?_)
      · replace hF := ZtP c2_ hF
        exact w_X2_minutesTo_b115 S hr hlk hR hdj _ _ _ _ _ hF hw hzz hx3 (lv_sub hl [0, 2] rfl)
      · replace hF := ZtN c2_ hF
        refine lv_iconst (v := i32 0) S.1 S.2.1 dX2_minutesTo_59 ic_0 ?_
        refine lv_istore (lv' := [(6, .int (i32 (0))), (0, .ref (ad 54)), (1, .ref (ad 11)), (3, .int (i32 (x3))), (4, .int (i32 (x4))), (5, .int (i32 (x5))), (7, .int (i32 (x7)))]) S.1 S.2.1 dX2_minutesTo_60 hl (by decide) rfl (fun ls hl => ?_)
        refine lv_iconst (v := i32 0) S.1 S.2.1 dX2_minutesTo_62 ic_0 ?_
        refine lv_istore (lv' := [(8, .int (i32 (0))), (6, .int (i32 (0))), (0, .ref (ad 54)), (1, .ref (ad 11)), (3, .int (i32 (x3))), (4, .int (i32 (x4))), (5, .int (i32 (x5))), (7, .int (i32 (x7)))]) S.1 S.2.1 dX2_minutesTo_63 hl (by decide) rfl (fun ls hl => ?_)
        exact w_X2_minutesTo_L65 S hr hlk hR hdj hk45 Zfuel _ _ _ _ _ _ _ _ _ _ hF hw hzz hx3 hx4 hx5 r_0 hx7 r_0 (lv_sub hl [2, 3, 4, 5, 6, 1, 7, 0] rfl)
set_option maxRecDepth 100000 in
set_option maxHeartbeats 4000000 in
theorem c_X2_minutesTo {l : Launch} {D : va_G} {cA : Nat → ClassId} {ad : Nat → Nat} (hdj : Zdj ad) {z z1 : ZI} {x2 : Int} {x3 : Int} {x4 : Int} {x5 : Int} {r : Int} (hzz : Zok z) (hx2 : InR x2) (hx3 : InR x3) (hx4 : InR x4) (hx5 : InR x5) (hF : F_X2_minutesTo z x2 x3 x4 x5 = some (r, z1)) : YMi l D cA ad (3) yX2_minutesTo cX2_minutesTo 9 (some .int) [.ref (ad 54), .ref (ad 11), .int (i32 x2), .int (i32 x3), .int (i32 x4), .int (i32 x5)] z r z1 :=
  Zmet hdj (by decide) rfl (Nat.le_of_ble_eq_true rfl) (lv := [(0, .ref (ad 54)), (1, .ref (ad 11)), (2, .int (i32 (x2))), (3, .int (i32 (x3))), (4, .int (i32 (x4))), (5, .int (i32 (x5)))]) rfl (fun p e s m args below meth c ls S hr hlk hw hl => by
    have hR : 3 ≤ (Zrm (3)).frames ∧ 60 * (3) ≤ (Zrm (3)).locals := ⟨Nat.le_refl _, Nat.le_refl _⟩
    unfold F_X2_minutesTo at hF
    revert hR
    generalize Zrm (3) = R
    intro hR
    refine lv_aload_n S.1 S.2.1 dX2_minutesTo_0 rfl (lv_at hl 0 rfl) ?_
    refine lv_iload_n S.1 S.2.1 dX2_minutesTo_1 rfl (lv_at hl 2 rfl) ?_
    refine lv_iload S.1 S.2.1 dX2_minutesTo_2 (lv_at hl 5 rfl) ?_
    obtain ⟨r3_, z1_, h2_, hF⟩ := Ybs hF
    refine YcallVi (rest := []) S hw (c_X2_isCleared hdj hzz hx2 hx5 h2_) my_X2_isCleared mi_X2_isCleared ml_X2_50 zd_54 zc_X2 rfl (Zrr hR (by decide)) ⟨Nat.zero_le _, Nat.zero_le _⟩ hl.1 rfl rfl (Nat.le_of_ble_eq_true rfl) dX2_minutesTo_4 (fun hrr3_ hzz1_ H locs hw => ?_)
    refine Yif_ne (tgt := 20) S hrr3_ dX2_minutesTo_7 (by decide) (fun c4_ => ?_) (fun c4_ => ?_)
    · replace hF := ZtN c4_ hF
      exact w_X2_minutesTo_b20 S hr hlk hR hdj _ _ _ _ hF hw hzz1_  (lv_sub hl [] rfl)
    · replace hF := ZtP c4_ hF
      refine lv_aload_n S.1 S.2.1 dX2_minutesTo_10 rfl (lv_at hl 0 rfl) ?_
      refine lv_iload_n S.1 S.2.1 dX2_minutesTo_11 rfl (lv_at hl 3 rfl) ?_
      refine lv_iload S.1 S.2.1 dX2_minutesTo_12 (lv_at hl 5 rfl) ?_
      obtain ⟨r7_, z5_, h6_, hF⟩ := Ybs hF
      refine YcallVi (rest := []) S hw (c_X2_isCleared hdj hzz1_ hx3 hx5 h6_) my_X2_isCleared mi_X2_isCleared ml_X2_50 zd_54 zc_X2 rfl (Zrr hR (by decide)) ⟨Nat.zero_le _, Nat.zero_le _⟩ hl.1 rfl rfl (Nat.le_of_ble_eq_true rfl) dX2_minutesTo_14 (fun hrr7_ hzz5_ H locs hw => ?_)
      refine Yif_eq (tgt := 23) S hrr7_ dX2_minutesTo_17 (by decide) (fun c8_ => ?_) (fun c8_ => ?_)
      · replace hF := ZtP c8_ hF
        refine lv_aload_n S.1 S.2.1 dX2_minutesTo_23 rfl (lv_at hl 0 rfl) ?_
        refine gf_X2_21 S hw dX2_minutesTo_24 ?_
        refine lv_bipush (v := i32 (-9)) S.1 S.2.1 dX2_minutesTo_27 bp_m9 ?_
        obtain ⟨r11_, z9_, h10_, hF⟩ := Ybs hF
        refine YcallSv (rest := []) S hw (c_J7_fill_53178 hdj zd_56 (by decide) (by decide) hzz5_ r_m9 h10_) my_J7_fill_53178 ms_J7_fill_53178 ml_X2_15 (Zrr hR (by decide)) ⟨Nat.zero_le _, Nat.zero_le _⟩ hl.1 rfl rfl (Nat.le_of_ble_eq_true rfl) dX2_minutesTo_29 (fun hzz9_ H locs hw => ?_)
        refine lv_aload_n S.1 S.2.1 dX2_minutesTo_32 rfl (lv_at hl 0 rfl) ?_
        refine gf_X2_21 S hw dX2_minutesTo_33 ?_
        refine lv_iload_n S.1 S.2.1 dX2_minutesTo_36 rfl (lv_at hl 2 rfl) ?_
        refine lv_iconst (v := i32 0) S.1 S.2.1 dX2_minutesTo_37 ic_0 ?_
        obtain ⟨b12_, hF⟩ := Zgs hF
        refine Yiast S hw hzz9_ zd_56 (by decide) hx2 r_0 b12_ dX2_minutesTo_38 (fun z13_ H locs ez hzz13_ hw => ?_)
        replace hF := Zle ez hF; clear ez
        refine lv_iconst (v := i32 1) S.1 S.2.1 dX2_minutesTo_39 ic_1 ?_
        refine lv_istore (lv' := [(6, .int (i32 (1))), (0, .ref (ad 54)), (1, .ref (ad 11)), (2, .int (i32 (x2))), (3, .int (i32 (x3))), (4, .int (i32 (x4))), (5, .int (i32 (x5)))]) S.1 S.2.1 dX2_minutesTo_40 hl (by decide) rfl (fun ls hl => ?_)
        refine lv_iconst (v := i32 0) S.1 S.2.1 dX2_minutesTo_42 ic_0 ?_
        refine lv_istore (lv' := [(7, .int (i32 (0))), (6, .int (i32 (1))), (0, .ref (ad 54)), (1, .ref (ad 11)), (2, .int (i32 (x2))), (3, .int (i32 (x3))), (4, .int (i32 (x4))), (5, .int (i32 (x5)))]) S.1 S.2.1 dX2_minutesTo_43 hl (by decide) rfl (fun ls hl => ?_)
        exact w_X2_minutesTo_L45 S hr hlk hR hdj Zfuel _ _ _ _ _ _ _ _ _ hF hw hzz13_ hx3 hx4 hx5 r_1 r_0 (lv_sub hl [2, 3, 5, 6, 7, 1, 0] rfl)
      · replace hF := ZtN c8_ hF
        exact w_X2_minutesTo_b20 S hr hlk hR hdj _ _ _ _ hF hw hzz5_  (lv_sub hl [] rfl))
set_option maxRecDepth 100000 in
set_option maxHeartbeats 4000000 in
theorem w_X10_minutes_b37 {RR : Int × ZI} (S : CallFix p m c cX10_minutes 5 s args Ztbl RX10) (hr : meth.sig.returnType = some .int) (hlk : meth.locks = false) (hR : 4 ≤ R.frames ∧ 60 * (4) ≤ R.locals) (hdj : Zdj ad) : ∀ (z : ZI) (H : Heap) (locs : List Loc) (ls : Array Slot), X10_minutes_b37 z  = some RR → ZW D cA ad (ZA ad) (Zc z) s H locs → Zok z → lv_has ls 5 [(0, .ref (ad 0))] → W p l e R s m args below meth c H locs 0 0 (MQ below (YQi D cA ad RR.1 RR.2) args s 0 0 (ZA ad)) (F0 m 37 ls []) := by
  intro z  H locs ls hF hw hzz  hl
  unfold X10_minutes_b37 at hF
  refine lv_aload_n S.1 S.2.1 dX10_minutes_37 rfl (lv_at hl 0 rfl) ?_
  refine lv_iconst (v := i32 (-1)) S.1 S.2.1 dX10_minutes_38 ic_m1 ?_
  obtain ⟨r3_, z1_, h2_, hF⟩ := Ybs hF
  refine YcallVi (rest := []) S hw (c_X10_refuse hdj hzz r_m1 h2_) my_X10_refuse mi_X10_refuse ml_X10_81 zd_0 zc_X10 rfl (Zrr hR (by decide)) ⟨Nat.zero_le _, Nat.zero_le _⟩ hl.1 rfl rfl (Nat.le_of_ble_eq_true rfl) dX10_minutes_39 (fun hrr3_ hzz1_ H locs hw => ?_)
  exact Yireti S hw hzz1_ hrr3_ hr hlk hF dX10_minutes_42
set_option maxRecDepth 100000 in
set_option maxHeartbeats 4000000 in
theorem c_X10_minutes {l : Launch} {D : va_G} {cA : Nat → ClassId} {ad : Nat → Nat} (hdj : Zdj ad) {z z1 : ZI} {x1 : Int} {x2 : Int} {x3 : Int} {x4 : Int} {r : Int} (hzz : Zok z) (hx1 : InR x1) (hx2 : InR x2) (hx3 : InR x3) (hx4 : InR x4) (hF : F_X10_minutes z x1 x2 x3 x4 = some (r, z1)) : YMi l D cA ad (4) yX10_minutes cX10_minutes 5 (some .int) [.ref (ad 0), .int (i32 x1), .int (i32 x2), .int (i32 x3), .int (i32 x4)] z r z1 :=
  Zmet hdj (by decide) rfl (Nat.le_of_ble_eq_true rfl) (lv := [(0, .ref (ad 0)), (1, .int (i32 (x1))), (2, .int (i32 (x2))), (3, .int (i32 (x3))), (4, .int (i32 (x4)))]) rfl (fun p e s m args below meth c ls S hr hlk hw hl => by
    have hR : 4 ≤ (Zrm (4)).frames ∧ 60 * (4) ≤ (Zrm (4)).locals := ⟨Nat.le_refl _, Nat.le_refl _⟩
    unfold F_X10_minutes at hF
    revert hR
    generalize Zrm (4) = R
    intro hR
    refine lv_aload_n S.1 S.2.1 dX10_minutes_0 rfl (lv_at hl 0 rfl) ?_
    refine gf_X10_27 S hw dX10_minutes_1 ?_
    refine lv_iload_n S.1 S.2.1 dX10_minutes_4 rfl (lv_at hl 1 rfl) ?_
    obtain ⟨r3_, z1_, h2_, hF⟩ := Ybs hF
    refine YcallVi (rest := []) S hw (c_X3_hasHouse hdj hzz hx1 h2_) my_X3_hasHouse mi_X3_hasHouse ml_X10_115 zd_11 zc_X3 rfl (Zrr hR (by decide)) ⟨Nat.zero_le _, Nat.zero_le _⟩ hl.1 rfl rfl (Nat.le_of_ble_eq_true rfl) dX10_minutes_5 (fun hrr3_ hzz1_ H locs hw => ?_)
    refine Yif_eq (tgt := 37) S hrr3_ dX10_minutes_8 (by decide) (fun c4_ => ?_) (fun c4_ => ?_)
    · replace hF := ZtP c4_ hF
      exact w_X10_minutes_b37 S hr hlk hR hdj _ _ _ _ hF hw hzz1_  (lv_sub hl [0] rfl)
    · replace hF := ZtN c4_ hF
      refine lv_aload_n S.1 S.2.1 dX10_minutes_11 rfl (lv_at hl 0 rfl) ?_
      refine gf_X10_27 S hw dX10_minutes_12 ?_
      refine lv_iload_n S.1 S.2.1 dX10_minutes_15 rfl (lv_at hl 2 rfl) ?_
      obtain ⟨r7_, z5_, h6_, hF⟩ := Ybs hF
      refine YcallVi (rest := []) S hw (c_X3_hasHouse hdj hzz1_ hx2 h6_) my_X3_hasHouse mi_X3_hasHouse ml_X10_115 zd_11 zc_X3 rfl (Zrr hR (by decide)) ⟨Nat.zero_le _, Nat.zero_le _⟩ hl.1 rfl rfl (Nat.le_of_ble_eq_true rfl) dX10_minutes_16 (fun hrr7_ hzz5_ H locs hw => ?_)
      refine Yif_eq (tgt := 37) S hrr7_ dX10_minutes_19 (by decide) (fun c8_ => ?_) (fun c8_ => ?_)
      · replace hF := ZtP c8_ hF
        exact w_X10_minutes_b37 S hr hlk hR hdj _ _ _ _ hF hw hzz5_  (lv_sub hl [0] rfl)
      · replace hF := ZtN c8_ hF
        refine lv_iload S.1 S.2.1 dX10_minutes_22 (lv_at hl 4 rfl) ?_
        refine lv_aload_n S.1 S.2.1 dX10_minutes_24 rfl (lv_at hl 0 rfl) ?_
        refine gf_X10_62 S hw dX10_minutes_25 ?_
        refine gg_X10_269 S hw dX10_minutes_28 ?_
        obtain ⟨r11_, z9_, h10_, hF⟩ := Ybs hF
        refine YcallSi (rest := []) S hw (c_X10_isSetOf hdj hzz5_ hx4 (hzz5_.1 54 0 (by decide)) h10_) my_X10_isSetOf ms_X10_isSetOf ml_X10_258 (Zrr hR (by decide)) ⟨Nat.zero_le _, Nat.zero_le _⟩ hl.1 rfl rfl (Nat.le_of_ble_eq_true rfl) dX10_minutes_31 (fun hrr11_ hzz9_ H locs hw => ?_)
        refine Yif_ne (tgt := 43) S hrr11_ dX10_minutes_34 (by decide) (fun c12_ => ?_) (fun c12_ => ?_)
        · replace hF := ZtN c12_ hF
          refine lv_iload_n S.1 S.2.1 dX10_minutes_43 rfl (lv_at hl 3 rfl) ?_
          obtain ⟨r15_, z13_, h14_, hF⟩ := Ybs hF
          refine YcallSi (rest := []) S hw (c_X10_isWind hdj hzz9_ hx3 h14_) my_X10_isWind ms_X10_isWind ml_X10_272 (Zrr hR (by decide)) ⟨Nat.zero_le _, Nat.zero_le _⟩ hl.1 rfl rfl (Nat.le_of_ble_eq_true rfl) dX10_minutes_44 (fun hrr15_ hzz13_ H locs hw => ?_)
          refine Yif_ne (tgt := 57) S hrr15_ dX10_minutes_47 (by decide) (fun c16_ => ?_) (fun c16_ => ?_)
          · replace hF := ZtN c16_ hF
            refine lv_aload_n S.1 S.2.1 dX10_minutes_57 rfl (lv_at hl 0 rfl) ?_
            refine gf_X10_62 S hw dX10_minutes_58 ?_
            refine lv_aload_n S.1 S.2.1 dX10_minutes_61 rfl (lv_at hl 0 rfl) ?_
            refine gf_X10_27 S hw dX10_minutes_62 ?_
            refine lv_iload_n S.1 S.2.1 dX10_minutes_65 rfl (lv_at hl 1 rfl) ?_
            refine lv_iload_n S.1 S.2.1 dX10_minutes_66 rfl (lv_at hl 2 rfl) ?_
            refine lv_iload_n S.1 S.2.1 dX10_minutes_67 rfl (lv_at hl 3 rfl) ?_
            refine lv_iload S.1 S.2.1 dX10_minutes_68 (lv_at hl 4 rfl) ?_
            obtain ⟨r19_, z17_, h18_, hF⟩ := Ybs hF
            refine YcallVi (rest := []) S hw (c_X2_minutesTo hdj hzz13_ hx1 hx2 hx3 hx4 h18_) my_X2_minutesTo mi_X2_minutesTo ml_X10_275 zd_54 zc_X2 rfl (Zrr hR (by decide)) ⟨Nat.zero_le _, Nat.zero_le _⟩ hl.1 rfl rfl (Nat.le_of_ble_eq_true rfl) dX10_minutes_70 (fun hrr19_ hzz17_ H locs hw => ?_)
            exact Yireti S hw hzz17_ hrr19_ hr hlk hF dX10_minutes_73
          · replace hF := ZtP c16_ hF
            refine lv_aload_n S.1 S.2.1 dX10_minutes_50 rfl (lv_at hl 0 rfl) ?_
            refine lv_bipush (v := i32 (-2)) S.1 S.2.1 dX10_minutes_51 bp_m2 ?_
            obtain ⟨r22_, z20_, h21_, hF⟩ := Ybs hF
            refine YcallVi (rest := []) S hw (c_X10_refuse hdj hzz13_ r_m2 h21_) my_X10_refuse mi_X10_refuse ml_X10_81 zd_0 zc_X10 rfl (Zrr hR (by decide)) ⟨Nat.zero_le _, Nat.zero_le _⟩ hl.1 rfl rfl (Nat.le_of_ble_eq_true rfl) dX10_minutes_53 (fun hrr22_ hzz20_ H locs hw => ?_)
            exact Yireti S hw hzz20_ hrr22_ hr hlk hF dX10_minutes_56
        · replace hF := ZtP c12_ hF
          exact w_X10_minutes_b37 S hr hlk hR hdj _ _ _ _ hF hw hzz9_  (lv_sub hl [0] rfl))
set_option maxRecDepth 100000 in
set_option maxHeartbeats 4000000 in
theorem c_X10_refuseBeyond {l : Launch} {D : va_G} {cA : Nat → ClassId} {ad : Nat → Nat} (hdj : Zdj ad) {z z1 : ZI} {x1 : Int} {r : Int} (hzz : Zok z) (hx1 : InR x1) (hF : F_X10_refuseBeyond z x1 = some (r, z1)) : YMi l D cA ad (1) yX10_refuseBeyond cX10_refuseBeyond 2 (some .int) [.ref (ad 0), .int (i32 x1)] z r z1 :=
  Zmet hdj (by decide) rfl (Nat.le_of_ble_eq_true rfl) (lv := [(0, .ref (ad 0)), (1, .int (i32 (x1)))]) rfl (fun p e s m args below meth c ls S hr hlk hw hl => by
    have hR : 1 ≤ (Zrm (1)).frames ∧ 60 * (1) ≤ (Zrm (1)).locals := ⟨Nat.le_refl _, Nat.le_refl _⟩
    unfold F_X10_refuseBeyond at hF
    revert hR
    generalize Zrm (1) = R
    intro hR
    refine lv_ldc (own := RX10) (v := i32 1000000000) S.1 S.2.1 S.2.2.2.1 (S.2.2.2.2 _ yc_X10_80) dX10_refuseBeyond_0 ?_
    refine lv_aload_n S.1 S.2.1 dX10_refuseBeyond_2 rfl (lv_at hl 0 rfl) ?_
    refine lv_iload_n S.1 S.2.1 dX10_refuseBeyond_3 rfl (lv_at hl 1 rfl) ?_
    obtain ⟨r3_, z1_, h2_, hF⟩ := Ybs hF
    refine YcallVi (rest := [.int (i32 (1000000000))]) S hw (c_X10_refuse hdj hzz hx1 h2_) my_X10_refuse mi_X10_refuse ml_X10_81 zd_0 zc_X10 rfl (Zrr hR (by decide)) ⟨Nat.zero_le _, Nat.zero_le _⟩ hl.1 rfl rfl (Nat.le_of_ble_eq_true rfl) dX10_refuseBeyond_4 (fun hrr3_ hzz1_ H locs hw => ?_)
    obtain ⟨g4_, hF⟩ := Zgs hF
    refine Yisub S dX10_refuseBeyond_7 ?_
    exact Yireti S hw hzz1_ g4_ hr hlk hF dX10_refuseBeyond_8)
end ZWALK
