section ZWALK
variable {p : Program} {l : Launch} {e : Env} {R : Room} {s : State} {m : MethodId} {args : Array Value} {below : List Frame} {meth : Method} {c : Code}
variable {D : va_G} {cA : Nat → ClassId} {ad : Nat → Nat}
set_option maxRecDepth 100000 in
set_option maxHeartbeats 4000000 in
theorem w_X3_hereInBlock_b43 {RR : Int × ZI} (S : CallFix p m c cX3_hereInBlock 5 s args Ztbl RX3) (hr : meth.sig.returnType = some .int) (hlk : meth.locks = false) (hR : 2 ≤ R.frames ∧ 60 * (2) ≤ R.locals) (hdj : Zdj ad) {k5 : ZI → Int → Int → Int → Int → Option (Int × ZI)} (hk5 : ∀ (z : ZI) (x1 : Int) (x2 : Int) (x3 : Int) (x4 : Int) (H : Heap) (locs : List Loc) (ls : Array Slot), k5 z x1 x2 x3 x4 = some RR → ZW D cA ad (ZA ad) (Zc z) s H locs → Zok z → InR x1 → InR x2 → InR x3 → InR x4 → lv_has ls 5 [(0, .ref (ad 11)), (1, .int (i32 (x1))), (2, .int (i32 (x2))), (3, .int (i32 (x3))), (4, .int (i32 (x4)))] → W p l e R s m args below meth c H locs 0 0 (MQ below (YQi D cA ad RR.1 RR.2) args s 0 0 (ZA ad)) (F0 m 5 ls [])) : ∀ (z : ZI) (x1 : Int) (x2 : Int) (x3 : Int) (x4 : Int) (H : Heap) (locs : List Loc) (ls : Array Slot), X3_hereInBlock_b43 k5 z x1 x2 x3 x4 = some RR → ZW D cA ad (ZA ad) (Zc z) s H locs → Zok z → InR x1 → InR x2 → InR x3 → InR x4 → lv_has ls 5 [(0, .ref (ad 11)), (1, .int (i32 (x1))), (2, .int (i32 (x2))), (3, .int (i32 (x3))), (4, .int (i32 (x4)))] → W p l e R s m args below meth c H locs 0 0 (MQ below (YQi D cA ad RR.1 RR.2) args s 0 0 (ZA ad)) (F0 m 43 ls []) := by
  intro z x1 x2 x3 x4 H locs ls hF hw hzz hx1 hx2 hx3 hx4 hl
  unfold X3_hereInBlock_b43 at hF
  obtain ⟨g1_, hF⟩ := Zgs hF
  refine lv_iinc (v := i32 (x4 + 1)) (lv' := [(4, .int (i32 (x4 + 1))), (0, .ref (ad 11)), (1, .int (i32 (x1))), (2, .int (i32 (x2))), (3, .int (i32 (x3)))]) S.1 S.2.1 dX3_hereInBlock_43 hl (k := 4) rfl Yiinc (by decide) rfl (fun ls hl => ?_)
  refine lv_goto (tgt := 5) S.1 S.2.1 dX3_hereInBlock_46 (by decide) ?_
  exact hk5 _ _ _ _ _ _ _ _ hF hw hzz hx1 hx2 hx3 g1_ (lv_sub hl [1, 2, 3, 4, 0] rfl)
set_option maxRecDepth 100000 in
set_option maxHeartbeats 4000000 in
theorem w_X3_hereInBlock_L5 {RR : Int × ZI} (S : CallFix p m c cX3_hereInBlock 5 s args Ztbl RX3) (hr : meth.sig.returnType = some .int) (hlk : meth.locks = false) (hR : 2 ≤ R.frames ∧ 60 * (2) ≤ R.locals) (hdj : Zdj ad) : ∀ (n : Nat) (z : ZI) (x1 : Int) (x2 : Int) (x3 : Int) (x4 : Int) (H : Heap) (locs : List Loc) (ls : Array Slot), X3_hereInBlock_L5 n z x1 x2 x3 x4 = some RR → ZW D cA ad (ZA ad) (Zc z) s H locs → Zok z → InR x1 → InR x2 → InR x3 → InR x4 → lv_has ls 5 [(0, .ref (ad 11)), (1, .int (i32 (x1))), (2, .int (i32 (x2))), (3, .int (i32 (x3))), (4, .int (i32 (x4)))] → W p l e R s m args below meth c H locs 0 0 (MQ below (YQi D cA ad RR.1 RR.2) args s 0 0 (ZA ad)) (F0 m 5 ls []) := by
  intro n
  induction n with
  | zero => intro z x1 x2 x3 x4 H locs ls hF; exact nomatch hF
  | succ n hk5 =>
    intro z x1 x2 x3 x4 H locs ls hF hw hzz hx1 hx2 hx3 hx4 hl
    replace hF : X3_hereInBlock_L5b (X3_hereInBlock_L5 n) z x1 x2 x3 x4 = some RR := hF
    unfold X3_hereInBlock_L5b at hF
    refine lv_iload S.1 S.2.1 dX3_hereInBlock_5 (lv_at hl 4 rfl) ?_
    refine lv_aload_n S.1 S.2.1 dX3_hereInBlock_7 rfl (lv_at hl 0 rfl) ?_
    refine gg_X3_59 S hw dX3_hereInBlock_8 ?_
    refine Yicmp_ge (tgt := 49) S hx4 (hzz.1 11 4 (by decide)) dX3_hereInBlock_11 (by decide) (fun c1_ => ?_) (fun c1_ => ?_)
    · replace hF := ZtP c1_ hF
      refine lv_iload_n S.1 S.2.1 dX3_hereInBlock_49 rfl (lv_at hl 3 rfl) ?_
      exact Yireti S hw hzz hx3 hr hlk hF dX3_hereInBlock_50
    · replace hF := ZtN c1_ hF
      refine lv_aload_n S.1 S.2.1 dX3_hereInBlock_14 rfl (lv_at hl 0 rfl) ?_
      refine gf_X3_15 S hw dX3_hereInBlock_15 ?_
      refine lv_aload_n S.1 S.2.1 dX3_hereInBlock_18 rfl (lv_at hl 0 rfl) ?_
      refine gf_X3_27 S hw dX3_hereInBlock_19 ?_
      refine lv_iload S.1 S.2.1 dX3_hereInBlock_22 (lv_at hl 4 rfl) ?_
      obtain ⟨b2_, hF⟩ := Zgs hF
      refine Yiald S hw zd_15 (by decide) hx4 b2_ dX3_hereInBlock_24 ?_
      obtain ⟨b3_, hF⟩ := Zgs hF
      refine Yiald S hw zd_13 (by decide) (hzz.1 _ _ (by decide)) b3_ dX3_hereInBlock_25 ?_
      refine lv_iload_n S.1 S.2.1 dX3_hereInBlock_26 rfl (lv_at hl 1 rfl) ?_
      refine Yicmp_ne (tgt := 43) S (hzz.1 _ _ (by decide)) hx1 dX3_hereInBlock_27 (by decide) (fun c4_ => ?_) (fun c4_ => ?_)
      · replace hF := ZtN c4_ hF
        exact w_X3_hereInBlock_b43 S hr hlk hR hdj hk5 _ _ _ _ _ _ _ _ hF hw hzz hx1 hx2 hx3 hx4 (lv_sub hl [0, 1, 2, 3, 4] rfl)
      · replace hF := ZtP c4_ hF
        refine lv_aload_n S.1 S.2.1 dX3_hereInBlock_30 rfl (lv_at hl 0 rfl) ?_
        refine lv_iload S.1 S.2.1 dX3_hereInBlock_31 (lv_at hl 4 rfl) ?_
        refine lv_iload_n S.1 S.2.1 dX3_hereInBlock_33 rfl (lv_at hl 2 rfl) ?_
        obtain ⟨r7_, z5_, h6_, hF⟩ := Ybs hF
        refine YcallVi (rest := []) S hw (c_X3_isHere hdj hzz hx4 hx2 h6_) my_X3_isHere mi_X3_isHere ml_X3_69 zd_11 zc_X3 rfl (Zrr hR (by decide)) ⟨Nat.zero_le _, Nat.zero_le _⟩ hl.1 rfl rfl (Nat.le_of_ble_eq_true rfl) dX3_hereInBlock_34 (fun hrr7_ hzz5_ H locs hw => ?_)
        refine Yif_eq (tgt := 43) S hrr7_ dX3_hereInBlock_37 (by decide) (fun c8_ => ?_) (fun c8_ => ?_)
        · replace hF := ZtP c8_ hF
          exact w_X3_hereInBlock_b43 S hr hlk hR hdj hk5 _ _ _ _ _ _ _ _ hF hw hzz5_ hx1 hx2 hx3 hx4 (lv_sub hl [0, 1, 2, 3, 4] rfl)
        · replace hF := ZtN c8_ hF
          obtain ⟨g9_, hF⟩ := Zgs hF
          refine lv_iinc (v := i32 (x3 + 1)) (lv' := [(3, .int (i32 (x3 + 1))), (0, .ref (ad 11)), (1, .int (i32 (x1))), (2, .int (i32 (x2))), (4, .int (i32 (x4)))]) S.1 S.2.1 dX3_hereInBlock_40 hl (k := 3) rfl Yiinc (by decide) rfl (fun ls hl => ?_)
          exact w_X3_hereInBlock_b43 S hr hlk hR hdj hk5 _ _ _ _ _ _ _ _ hF hw hzz5_ hx1 hx2 g9_ hx4 (lv_sub hl [1, 2, 3, 0, 4] rfl)
set_option maxRecDepth 100000 in
set_option maxHeartbeats 4000000 in
theorem c_X3_hereInBlock {l : Launch} {D : va_G} {cA : Nat → ClassId} {ad : Nat → Nat} (hdj : Zdj ad) {z z1 : ZI} {x1 : Int} {x2 : Int} {r : Int} (hzz : Zok z) (hx1 : InR x1) (hx2 : InR x2) (hF : F_X3_hereInBlock z x1 x2 = some (r, z1)) : YMi l D cA ad (2) yX3_hereInBlock cX3_hereInBlock 5 (some .int) [.ref (ad 11), .int (i32 x1), .int (i32 x2)] z r z1 :=
  Zmet hdj (by decide) rfl (Nat.le_of_ble_eq_true rfl) (lv := [(0, .ref (ad 11)), (1, .int (i32 (x1))), (2, .int (i32 (x2)))]) rfl (fun p e s m args below meth c ls S hr hlk hw hl => by
    have hR : 2 ≤ (Zrm (2)).frames ∧ 60 * (2) ≤ (Zrm (2)).locals := ⟨Nat.le_refl _, Nat.le_refl _⟩
    unfold F_X3_hereInBlock at hF
    revert hR
    generalize Zrm (2) = R
    intro hR
    refine lv_iconst (v := i32 0) S.1 S.2.1 dX3_hereInBlock_0 ic_0 ?_
    refine lv_istore_n (lv' := [(3, .int (i32 (0))), (0, .ref (ad 11)), (1, .int (i32 (x1))), (2, .int (i32 (x2)))]) S.1 S.2.1 dX3_hereInBlock_1 rfl hl (by decide) rfl (fun ls hl => ?_)
    refine lv_iconst (v := i32 0) S.1 S.2.1 dX3_hereInBlock_2 ic_0 ?_
    refine lv_istore (lv' := [(4, .int (i32 (0))), (3, .int (i32 (0))), (0, .ref (ad 11)), (1, .int (i32 (x1))), (2, .int (i32 (x2)))]) S.1 S.2.1 dX3_hereInBlock_3 hl (by decide) rfl (fun ls hl => ?_)
    exact w_X3_hereInBlock_L5 S hr hlk hR hdj Zfuel _ _ _ _ _ _ _ _ hF hw hzz hx1 hx2 r_0 r_0 (lv_sub hl [2, 3, 4, 1, 0] rfl))
set_option maxRecDepth 100000 in
set_option maxHeartbeats 4000000 in
theorem w_X10_off_b75 {RR : Int × ZI} (S : CallFix p m c cX10_off 5 s args Ztbl RX10) (hr : meth.sig.returnType = some .int) (hlk : meth.locks = false) (hR : 3 ≤ R.frames ∧ 60 * (3) ≤ R.locals) (hdj : Zdj ad) : ∀ (z : ZI) (y0 : Int) (H : Heap) (locs : List Loc) (ls : Array Slot), X10_off_b75 z y0 = some RR → ZW D cA ad (ZA ad) (Zc z) s H locs → Zok z → InR y0 → lv_has ls 5 [] → W p l e R s m args below meth c H locs 0 0 (MQ below (YQi D cA ad RR.1 RR.2) args s 0 0 (ZA ad)) (F0 m 75 ls [.int (i32 (y0))]) := by
  intro z y0 H locs ls hF hw hzz hy0 hl
  unfold X10_off_b75 at hF
  exact Yireti S hw hzz hy0 hr hlk hF dX10_off_75
set_option maxRecDepth 100000 in
set_option maxHeartbeats 4000000 in
theorem c_X10_off {l : Launch} {D : va_G} {cA : Nat → ClassId} {ad : Nat → Nat} (hdj : Zdj ad) {z z1 : ZI} {x1 : Int} {x2 : Int} {r : Int} (hzz : Zok z) (hx1 : InR x1) (hx2 : InR x2) (hF : F_X10_off z x1 x2 = some (r, z1)) : YMi l D cA ad (3) yX10_off cX10_off 5 (some .int) [.ref (ad 0), .int (i32 x1), .int (i32 x2)] z r z1 :=
  Zmet hdj (by decide) rfl (Nat.le_of_ble_eq_true rfl) (lv := [(0, .ref (ad 0)), (1, .int (i32 (x1))), (2, .int (i32 (x2)))]) rfl (fun p e s m args below meth c ls S hr hlk hw hl => by
    have hR : 3 ≤ (Zrm (3)).frames ∧ 60 * (3) ≤ (Zrm (3)).locals := ⟨Nat.le_refl _, Nat.le_refl _⟩
    unfold F_X10_off at hF
    revert hR
    generalize Zrm (3) = R
    intro hR
    refine lv_iload_n S.1 S.2.1 dX10_off_0 rfl (lv_at hl 1 rfl) ?_
    obtain ⟨r3_, z1_, h2_, hF⟩ := Ybs hF
    refine YcallSi (rest := []) S hw (c_X10_isBlock hdj hzz hx1 h2_) my_X10_isBlock ms_X10_isBlock ml_X10_100 (Zrr hR (by decide)) ⟨Nat.zero_le _, Nat.zero_le _⟩ hl.1 rfl rfl (Nat.le_of_ble_eq_true rfl) dX10_off_1 (fun hrr3_ hzz1_ H locs hw => ?_)
    refine Yif_ne (tgt := 13) S hrr3_ dX10_off_4 (by decide) (fun c4_ => ?_) (fun c4_ => ?_)
    · replace hF := ZtN c4_ hF
      refine lv_iload_n S.1 S.2.1 dX10_off_13 rfl (lv_at hl 2 rfl) ?_
      refine lv_iconst (v := i32 0) S.1 S.2.1 dX10_off_14 ic_0 ?_
      refine lv_sipush (v := i32 999) S.1 S.2.1 dX10_off_15 sp_999 ?_
      obtain ⟨r7_, z5_, h6_, hF⟩ := Ybs hF
      refine YcallSi (rest := []) S hw (c_X10_checkRange hdj hzz1_ hx2 r_0 r_999 h6_) my_X10_checkRange ms_X10_checkRange ml_X10_85 (Zrr hR (by decide)) ⟨Nat.zero_le _, Nat.zero_le _⟩ hl.1 rfl rfl (Nat.le_of_ble_eq_true rfl) dX10_off_18 (fun hrr7_ hzz5_ H locs hw => ?_)
      refine lv_istore_n (lv' := [(3, .int (i32 (r7_))), (0, .ref (ad 0)), (1, .int (i32 (x1))), (2, .int (i32 (x2)))]) S.1 S.2.1 dX10_off_21 rfl hl (by decide) rfl (fun ls hl => ?_)
      refine lv_iload_n S.1 S.2.1 dX10_off_22 rfl (lv_at hl 0 rfl) ?_
      refine Yif_eq (tgt := 32) S hrr7_ dX10_off_23 (by decide) (fun c8_ => ?_) (fun c8_ => ?_)
      · replace hF := ZtP c8_ hF
        refine lv_aload_n S.1 S.2.1 dX10_off_32 rfl (lv_at hl 1 rfl) ?_
        refine gf_X10_76 S hw dX10_off_33 ?_
        refine lv_iload_n S.1 S.2.1 dX10_off_36 rfl (lv_at hl 2 rfl) ?_
        refine lv_iload_n S.1 S.2.1 dX10_off_37 rfl (lv_at hl 3 rfl) ?_
        refine lv_aload_n S.1 S.2.1 dX10_off_38 rfl (lv_at hl 1 rfl) ?_
        refine gg_X10_7 S hw dX10_off_39 ?_
        obtain ⟨r11_, z9_, h10_, hF⟩ := Ybs hF
        refine YcallVi (rest := []) S hw (c_X1_known hdj hzz5_ hx1 hx2 (hzz5_.1 0 0 (by decide)) h10_) my_X1_known mi_X1_known ml_X10_314 zd_63 zc_X1 rfl (Zrr hR (by decide)) ⟨Nat.zero_le _, Nat.zero_le _⟩ hl.1 rfl rfl (Nat.le_of_ble_eq_true rfl) dX10_off_42 (fun hrr11_ hzz9_ H locs hw => ?_)
        refine lv_istore (lv' := [(4, .int (i32 (r11_))), (3, .int (i32 (r7_))), (0, .ref (ad 0)), (1, .int (i32 (x1))), (2, .int (i32 (x2)))]) S.1 S.2.1 dX10_off_45 hl (by decide) rfl (fun ls hl => ?_)
        refine lv_iload S.1 S.2.1 dX10_off_47 (lv_at hl 0 rfl) ?_
        refine lv_bipush (v := i32 (-9)) S.1 S.2.1 dX10_off_49 bp_m9 ?_
        refine Yicmp_ne (tgt := 63) S hrr11_ r_m9 dX10_off_51 (by decide) (fun c12_ => ?_) (fun c12_ => ?_)
        · replace hF := ZtN c12_ hF
          refine lv_iload S.1 S.2.1 dX10_off_63 (lv_at hl 0 rfl) ?_
          refine lv_aload_n S.1 S.2.1 dX10_off_65 rfl (lv_at hl 2 rfl) ?_
          refine gf_X10_27 S hw dX10_off_66 ?_
          refine lv_iload_n S.1 S.2.1 dX10_off_69 rfl (lv_at hl 3 rfl) ?_
          refine lv_iload_n S.1 S.2.1 dX10_off_70 rfl (lv_at hl 4 rfl) ?_
          obtain ⟨r15_, z13_, h14_, hF⟩ := Ybs hF
          refine YcallVi (rest := [.int (i32 (r11_))]) S hw (c_X3_hereInBlock hdj hzz9_ hx1 hx2 h14_) my_X3_hereInBlock mi_X3_hereInBlock ml_X10_317 zd_11 zc_X3 rfl (Zrr hR (by decide)) ⟨Nat.zero_le _, Nat.zero_le _⟩ hl.1 rfl rfl (Nat.le_of_ble_eq_true rfl) dX10_off_71 (fun hrr15_ hzz13_ H locs hw => ?_)
          obtain ⟨g16_, hF⟩ := Zgs hF
          refine Yisub S dX10_off_74 ?_
          exact w_X10_off_b75 S hr hlk hR hdj _ _ _ _ _ hF hw hzz13_ g16_ (lv_sub hl [] rfl)
        · replace hF := ZtP c12_ hF
          refine lv_aload_n S.1 S.2.1 dX10_off_54 rfl (lv_at hl 2 rfl) ?_
          refine lv_bipush (v := i32 (-3)) S.1 S.2.1 dX10_off_55 bp_m3 ?_
          obtain ⟨r19_, z17_, h18_, hF⟩ := Ybs hF
          refine YcallVi (rest := []) S hw (c_X10_refuseBeyond hdj hzz9_ r_m3 h18_) my_X10_refuseBeyond mi_X10_refuseBeyond ml_X10_184 zd_0 zc_X10 rfl (Zrr hR (by decide)) ⟨Nat.zero_le _, Nat.zero_le _⟩ hl.1 rfl rfl (Nat.le_of_ble_eq_true rfl) dX10_off_57 (fun hrr19_ hzz17_ H locs hw => ?_)
          refine lv_goto (tgt := 75) S.1 S.2.1 dX10_off_60 (by decide) ?_
          exact w_X10_off_b75 S hr hlk hR hdj _ _ _ _ _ hF hw hzz17_ hrr19_ (lv_sub hl [] rfl)
      · replace hF := ZtN c8_ hF
        refine lv_aload_n S.1 S.2.1 dX10_off_26 rfl (lv_at hl 1 rfl) ?_
        refine lv_iload_n S.1 S.2.1 dX10_off_27 rfl (lv_at hl 0 rfl) ?_
        obtain ⟨r22_, z20_, h21_, hF⟩ := Ybs hF
        refine YcallVi (rest := []) S hw (c_X10_refuseBeyond hdj hzz5_ hrr7_ h21_) my_X10_refuseBeyond mi_X10_refuseBeyond ml_X10_184 zd_0 zc_X10 rfl (Zrr hR (by decide)) ⟨Nat.zero_le _, Nat.zero_le _⟩ hl.1 rfl rfl (Nat.le_of_ble_eq_true rfl) dX10_off_28 (fun hrr22_ hzz20_ H locs hw => ?_)
        exact Yireti S hw hzz20_ hrr22_ hr hlk hF dX10_off_31
    · replace hF := ZtP c4_ hF
      refine lv_aload_n S.1 S.2.1 dX10_off_7 rfl (lv_at hl 0 rfl) ?_
      refine lv_iconst (v := i32 (-1)) S.1 S.2.1 dX10_off_8 ic_m1 ?_
      obtain ⟨r25_, z23_, h24_, hF⟩ := Ybs hF
      refine YcallVi (rest := []) S hw (c_X10_refuseBeyond hdj hzz1_ r_m1 h24_) my_X10_refuseBeyond mi_X10_refuseBeyond ml_X10_184 zd_0 zc_X10 rfl (Zrr hR (by decide)) ⟨Nat.zero_le _, Nat.zero_le _⟩ hl.1 rfl rfl (Nat.le_of_ble_eq_true rfl) dX10_off_9 (fun hrr25_ hzz23_ H locs hw => ?_)
      exact Yireti S hw hzz23_ hrr25_ hr hlk hF dX10_off_12)
set_option maxRecDepth 100000 in
set_option maxHeartbeats 4000000 in
theorem c_X10_pairs {l : Launch} {D : va_G} {cA : Nat → ClassId} {ad : Nat → Nat} (hdj : Zdj ad) {z z1 : ZI} {x1 : Int} {x2 : Int} {r : Int} (hzz : Zok z) (hx1 : InR x1) (hx2 : InR x2) (hF : F_X10_pairs z x1 x2 = some (r, z1)) : YMi l D cA ad (4) yX10_pairs cX10_pairs 4 (some .int) [.ref (ad 0), .int (i32 x1), .int (i32 x2)] z r z1 :=
  Zmet hdj (by decide) rfl (Nat.le_of_ble_eq_true rfl) (lv := [(0, .ref (ad 0)), (1, .int (i32 (x1))), (2, .int (i32 (x2)))]) rfl (fun p e s m args below meth c ls S hr hlk hw hl => by
    have hR : 4 ≤ (Zrm (4)).frames ∧ 60 * (4) ≤ (Zrm (4)).locals := ⟨Nat.le_refl _, Nat.le_refl _⟩
    unfold F_X10_pairs at hF
    revert hR
    generalize Zrm (4) = R
    intro hR
    refine lv_aload_n S.1 S.2.1 dX10_pairs_0 rfl (lv_at hl 0 rfl) ?_
    refine lv_iload_n S.1 S.2.1 dX10_pairs_1 rfl (lv_at hl 1 rfl) ?_
    refine lv_iload_n S.1 S.2.1 dX10_pairs_2 rfl (lv_at hl 2 rfl) ?_
    obtain ⟨r3_, z1_, h2_, hF⟩ := Ybs hF
    refine YcallVi (rest := []) S hw (c_X10_checkTwoCards hdj hzz hx1 hx2 h2_) my_X10_checkTwoCards mi_X10_checkTwoCards ml_X10_205 zd_0 zc_X10 rfl (Zrr hR (by decide)) ⟨Nat.zero_le _, Nat.zero_le _⟩ hl.1 rfl rfl (Nat.le_of_ble_eq_true rfl) dX10_pairs_3 (fun hrr3_ hzz1_ H locs hw => ?_)
    refine lv_istore_n (lv' := [(3, .int (i32 (r3_))), (0, .ref (ad 0)), (1, .int (i32 (x1))), (2, .int (i32 (x2)))]) S.1 S.2.1 dX10_pairs_6 rfl hl (by decide) rfl (fun ls hl => ?_)
    refine lv_iload_n S.1 S.2.1 dX10_pairs_7 rfl (lv_at hl 0 rfl) ?_
    refine Yif_eq (tgt := 17) S hrr3_ dX10_pairs_8 (by decide) (fun c4_ => ?_) (fun c4_ => ?_)
    · replace hF := ZtP c4_ hF
      refine lv_aload_n S.1 S.2.1 dX10_pairs_17 rfl (lv_at hl 1 rfl) ?_
      refine gf_X10_27 S hw dX10_pairs_18 ?_
      refine lv_aload_n S.1 S.2.1 dX10_pairs_21 rfl (lv_at hl 1 rfl) ?_
      refine gf_X10_41 S hw dX10_pairs_22 ?_
      refine lv_iload_n S.1 S.2.1 dX10_pairs_25 rfl (lv_at hl 2 rfl) ?_
      obtain ⟨r7_, z5_, h6_, hF⟩ := Ybs hF
      refine YcallVi (rest := [.ref (ad 11)]) S hw (c_X0_houseOf hdj hzz1_ hx1 h6_) my_X0_houseOf mi_X0_houseOf ml_X10_174 zd_33 zc_X0 rfl (Zrr hR (by decide)) ⟨Nat.zero_le _, Nat.zero_le _⟩ hl.1 rfl rfl (Nat.le_of_ble_eq_true rfl) dX10_pairs_26 (fun hrr7_ hzz5_ H locs hw => ?_)
      refine lv_aload_n S.1 S.2.1 dX10_pairs_29 rfl (lv_at hl 1 rfl) ?_
      refine gf_X10_41 S hw dX10_pairs_30 ?_
      refine lv_iload_n S.1 S.2.1 dX10_pairs_33 rfl (lv_at hl 3 rfl) ?_
      obtain ⟨r10_, z8_, h9_, hF⟩ := Ybs hF
      refine YcallVi (rest := [.int (i32 (r7_)), .ref (ad 11)]) S hw (c_X0_houseOf hdj hzz5_ hx2 h9_) my_X0_houseOf mi_X0_houseOf ml_X10_174 zd_33 zc_X0 rfl (Zrr hR (by decide)) ⟨Nat.zero_le _, Nat.zero_le _⟩ hl.1 rfl rfl (Nat.le_of_ble_eq_true rfl) dX10_pairs_34 (fun hrr10_ hzz8_ H locs hw => ?_)
      refine lv_aload_n S.1 S.2.1 dX10_pairs_37 rfl (lv_at hl 1 rfl) ?_
      refine gg_X10_7 S hw dX10_pairs_38 ?_
      obtain ⟨r13_, z11_, h12_, hF⟩ := Ybs hF
      refine YcallVi (rest := []) S hw (c_X3_pairUp hdj hzz8_ hrr7_ hrr10_ (hzz8_.1 0 0 (by decide)) h12_) my_X3_pairUp mi_X3_pairUp ml_X10_208 zd_11 zc_X3 rfl (Zrr hR (by decide)) ⟨Nat.zero_le _, Nat.zero_le _⟩ hl.1 rfl rfl (Nat.le_of_ble_eq_true rfl) dX10_pairs_41 (fun hrr13_ hzz11_ H locs hw => ?_)
      exact Yireti S hw hzz11_ hrr13_ hr hlk hF dX10_pairs_44
    · replace hF := ZtN c4_ hF
      refine lv_aload_n S.1 S.2.1 dX10_pairs_11 rfl (lv_at hl 1 rfl) ?_
      refine lv_iload_n S.1 S.2.1 dX10_pairs_12 rfl (lv_at hl 0 rfl) ?_
      obtain ⟨r16_, z14_, h15_, hF⟩ := Ybs hF
      refine YcallVi (rest := []) S hw (c_X10_refuse hdj hzz1_ hrr3_ h15_) my_X10_refuse mi_X10_refuse ml_X10_81 zd_0 zc_X10 rfl (Zrr hR (by decide)) ⟨Nat.zero_le _, Nat.zero_le _⟩ hl.1 rfl rfl (Nat.le_of_ble_eq_true rfl) dX10_pairs_13 (fun hrr16_ hzz14_ H locs hw => ?_)
      exact Yireti S hw hzz14_ hrr16_ hr hlk hF dX10_pairs_16)
set_option maxRecDepth 100000 in
set_option maxHeartbeats 4000000 in
theorem c_X3_addPerson {l : Launch} {D : va_G} {cA : Nat → ClassId} {ad : Nat → Nat} (hdj : Zdj ad) {z z1 : ZI} {x1 : Int} {x2 : Int} {x3 : Int} {x4 : Int} {r : Int} (hzz : Zok z) (hx1 : InR x1) (hx2 : InR x2) (hx3 : InR x3) (hx4 : InR x4) (hF : F_X3_addPerson z x1 x2 x3 x4 = some (r, z1)) : YMi l D cA ad (0) yX3_addPerson cX3_addPerson 5 (some .int) [.ref (ad 11), .int (i32 x1), .int (i32 x2), .int (i32 x3), .int (i32 x4)] z r z1 :=
  Zmet hdj (by decide) rfl (Nat.le_of_ble_eq_true rfl) (lv := [(0, .ref (ad 11)), (1, .int (i32 (x1))), (2, .int (i32 (x2))), (3, .int (i32 (x3))), (4, .int (i32 (x4)))]) rfl (fun p e s m args below meth c ls S hr hlk hw hl => by
    have hR : 0 ≤ (Zrm (0)).frames ∧ 60 * (0) ≤ (Zrm (0)).locals := ⟨Nat.le_refl _, Nat.le_refl _⟩
    unfold F_X3_addPerson at hF
    revert hR
    generalize Zrm (0) = R
    intro hR
    refine lv_aload_n S.1 S.2.1 dX3_addPerson_0 rfl (lv_at hl 0 rfl) ?_
    refine gf_X3_27 S hw dX3_addPerson_1 ?_
    refine lv_aload_n S.1 S.2.1 dX3_addPerson_4 rfl (lv_at hl 0 rfl) ?_
    refine gg_X3_59 S hw dX3_addPerson_5 ?_
    refine lv_iload_n S.1 S.2.1 dX3_addPerson_8 rfl (lv_at hl 1 rfl) ?_
    obtain ⟨b1_, hF⟩ := Zgs hF
    refine Yiast S hw hzz zd_15 (by decide) (hzz.1 11 4 (by decide)) hx1 b1_ dX3_addPerson_9 (fun z2_ H locs ez hzz2_ hw => ?_)
    replace hF := Zle ez hF; clear ez
    refine lv_aload_n S.1 S.2.1 dX3_addPerson_10 rfl (lv_at hl 0 rfl) ?_
    refine gf_X3_30 S hw dX3_addPerson_11 ?_
    refine lv_aload_n S.1 S.2.1 dX3_addPerson_14 rfl (lv_at hl 0 rfl) ?_
    refine gg_X3_59 S hw dX3_addPerson_15 ?_
    refine lv_iload_n S.1 S.2.1 dX3_addPerson_18 rfl (lv_at hl 2 rfl) ?_
    obtain ⟨b3_, hF⟩ := Zgs hF
    refine Yiast S hw hzz2_ zd_16 (by decide) (hzz2_.1 11 4 (by decide)) hx2 b3_ dX3_addPerson_19 (fun z4_ H locs ez hzz4_ hw => ?_)
    replace hF := Zle ez hF; clear ez
    refine lv_aload_n S.1 S.2.1 dX3_addPerson_20 rfl (lv_at hl 0 rfl) ?_
    refine gf_X3_33 S hw dX3_addPerson_21 ?_
    refine lv_aload_n S.1 S.2.1 dX3_addPerson_24 rfl (lv_at hl 0 rfl) ?_
    refine gg_X3_59 S hw dX3_addPerson_25 ?_
    refine lv_iload_n S.1 S.2.1 dX3_addPerson_28 rfl (lv_at hl 3 rfl) ?_
    obtain ⟨b5_, hF⟩ := Zgs hF
    refine Yiast S hw hzz4_ zd_17 (by decide) (hzz4_.1 11 4 (by decide)) hx3 b5_ dX3_addPerson_29 (fun z6_ H locs ez hzz6_ hw => ?_)
    replace hF := Zle ez hF; clear ez
    refine lv_aload_n S.1 S.2.1 dX3_addPerson_30 rfl (lv_at hl 0 rfl) ?_
    refine gf_X3_36 S hw dX3_addPerson_31 ?_
    refine lv_aload_n S.1 S.2.1 dX3_addPerson_34 rfl (lv_at hl 0 rfl) ?_
    refine gg_X3_59 S hw dX3_addPerson_35 ?_
    refine lv_iload S.1 S.2.1 dX3_addPerson_38 (lv_at hl 4 rfl) ?_
    obtain ⟨b7_, hF⟩ := Zgs hF
    refine Yiast S hw hzz6_ zd_18 (by decide) (hzz6_.1 11 4 (by decide)) hx4 b7_ dX3_addPerson_40 (fun z8_ H locs ez hzz8_ hw => ?_)
    replace hF := Zle ez hF; clear ez
    refine lv_aload_n S.1 S.2.1 dX3_addPerson_41 rfl (lv_at hl 0 rfl) ?_
    refine gf_X3_39 S hw dX3_addPerson_42 ?_
    refine lv_aload_n S.1 S.2.1 dX3_addPerson_45 rfl (lv_at hl 0 rfl) ?_
    refine gg_X3_59 S hw dX3_addPerson_46 ?_
    refine lv_bipush (v := i32 (-9)) S.1 S.2.1 dX3_addPerson_49 bp_m9 ?_
    obtain ⟨b9_, hF⟩ := Zgs hF
    refine Yiast S hw hzz8_ zd_19 (by decide) (hzz8_.1 11 4 (by decide)) r_m9 b9_ dX3_addPerson_51 (fun z10_ H locs ez hzz10_ hw => ?_)
    replace hF := Zle ez hF; clear ez
    refine lv_aload_n S.1 S.2.1 dX3_addPerson_52 rfl (lv_at hl 0 rfl) ?_
    refine lv_dup S.1 S.2.1 dX3_addPerson_53 rfl ?_
    refine gg_X3_59 S hw dX3_addPerson_54 ?_
    refine lv_dup_x1 S.1 S.2.1 dX3_addPerson_57 rfl rfl ?_
    refine lv_iconst (v := i32 1) S.1 S.2.1 dX3_addPerson_58 ic_1 ?_
    obtain ⟨g11_, hF⟩ := Zgs hF
    refine Yiadd S dX3_addPerson_59 ?_
    refine pp_X3_59 S hw hzz10_ g11_ dX3_addPerson_60 (fun z12_ H locs ez hzz12_ hw => ?_)
    replace hF := Zle ez hF; clear ez
    exact Yireti S hw hzz12_ (hzz10_.1 11 4 (by decide)) hr hlk hF dX3_addPerson_63)
set_option maxRecDepth 100000 in
set_option maxHeartbeats 4000000 in
theorem w_X10_person_b27 {RR : Int × ZI} (S : CallFix p m c cX10_person 4 s args Ztbl RX10) (hr : meth.sig.returnType = some .int) (hlk : meth.locks = false) (hR : 1 ≤ R.frames ∧ 60 * (1) ≤ R.locals) (hdj : Zdj ad) : ∀ (z : ZI) (H : Heap) (locs : List Loc) (ls : Array Slot), X10_person_b27 z  = some RR → ZW D cA ad (ZA ad) (Zc z) s H locs → Zok z → lv_has ls 4 [(0, .ref (ad 0))] → W p l e R s m args below meth c H locs 0 0 (MQ below (YQi D cA ad RR.1 RR.2) args s 0 0 (ZA ad)) (F0 m 27 ls []) := by
  intro z  H locs ls hF hw hzz  hl
  unfold X10_person_b27 at hF
  refine lv_aload_n S.1 S.2.1 dX10_person_27 rfl (lv_at hl 0 rfl) ?_
  refine lv_bipush (v := i32 (-2)) S.1 S.2.1 dX10_person_28 bp_m2 ?_
  obtain ⟨r3_, z1_, h2_, hF⟩ := Ybs hF
  refine YcallVi (rest := []) S hw (c_X10_refuse hdj hzz r_m2 h2_) my_X10_refuse mi_X10_refuse ml_X10_81 zd_0 zc_X10 rfl (Zrr hR (by decide)) ⟨Nat.zero_le _, Nat.zero_le _⟩ hl.1 rfl rfl (Nat.le_of_ble_eq_true rfl) dX10_person_30 (fun hrr3_ hzz1_ H locs hw => ?_)
  exact Yireti S hw hzz1_ hrr3_ hr hlk hF dX10_person_33
set_option maxRecDepth 100000 in
set_option maxHeartbeats 4000000 in
theorem w_X10_person_b67 {RR : Int × ZI} (S : CallFix p m c cX10_person 4 s args Ztbl RX10) (hr : meth.sig.returnType = some .int) (hlk : meth.locks = false) (hR : 1 ≤ R.frames ∧ 60 * (1) ≤ R.locals) (hdj : Zdj ad) : ∀ (z : ZI) (H : Heap) (locs : List Loc) (ls : Array Slot), X10_person_b67 z  = some RR → ZW D cA ad (ZA ad) (Zc z) s H locs → Zok z → lv_has ls 4 [(0, .ref (ad 0))] → W p l e R s m args below meth c H locs 0 0 (MQ below (YQi D cA ad RR.1 RR.2) args s 0 0 (ZA ad)) (F0 m 67 ls []) := by
  intro z  H locs ls hF hw hzz  hl
  unfold X10_person_b67 at hF
  refine lv_aload_n S.1 S.2.1 dX10_person_67 rfl (lv_at hl 0 rfl) ?_
  refine lv_bipush (v := i32 (-6)) S.1 S.2.1 dX10_person_68 bp_m6 ?_
  obtain ⟨r3_, z1_, h2_, hF⟩ := Ybs hF
  refine YcallVi (rest := []) S hw (c_X10_refuse hdj hzz r_m6 h2_) my_X10_refuse mi_X10_refuse ml_X10_81 zd_0 zc_X10 rfl (Zrr hR (by decide)) ⟨Nat.zero_le _, Nat.zero_le _⟩ hl.1 rfl rfl (Nat.le_of_ble_eq_true rfl) dX10_person_70 (fun hrr3_ hzz1_ H locs hw => ?_)
  exact Yireti S hw hzz1_ hrr3_ hr hlk hF dX10_person_73
set_option maxRecDepth 100000 in
set_option maxHeartbeats 4000000 in
theorem c_X10_person {l : Launch} {D : va_G} {cA : Nat → ClassId} {ad : Nat → Nat} (hdj : Zdj ad) {z z1 : ZI} {x1 : Int} {x2 : Int} {x3 : Int} {r : Int} (hzz : Zok z) (hx1 : InR x1) (hx2 : InR x2) (hx3 : InR x3) (hF : F_X10_person z x1 x2 x3 = some (r, z1)) : YMi l D cA ad (1) yX10_person cX10_person 4 (some .int) [.ref (ad 0), .int (i32 x1), .int (i32 x2), .int (i32 x3)] z r z1 :=
  Zmet hdj (by decide) rfl (Nat.le_of_ble_eq_true rfl) (lv := [(0, .ref (ad 0)), (1, .int (i32 (x1))), (2, .int (i32 (x2))), (3, .int (i32 (x3)))]) rfl (fun p e s m args below meth c ls S hr hlk hw hl => by
    have hR : 1 ≤ (Zrm (1)).frames ∧ 60 * (1) ≤ (Zrm (1)).locals := ⟨Nat.le_refl _, Nat.le_refl _⟩
    unfold F_X10_person at hF
    revert hR
    generalize Zrm (1) = R
    intro hR
    refine lv_aload_n S.1 S.2.1 dX10_person_0 rfl (lv_at hl 0 rfl) ?_
    refine gf_X10_27 S hw dX10_person_1 ?_
    refine lv_iload_n S.1 S.2.1 dX10_person_4 rfl (lv_at hl 1 rfl) ?_
    obtain ⟨r3_, z1_, h2_, hF⟩ := Ybs hF
    refine YcallVi (rest := []) S hw (c_X3_hasHouse hdj hzz hx1 h2_) my_X3_hasHouse mi_X3_hasHouse ml_X10_115 zd_11 zc_X3 rfl (Zrr hR (by decide)) ⟨Nat.zero_le _, Nat.zero_le _⟩ hl.1 rfl rfl (Nat.le_of_ble_eq_true rfl) dX10_person_5 (fun hrr3_ hzz1_ H locs hw => ?_)
    refine Yif_ne (tgt := 17) S hrr3_ dX10_person_8 (by decide) (fun c4_ => ?_) (fun c4_ => ?_)
    · replace hF := ZtN c4_ hF
      refine lv_iload_n S.1 S.2.1 dX10_person_17 rfl (lv_at hl 3 rfl) ?_
      refine Yif_lt (tgt := 27) S hx3 dX10_person_18 (by decide) (fun c5_ => ?_) (fun c5_ => ?_)
      · replace hF := ZtP c5_ hF
        exact w_X10_person_b27 S hr hlk hR hdj _ _ _ _ hF hw hzz1_  (lv_sub hl [0] rfl)
      · replace hF := ZtN c5_ hF
        refine lv_iload_n S.1 S.2.1 dX10_person_21 rfl (lv_at hl 3 rfl) ?_
        refine lv_bipush (v := i32 6) S.1 S.2.1 dX10_person_22 bp_6 ?_
        refine Yicmp_lt (tgt := 34) S hx3 r_6 dX10_person_24 (by decide) (fun c6_ => ?_) (fun c6_ => ?_)
        · replace hF := ZtP c6_ hF
          refine lv_iload_n S.1 S.2.1 dX10_person_34 rfl (lv_at hl 2 rfl) ?_
          refine lv_ldc (own := RX10) (v := i32 (-36500)) S.1 S.2.1 S.2.2.2.1 (S.2.2.2.2 _ yc_X10_118) dX10_person_35 ?_
          refine Yicmp_ge (tgt := 47) S hx2 r_m36500 dX10_person_37 (by decide) (fun c7_ => ?_) (fun c7_ => ?_)
          · replace hF := ZtP c7_ hF
            refine lv_iload_n S.1 S.2.1 dX10_person_47 rfl (lv_at hl 2 rfl) ?_
            refine lv_aload_n S.1 S.2.1 dX10_person_48 rfl (lv_at hl 0 rfl) ?_
            refine gg_X10_7 S hw dX10_person_49 ?_
            refine Yicmp_gt (tgt := 67) S hx2 (hzz1_.1 0 0 (by decide)) dX10_person_52 (by decide) (fun c8_ => ?_) (fun c8_ => ?_)
            · replace hF := ZtP c8_ hF
              exact w_X10_person_b67 S hr hlk hR hdj _ _ _ _ hF hw hzz1_  (lv_sub hl [0] rfl)
            · replace hF := ZtN c8_ hF
              refine lv_aload_n S.1 S.2.1 dX10_person_55 rfl (lv_at hl 0 rfl) ?_
              refine gf_X10_27 S hw dX10_person_56 ?_
              refine gg_X10_119 S hw dX10_person_59 ?_
              refine lv_bipush (v := i32 60) S.1 S.2.1 dX10_person_62 bp_60 ?_
              refine Yicmp_lt (tgt := 74) S (hzz1_.1 11 4 (by decide)) r_60 dX10_person_64 (by decide) (fun c9_ => ?_) (fun c9_ => ?_)
              · replace hF := ZtP c9_ hF
                refine lv_aload_n S.1 S.2.1 dX10_person_74 rfl (lv_at hl 0 rfl) ?_
                refine gf_X10_55 S hw dX10_person_75 ?_
                obtain ⟨r12_, z10_, h11_, hF⟩ := Ybs hF
                refine YcallVv (rest := []) S hw (c_X9_forgetBest hdj hzz1_  h11_) my_X9_forgetBest mi_X9_forgetBest ml_X10_109 zd_41 zc_X9 rfl (Zrr hR (by decide)) ⟨Nat.zero_le _, Nat.zero_le _⟩ hl.1 rfl rfl (Nat.le_of_ble_eq_true rfl) dX10_person_78 (fun hzz10_ H locs hw => ?_)
                refine lv_aload_n S.1 S.2.1 dX10_person_81 rfl (lv_at hl 0 rfl) ?_
                refine gf_X10_27 S hw dX10_person_82 ?_
                refine lv_iload_n S.1 S.2.1 dX10_person_85 rfl (lv_at hl 1 rfl) ?_
                refine lv_iload_n S.1 S.2.1 dX10_person_86 rfl (lv_at hl 2 rfl) ?_
                refine lv_iload_n S.1 S.2.1 dX10_person_87 rfl (lv_at hl 3 rfl) ?_
                refine lv_aload_n S.1 S.2.1 dX10_person_88 rfl (lv_at hl 0 rfl) ?_
                refine gg_X10_7 S hw dX10_person_89 ?_
                obtain ⟨r15_, z13_, h14_, hF⟩ := Ybs hF
                refine YcallVi (rest := []) S hw (c_X3_addPerson hdj hzz10_ hx1 hx2 hx3 (hzz10_.1 0 0 (by decide)) h14_) my_X3_addPerson mi_X3_addPerson ml_X10_122 zd_11 zc_X3 rfl (Zrr hR (by decide)) ⟨Nat.zero_le _, Nat.zero_le _⟩ hl.1 rfl rfl (Nat.le_of_ble_eq_true rfl) dX10_person_92 (fun hrr15_ hzz13_ H locs hw => ?_)
                exact Yireti S hw hzz13_ hrr15_ hr hlk hF dX10_person_95
              · replace hF := ZtN c9_ hF
                exact w_X10_person_b67 S hr hlk hR hdj _ _ _ _ hF hw hzz1_  (lv_sub hl [0] rfl)
          · replace hF := ZtN c7_ hF
            refine lv_aload_n S.1 S.2.1 dX10_person_40 rfl (lv_at hl 0 rfl) ?_
            refine lv_bipush (v := i32 (-4)) S.1 S.2.1 dX10_person_41 bp_m4 ?_
            obtain ⟨r18_, z16_, h17_, hF⟩ := Ybs hF
            refine YcallVi (rest := []) S hw (c_X10_refuse hdj hzz1_ r_m4 h17_) my_X10_refuse mi_X10_refuse ml_X10_81 zd_0 zc_X10 rfl (Zrr hR (by decide)) ⟨Nat.zero_le _, Nat.zero_le _⟩ hl.1 rfl rfl (Nat.le_of_ble_eq_true rfl) dX10_person_43 (fun hrr18_ hzz16_ H locs hw => ?_)
            exact Yireti S hw hzz16_ hrr18_ hr hlk hF dX10_person_46
        · replace hF := ZtN c6_ hF
          exact w_X10_person_b27 S hr hlk hR hdj _ _ _ _ hF hw hzz1_  (lv_sub hl [0] rfl)
    · replace hF := ZtP c4_ hF
      refine lv_aload_n S.1 S.2.1 dX10_person_11 rfl (lv_at hl 0 rfl) ?_
      refine lv_iconst (v := i32 (-1)) S.1 S.2.1 dX10_person_12 ic_m1 ?_
      obtain ⟨r21_, z19_, h20_, hF⟩ := Ybs hF
      refine YcallVi (rest := []) S hw (c_X10_refuse hdj hzz1_ r_m1 h20_) my_X10_refuse mi_X10_refuse ml_X10_81 zd_0 zc_X10 rfl (Zrr hR (by decide)) ⟨Nat.zero_le _, Nat.zero_le _⟩ hl.1 rfl rfl (Nat.le_of_ble_eq_true rfl) dX10_person_13 (fun hrr21_ hzz19_ H locs hw => ?_)
      exact Yireti S hw hzz19_ hrr21_ hr hlk hF dX10_person_16)
set_option maxRecDepth 100000 in
set_option maxHeartbeats 4000000 in
theorem w_X10_points_b51 {RR : Int × ZI} (S : CallFix p m c cX10_points 4 s args Ztbl RX10) (hr : meth.sig.returnType = some .int) (hlk : meth.locks = false) (hR : 46 ≤ R.frames ∧ 60 * (46) ≤ R.locals) (hdj : Zdj ad) : ∀ (z : ZI) (y0 : Int) (H : Heap) (locs : List Loc) (ls : Array Slot), X10_points_b51 z y0 = some RR → ZW D cA ad (ZA ad) (Zc z) s H locs → Zok z → InR y0 → lv_has ls 4 [] → W p l e R s m args below meth c H locs 0 0 (MQ below (YQi D cA ad RR.1 RR.2) args s 0 0 (ZA ad)) (F0 m 51 ls [.int (i32 (y0))]) := by
  intro z y0 H locs ls hF hw hzz hy0 hl
  unfold X10_points_b51 at hF
  exact Yireti S hw hzz hy0 hr hlk hF dX10_points_51
set_option maxRecDepth 100000 in
set_option maxHeartbeats 4000000 in
theorem c_X10_points {l : Launch} {D : va_G} {cA : Nat → ClassId} {ad : Nat → Nat} (hdj : Zdj ad) {z z1 : ZI} {x1 : Int} {x2 : Int} {r : Int} (hzz : Zok z) (hx1 : InR x1) (hx2 : InR x2) (hF : F_X10_points z x1 x2 = some (r, z1)) : YMi l D cA ad (46) yX10_points cX10_points 4 (some .int) [.ref (ad 0), .int (i32 x1), .int (i32 x2)] z r z1 :=
  Zmet hdj (by decide) rfl (Nat.le_of_ble_eq_true rfl) (lv := [(0, .ref (ad 0)), (1, .int (i32 (x1))), (2, .int (i32 (x2)))]) rfl (fun p e s m args below meth c ls S hr hlk hw hl => by
    have hR : 46 ≤ (Zrm (46)).frames ∧ 60 * (46) ≤ (Zrm (46)).locals := ⟨Nat.le_refl _, Nat.le_refl _⟩
    unfold F_X10_points at hF
    revert hR
    generalize Zrm (46) = R
    intro hR
    refine lv_aload_n S.1 S.2.1 dX10_points_0 rfl (lv_at hl 0 rfl) ?_
    refine gf_X10_27 S hw dX10_points_1 ?_
    refine lv_iload_n S.1 S.2.1 dX10_points_4 rfl (lv_at hl 1 rfl) ?_
    obtain ⟨r3_, z1_, h2_, hF⟩ := Ybs hF
    refine YcallVi (rest := []) S hw (c_X3_hasPerson hdj hzz hx1 h2_) my_X3_hasPerson mi_X3_hasPerson ml_X10_126 zd_11 zc_X3 rfl (Zrr hR (by decide)) ⟨Nat.zero_le _, Nat.zero_le _⟩ hl.1 rfl rfl (Nat.le_of_ble_eq_true rfl) dX10_points_5 (fun hrr3_ hzz1_ H locs hw => ?_)
    refine Yif_ne (tgt := 17) S hrr3_ dX10_points_8 (by decide) (fun c4_ => ?_) (fun c4_ => ?_)
    · replace hF := ZtN c4_ hF
      refine lv_iload_n S.1 S.2.1 dX10_points_17 rfl (lv_at hl 2 rfl) ?_
      refine lv_iconst (v := i32 0) S.1 S.2.1 dX10_points_18 ic_0 ?_
      refine lv_sipush (v := i32 999) S.1 S.2.1 dX10_points_19 sp_999 ?_
      obtain ⟨r7_, z5_, h6_, hF⟩ := Ybs hF
      refine YcallSi (rest := []) S hw (c_X10_checkRange hdj hzz1_ hx2 r_0 r_999 h6_) my_X10_checkRange ms_X10_checkRange ml_X10_85 (Zrr hR (by decide)) ⟨Nat.zero_le _, Nat.zero_le _⟩ hl.1 rfl rfl (Nat.le_of_ble_eq_true rfl) dX10_points_22 (fun hrr7_ hzz5_ H locs hw => ?_)
      refine lv_istore_n (lv' := [(3, .int (i32 (r7_))), (0, .ref (ad 0)), (1, .int (i32 (x1))), (2, .int (i32 (x2)))]) S.1 S.2.1 dX10_points_25 rfl hl (by decide) rfl (fun ls hl => ?_)
      refine lv_iload_n S.1 S.2.1 dX10_points_26 rfl (lv_at hl 0 rfl) ?_
      refine Yif_ne (tgt := 46) S hrr7_ dX10_points_27 (by decide) (fun c8_ => ?_) (fun c8_ => ?_)
      · replace hF := ZtN c8_ hF
        refine lv_aload_n S.1 S.2.1 dX10_points_46 rfl (lv_at hl 1 rfl) ?_
        refine lv_iload_n S.1 S.2.1 dX10_points_47 rfl (lv_at hl 0 rfl) ?_
        obtain ⟨r11_, z9_, h10_, hF⟩ := Ybs hF
        refine YcallVi (rest := []) S hw (c_X10_refuseBeyond hdj hzz5_ hrr7_ h10_) my_X10_refuseBeyond mi_X10_refuseBeyond ml_X10_184 zd_0 zc_X10 rfl (Zrr hR (by decide)) ⟨Nat.zero_le _, Nat.zero_le _⟩ hl.1 rfl rfl (Nat.le_of_ble_eq_true rfl) dX10_points_48 (fun hrr11_ hzz9_ H locs hw => ?_)
        exact w_X10_points_b51 S hr hlk hR hdj _ _ _ _ _ hF hw hzz9_ hrr11_ (lv_sub hl [] rfl)
      · replace hF := ZtP c8_ hF
        refine lv_aload_n S.1 S.2.1 dX10_points_30 rfl (lv_at hl 1 rfl) ?_
        refine gf_X10_34 S hw dX10_points_31 ?_
        refine lv_aload_n S.1 S.2.1 dX10_points_34 rfl (lv_at hl 1 rfl) ?_
        refine gf_X10_27 S hw dX10_points_35 ?_
        refine lv_iload_n S.1 S.2.1 dX10_points_38 rfl (lv_at hl 2 rfl) ?_
        refine lv_iload_n S.1 S.2.1 dX10_points_39 rfl (lv_at hl 3 rfl) ?_
        obtain ⟨r14_, z12_, h13_, hF⟩ := Ybs hF
        refine YcallVi (rest := []) S hw (c_X7_pointsOf hdj hzz5_ hx1 hx2 h13_) my_X7_pointsOf mi_X7_pointsOf ml_X10_187 zd_24 zc_X7 rfl (Zrr hR (by decide)) ⟨Nat.zero_le _, Nat.zero_le _⟩ hl.1 rfl rfl (Nat.le_of_ble_eq_true rfl) dX10_points_40 (fun hrr14_ hzz12_ H locs hw => ?_)
        refine lv_goto (tgt := 51) S.1 S.2.1 dX10_points_43 (by decide) ?_
        exact w_X10_points_b51 S hr hlk hR hdj _ _ _ _ _ hF hw hzz12_ hrr14_ (lv_sub hl [] rfl)
    · replace hF := ZtP c4_ hF
      refine lv_aload_n S.1 S.2.1 dX10_points_11 rfl (lv_at hl 0 rfl) ?_
      refine lv_iconst (v := i32 (-1)) S.1 S.2.1 dX10_points_12 ic_m1 ?_
      obtain ⟨r17_, z15_, h16_, hF⟩ := Ybs hF
      refine YcallVi (rest := []) S hw (c_X10_refuseBeyond hdj hzz1_ r_m1 h16_) my_X10_refuseBeyond mi_X10_refuseBeyond ml_X10_184 zd_0 zc_X10 rfl (Zrr hR (by decide)) ⟨Nat.zero_le _, Nat.zero_le _⟩ hl.1 rfl rfl (Nat.le_of_ble_eq_true rfl) dX10_points_13 (fun hrr17_ hzz15_ H locs hw => ?_)
      exact Yireti S hw hzz15_ hrr17_ hr hlk hF dX10_points_16)
set_option maxRecDepth 100000 in
set_option maxHeartbeats 4000000 in
theorem w_X5_asks_b15 {RR : Int × ZI} (S : CallFix p m c cX5_asks 2 s args Ztbl RX5) (hr : meth.sig.returnType = some .boolean) (hlk : meth.locks = false) (hR : 1 ≤ R.frames ∧ 60 * (1) ≤ R.locals) (hdj : Zdj ad) : ∀ (z : ZI) (y0 : Int) (H : Heap) (locs : List Loc) (ls : Array Slot), X5_asks_b15 z y0 = some RR → ZW D cA ad (ZA ad) (Zc z) s H locs → Zok z → InR y0 → lv_has ls 2 [] → W p l e R s m args below meth c H locs 0 0 (MQ below (YQi D cA ad RR.1 RR.2) args s 0 0 (ZA ad)) (F0 m 15 ls [.int (i32 (y0))]) := by
  intro z y0 H locs ls hF hw hzz hy0 hl
  unfold X5_asks_b15 at hF
  obtain ⟨b1_, hF⟩ := Zgs hF
  exact Yiretz S hw hzz hy0 hr hlk b1_ hF dX5_asks_15
set_option maxRecDepth 100000 in
set_option maxHeartbeats 4000000 in
theorem c_X5_asks {l : Launch} {D : va_G} {cA : Nat → ClassId} {ad : Nat → Nat} (hdj : Zdj ad) {z z1 : ZI} {x1 : Int} {r : Int} (hzz : Zok z) (hx1 : InR x1) (hF : F_X5_asks z x1 = some (r, z1)) : YMi l D cA ad (1) yX5_asks cX5_asks 2 (some .boolean) [.ref (ad 59), .int (i32 x1)] z r z1 :=
  Zmet hdj (by decide) rfl (Nat.le_of_ble_eq_true rfl) (lv := [(0, .ref (ad 59)), (1, .int (i32 (x1)))]) rfl (fun p e s m args below meth c ls S hr hlk hw hl => by
    have hR : 1 ≤ (Zrm (1)).frames ∧ 60 * (1) ≤ (Zrm (1)).locals := ⟨Nat.le_refl _, Nat.le_refl _⟩
    unfold F_X5_asks at hF
    revert hR
    generalize Zrm (1) = R
    intro hR
    refine lv_aload_n S.1 S.2.1 dX5_asks_0 rfl (lv_at hl 0 rfl) ?_
    refine lv_iload_n S.1 S.2.1 dX5_asks_1 rfl (lv_at hl 1 rfl) ?_
    obtain ⟨r3_, z1_, h2_, hF⟩ := Ybs hF
    refine YcallVi (rest := []) S hw (c_X5_placeOf hdj hzz hx1 h2_) my_X5_placeOf mi_X5_placeOf ml_X5_25 zd_59 zc_X5 rfl (Zrr hR (by decide)) ⟨Nat.zero_le _, Nat.zero_le _⟩ hl.1 rfl rfl (Nat.le_of_ble_eq_true rfl) dX5_asks_2 (fun hrr3_ hzz1_ H locs hw => ?_)
    refine lv_bipush (v := i32 (-9)) S.1 S.2.1 dX5_asks_5 bp_m9 ?_
    refine Yicmp_eq (tgt := 14) S hrr3_ r_m9 dX5_asks_7 (by decide) (fun c4_ => ?_) (fun c4_ => ?_)
    · replace hF := ZtP c4_ hF
      refine lv_iconst (v := i32 0) S.1 S.2.1 dX5_asks_14 ic_0 ?_
      exact w_X5_asks_b15 S hr hlk hR hdj _ _ _ _ _ hF hw hzz1_ r_0 (lv_sub hl [] rfl)
    · replace hF := ZtN c4_ hF
      refine lv_iconst (v := i32 1) S.1 S.2.1 dX5_asks_10 ic_1 ?_
      refine lv_goto (tgt := 15) S.1 S.2.1 dX5_asks_11 (by decide) ?_
      exact w_X5_asks_b15 S hr hlk hR hdj _ _ _ _ _ hF hw hzz1_ r_1 (lv_sub hl [] rfl))
set_option maxRecDepth 100000 in
set_option maxHeartbeats 4000000 in
theorem w_X5_join_b29 {RR : Unit × ZI} (S : CallFix p m c cX5_join 2 s args Ztbl RX5) (hr : meth.sig.returnType = none) (hlk : meth.locks = false) (hR : 0 ≤ R.frames ∧ 60 * (0) ≤ R.locals) (hdj : Zdj ad) : ∀ (z : ZI) (H : Heap) (locs : List Loc) (ls : Array Slot), X5_join_b29 z  = some RR → ZW D cA ad (ZA ad) (Zc z) s H locs → Zok z → lv_has ls 2 [] → W p l e R s m args below meth c H locs 0 0 (MQ below (YQv D cA ad RR.2) args s 0 0 (ZA ad)) (F0 m 29 ls []) := by
  intro z  H locs ls hF hw hzz  hl
  unfold X5_join_b29 at hF
  exact Yvret S hw hzz hr hlk hF dX5_join_29
set_option maxRecDepth 100000 in
set_option maxHeartbeats 4000000 in
theorem c_X5_join {l : Launch} {D : va_G} {cA : Nat → ClassId} {ad : Nat → Nat} (hdj : Zdj ad) {z z1 : ZI} {x1 : Int} (hzz : Zok z) (hx1 : InR x1) (hF : F_X5_join z x1 = some ((), z1)) : YMv l D cA ad (0) yX5_join cX5_join 2 [.ref (ad 59), .int (i32 x1)] z z1 :=
  Zmet hdj (by decide) rfl (Nat.le_of_ble_eq_true rfl) (lv := [(0, .ref (ad 59)), (1, .int (i32 (x1)))]) rfl (fun p e s m args below meth c ls S hr hlk hw hl => by
    have hR : 0 ≤ (Zrm (0)).frames ∧ 60 * (0) ≤ (Zrm (0)).locals := ⟨Nat.le_refl _, Nat.le_refl _⟩
    unfold F_X5_join at hF
    revert hR
    generalize Zrm (0) = R
    intro hR
    refine lv_aload_n S.1 S.2.1 dX5_join_0 rfl (lv_at hl 0 rfl) ?_
    refine gg_X5_21 S hw dX5_join_1 ?_
    refine lv_bipush (v := i32 60) S.1 S.2.1 dX5_join_4 bp_60 ?_
    refine Yicmp_ge (tgt := 29) S (hzz.1 59 0 (by decide)) r_60 dX5_join_6 (by decide) (fun c1_ => ?_) (fun c1_ => ?_)
    · replace hF := ZtP c1_ hF
      exact w_X5_join_b29 S hr hlk hR hdj _ _ _ _ hF hw hzz  (lv_sub hl [] rfl)
    · replace hF := ZtN c1_ hF
      refine lv_aload_n S.1 S.2.1 dX5_join_9 rfl (lv_at hl 0 rfl) ?_
      refine gf_X5_9 S hw dX5_join_10 ?_
      refine lv_aload_n S.1 S.2.1 dX5_join_13 rfl (lv_at hl 0 rfl) ?_
      refine gg_X5_21 S hw dX5_join_14 ?_
      refine lv_iload_n S.1 S.2.1 dX5_join_17 rfl (lv_at hl 1 rfl) ?_
      obtain ⟨b2_, hF⟩ := Zgs hF
      refine Yiast S hw hzz zd_60 (by decide) (hzz.1 59 0 (by decide)) hx1 b2_ dX5_join_18 (fun z3_ H locs ez hzz3_ hw => ?_)
      replace hF := Zle ez hF; clear ez
      refine lv_aload_n S.1 S.2.1 dX5_join_19 rfl (lv_at hl 0 rfl) ?_
      refine lv_dup S.1 S.2.1 dX5_join_20 rfl ?_
      refine gg_X5_21 S hw dX5_join_21 ?_
      refine lv_iconst (v := i32 1) S.1 S.2.1 dX5_join_24 ic_1 ?_
      obtain ⟨g4_, hF⟩ := Zgs hF
      refine Yiadd S dX5_join_25 ?_
      refine pp_X5_21 S hw hzz3_ g4_ dX5_join_26 (fun z5_ H locs ez hzz5_ hw => ?_)
      replace hF := Zle ez hF; clear ez
      exact w_X5_join_b29 S hr hlk hR hdj _ _ _ _ hF hw hzz5_  (lv_sub hl [] rfl))
set_option maxRecDepth 100000 in
set_option maxHeartbeats 4000000 in
theorem w_X10_queue_b54 {RR : Int × ZI} (S : CallFix p m c cX10_queue 3 s args Ztbl RX10) (hr : meth.sig.returnType = some .int) (hlk : meth.locks = false) (hR : 2 ≤ R.frames ∧ 60 * (2) ≤ R.locals) (hdj : Zdj ad) : ∀ (z : ZI) (H : Heap) (locs : List Loc) (ls : Array Slot), X10_queue_b54 z  = some RR → ZW D cA ad (ZA ad) (Zc z) s H locs → Zok z → lv_has ls 3 [] → W p l e R s m args below meth c H locs 0 0 (MQ below (YQi D cA ad RR.1 RR.2) args s 0 0 (ZA ad)) (F0 m 54 ls []) := by
  intro z  H locs ls hF hw hzz  hl
  unfold X10_queue_b54 at hF
  refine lv_iconst (v := i32 1) S.1 S.2.1 dX10_queue_54 ic_1 ?_
  exact Yireti S hw hzz r_1 hr hlk hF dX10_queue_55
set_option maxRecDepth 100000 in
set_option maxHeartbeats 4000000 in
theorem c_X10_queue {l : Launch} {D : va_G} {cA : Nat → ClassId} {ad : Nat → Nat} (hdj : Zdj ad) {z z1 : ZI} {x1 : Int} {x2 : Int} {r : Int} (hzz : Zok z) (hx1 : InR x1) (hx2 : InR x2) (hF : F_X10_queue z x1 x2 = some (r, z1)) : YMi l D cA ad (2) yX10_queue cX10_queue 3 (some .int) [.ref (ad 0), .int (i32 x1), .int (i32 x2)] z r z1 :=
  Zmet hdj (by decide) rfl (Nat.le_of_ble_eq_true rfl) (lv := [(0, .ref (ad 0)), (1, .int (i32 (x1))), (2, .int (i32 (x2)))]) rfl (fun p e s m args below meth c ls S hr hlk hw hl => by
    have hR : 2 ≤ (Zrm (2)).frames ∧ 60 * (2) ≤ (Zrm (2)).locals := ⟨Nat.le_refl _, Nat.le_refl _⟩
    unfold F_X10_queue at hF
    revert hR
    generalize Zrm (2) = R
    intro hR
    refine lv_aload_n S.1 S.2.1 dX10_queue_0 rfl (lv_at hl 0 rfl) ?_
    refine gf_X10_27 S hw dX10_queue_1 ?_
    refine lv_iload_n S.1 S.2.1 dX10_queue_4 rfl (lv_at hl 1 rfl) ?_
    obtain ⟨r3_, z1_, h2_, hF⟩ := Ybs hF
    refine YcallVi (rest := []) S hw (c_X3_hasPerson hdj hzz hx1 h2_) my_X3_hasPerson mi_X3_hasPerson ml_X10_126 zd_11 zc_X3 rfl (Zrr hR (by decide)) ⟨Nat.zero_le _, Nat.zero_le _⟩ hl.1 rfl rfl (Nat.le_of_ble_eq_true rfl) dX10_queue_5 (fun hrr3_ hzz1_ H locs hw => ?_)
    refine Yif_ne (tgt := 17) S hrr3_ dX10_queue_8 (by decide) (fun c4_ => ?_) (fun c4_ => ?_)
    · replace hF := ZtN c4_ hF
      refine lv_aload_n S.1 S.2.1 dX10_queue_17 rfl (lv_at hl 0 rfl) ?_
      refine gf_X10_69 S hw dX10_queue_18 ?_
      refine lv_iload_n S.1 S.2.1 dX10_queue_21 rfl (lv_at hl 1 rfl) ?_
      obtain ⟨r7_, z5_, h6_, hF⟩ := Ybs hF
      refine YcallVi (rest := []) S hw (c_X5_asks hdj hzz1_ hx1 h6_) my_X5_asks mi_X5_asks ml_X10_289 zd_59 zc_X5 rfl (Zrr hR (by decide)) ⟨Nat.zero_le _, Nat.zero_le _⟩ hl.1 rfl rfl (Nat.le_of_ble_eq_true rfl) dX10_queue_22 (fun hrr7_ hzz5_ H locs hw => ?_)
      refine lv_iload_n S.1 S.2.1 dX10_queue_25 rfl (lv_at hl 2 rfl) ?_
      refine Yicmp_ne (tgt := 31) S hrr7_ hx2 dX10_queue_26 (by decide) (fun c8_ => ?_) (fun c8_ => ?_)
      · replace hF := ZtN c8_ hF
        refine lv_iload_n S.1 S.2.1 dX10_queue_31 rfl (lv_at hl 2 rfl) ?_
        refine Yif_eq (tgt := 46) S hx2 dX10_queue_32 (by decide) (fun c9_ => ?_) (fun c9_ => ?_)
        · replace hF := ZtP c9_ hF
          refine lv_aload_n S.1 S.2.1 dX10_queue_46 rfl (lv_at hl 0 rfl) ?_
          refine gf_X10_69 S hw dX10_queue_47 ?_
          refine lv_iload_n S.1 S.2.1 dX10_queue_50 rfl (lv_at hl 1 rfl) ?_
          obtain ⟨r12_, z10_, h11_, hF⟩ := Ybs hF
          refine YcallVv (rest := []) S hw (c_X5_quit hdj hzz5_ hx1 h11_) my_X5_quit mi_X5_quit ml_X10_296 zd_59 zc_X5 rfl (Zrr hR (by decide)) ⟨Nat.zero_le _, Nat.zero_le _⟩ hl.1 rfl rfl (Nat.le_of_ble_eq_true rfl) dX10_queue_51 (fun hzz10_ H locs hw => ?_)
          exact w_X10_queue_b54 S hr hlk hR hdj _ _ _ _ hF hw hzz10_  (lv_sub hl [] rfl)
        · replace hF := ZtN c9_ hF
          refine lv_aload_n S.1 S.2.1 dX10_queue_35 rfl (lv_at hl 0 rfl) ?_
          refine gf_X10_69 S hw dX10_queue_36 ?_
          refine lv_iload_n S.1 S.2.1 dX10_queue_39 rfl (lv_at hl 1 rfl) ?_
          obtain ⟨r15_, z13_, h14_, hF⟩ := Ybs hF
          refine YcallVv (rest := []) S hw (c_X5_join hdj hzz5_ hx1 h14_) my_X5_join mi_X5_join ml_X10_292 zd_59 zc_X5 rfl (Zrr hR (by decide)) ⟨Nat.zero_le _, Nat.zero_le _⟩ hl.1 rfl rfl (Nat.le_of_ble_eq_true rfl) dX10_queue_40 (fun hzz13_ H locs hw => ?_)
          refine lv_goto (tgt := 54) S.1 S.2.1 dX10_queue_43 (by decide) ?_
          exact w_X10_queue_b54 S hr hlk hR hdj _ _ _ _ hF hw hzz13_  (lv_sub hl [] rfl)
      · replace hF := ZtP c8_ hF
        refine lv_iconst (v := i32 0) S.1 S.2.1 dX10_queue_29 ic_0 ?_
        exact Yireti S hw hzz5_ r_0 hr hlk hF dX10_queue_30
    · replace hF := ZtP c4_ hF
      refine lv_aload_n S.1 S.2.1 dX10_queue_11 rfl (lv_at hl 0 rfl) ?_
      refine lv_iconst (v := i32 (-1)) S.1 S.2.1 dX10_queue_12 ic_m1 ?_
      obtain ⟨r18_, z16_, h17_, hF⟩ := Ybs hF
      refine YcallVi (rest := []) S hw (c_X10_refuse hdj hzz1_ r_m1 h17_) my_X10_refuse mi_X10_refuse ml_X10_81 zd_0 zc_X10 rfl (Zrr hR (by decide)) ⟨Nat.zero_le _, Nat.zero_le _⟩ hl.1 rfl rfl (Nat.le_of_ble_eq_true rfl) dX10_queue_13 (fun hrr18_ hzz16_ H locs hw => ?_)
      exact Yireti S hw hzz16_ hrr18_ hr hlk hF dX10_queue_16)
set_option maxRecDepth 100000 in
set_option maxHeartbeats 4000000 in
theorem c_X7_makeOfTape {l : Launch} {D : va_G} {cA : Nat → ClassId} {ad : Nat → Nat} (hdj : Zdj ad) {z z1 : ZI} {x1 : Int} {x2 : Int} {r : Int} (hzz : Zok z) (hx1 : InR x1) (hx2 : InR x2) (hF : F_X7_makeOfTape z x1 x2 = some (r, z1)) : YMi l D cA ad (44) yX7_makeOfTape cX7_makeOfTape 4 (some .int) [.ref (ad 24), .int (i32 x1), .int (i32 x2)] z r z1 :=
  Zmet hdj (by decide) rfl (Nat.le_of_ble_eq_true rfl) (lv := [(0, .ref (ad 24)), (1, .int (i32 (x1))), (2, .int (i32 (x2)))]) rfl (fun p e s m args below meth c ls S hr hlk hw hl => by
    have hR : 44 ≤ (Zrm (44)).frames ∧ 60 * (44) ≤ (Zrm (44)).locals := ⟨Nat.le_refl _, Nat.le_refl _⟩
    unfold F_X7_makeOfTape at hF
    revert hR
    generalize Zrm (44) = R
    intro hR
    refine lv_aload_n S.1 S.2.1 dX7_makeOfTape_0 rfl (lv_at hl 0 rfl) ?_
    refine gg_X7_35 S hw dX7_makeOfTape_1 ?_
    refine lv_istore_n (lv' := [(3, .int (i32 (z 24 1))), (0, .ref (ad 24)), (1, .int (i32 (x1))), (2, .int (i32 (x2)))]) S.1 S.2.1 dX7_makeOfTape_4 rfl hl (by decide) rfl (fun ls hl => ?_)
    refine lv_aload_n S.1 S.2.1 dX7_makeOfTape_5 rfl (lv_at hl 1 rfl) ?_
    refine lv_iconst (v := i32 0) S.1 S.2.1 dX7_makeOfTape_6 ic_0 ?_
    refine pp_X7_35 S hw hzz r_0 dX7_makeOfTape_7 (fun z1_ H locs ez hzz1_ hw => ?_)
    replace hF := Zle ez hF; clear ez
    refine lv_aload_n S.1 S.2.1 dX7_makeOfTape_10 rfl (lv_at hl 1 rfl) ?_
    refine gf_X7_31 S hw dX7_makeOfTape_11 ?_
    refine lv_aload_n S.1 S.2.1 dX7_makeOfTape_14 rfl (lv_at hl 1 rfl) ?_
    refine gf_X7_9 S hw dX7_makeOfTape_15 ?_
    refine lv_iconst (v := i32 0) S.1 S.2.1 dX7_makeOfTape_18 ic_0 ?_
    refine lv_iload_n S.1 S.2.1 dX7_makeOfTape_19 rfl (lv_at hl 0 rfl) ?_
    obtain ⟨r4_, z2_, h3_, hF⟩ := Ybs hF
    refine YcallVi (rest := []) S hw (c_X6_read hdj zd_25 (by decide) (by decide) hzz1_ r_0 (hzz.1 24 1 (by decide)) h3_) my_X6_read mi_X6_read ml_X7_39 zd_30 zc_X6 rfl (Zrr hR (by decide)) ⟨Nat.zero_le _, Nat.zero_le _⟩ hl.1 rfl rfl (Nat.le_of_ble_eq_true rfl) dX7_makeOfTape_20 (fun hrr4_ hzz2_ H locs hw => ?_)
    refine lv_pop S.1 S.2.1 dX7_makeOfTape_23 rfl ?_
    refine lv_aload_n S.1 S.2.1 dX7_makeOfTape_24 rfl (lv_at hl 1 rfl) ?_
    refine gf_X7_31 S hw dX7_makeOfTape_25 ?_
    obtain ⟨r7_, z5_, h6_, hF⟩ := Ybs hF
    refine YcallNi (rest := []) S hw (c_X6_sound hdj hzz2_  h6_) my_X6_sound mi_X6_sound ml_X7_43 zd_30 zc_X6 rfl (Zrr hR (by decide)) ⟨Nat.zero_le _, Nat.zero_le _⟩ hl.1 rfl rfl (Nat.le_of_ble_eq_true rfl) dX7_makeOfTape_28 (fun hrr7_ hzz5_ H locs hw => ?_)
    refine Yif_ne (tgt := 45) S hrr7_ dX7_makeOfTape_31 (by decide) (fun c8_ => ?_) (fun c8_ => ?_)
    · replace hF := ZtN c8_ hF
      refine lv_aload_n S.1 S.2.1 dX7_makeOfTape_45 rfl (lv_at hl 1 rfl) ?_
      refine gf_X7_9 S hw dX7_makeOfTape_46 ?_
      refine lv_iconst (v := i32 0) S.1 S.2.1 dX7_makeOfTape_49 ic_0 ?_
      refine lv_aload_n S.1 S.2.1 dX7_makeOfTape_50 rfl (lv_at hl 1 rfl) ?_
      refine gf_X7_15 S hw dX7_makeOfTape_51 ?_
      refine lv_aload_n S.1 S.2.1 dX7_makeOfTape_54 rfl (lv_at hl 1 rfl) ?_
      refine gg_X7_50 S hw dX7_makeOfTape_55 ?_
      refine lv_bipush (v := i32 60) S.1 S.2.1 dX7_makeOfTape_58 bp_60 ?_
      obtain ⟨g9_, hF⟩ := Zgs hF
      refine Yimul S dX7_makeOfTape_60 ?_
      refine lv_iload_n S.1 S.2.1 dX7_makeOfTape_61 rfl (lv_at hl 0 rfl) ?_
      obtain ⟨b11_, hF⟩ := Zgs hF
      refine Ycopy S hw hzz5_ hl zd_25 zd_26 (by decide) (by decide) r_0 g9_ (hzz.1 24 1 (by decide)) b11_ (ml := ml_X7_53) (Zr1 hR (by decide)) (Zr2 hR (by decide) (Nat.le_of_ble_eq_true rfl)) dX7_makeOfTape_62 (fun z10_ H locs ez hzz10_ hw => ?_)
      replace hF := Zle ez hF; clear ez
      refine lv_aload_n S.1 S.2.1 dX7_makeOfTape_65 rfl (lv_at hl 1 rfl) ?_
      refine gf_X7_18 S hw dX7_makeOfTape_66 ?_
      refine lv_aload_n S.1 S.2.1 dX7_makeOfTape_69 rfl (lv_at hl 1 rfl) ?_
      refine gg_X7_50 S hw dX7_makeOfTape_70 ?_
      refine lv_iload_n S.1 S.2.1 dX7_makeOfTape_73 rfl (lv_at hl 0 rfl) ?_
      obtain ⟨b12_, hF⟩ := Zgs hF
      refine Yiast S hw hzz10_ zd_27 (by decide) (hzz10_.1 24 2 (by decide)) (hzz.1 24 1 (by decide)) b12_ dX7_makeOfTape_74 (fun z13_ H locs ez hzz13_ hw => ?_)
      replace hF := Zle ez hF; clear ez
      refine lv_aload_n S.1 S.2.1 dX7_makeOfTape_75 rfl (lv_at hl 1 rfl) ?_
      refine gf_X7_22 S hw dX7_makeOfTape_76 ?_
      refine lv_aload_n S.1 S.2.1 dX7_makeOfTape_79 rfl (lv_at hl 1 rfl) ?_
      refine gg_X7_50 S hw dX7_makeOfTape_80 ?_
      refine lv_iload_n S.1 S.2.1 dX7_makeOfTape_83 rfl (lv_at hl 2 rfl) ?_
      obtain ⟨b14_, hF⟩ := Zgs hF
      refine Yiast S hw hzz13_ zd_28 (by decide) (hzz13_.1 24 2 (by decide)) hx1 b14_ dX7_makeOfTape_84 (fun z15_ H locs ez hzz15_ hw => ?_)
      replace hF := Zle ez hF; clear ez
      refine lv_aload_n S.1 S.2.1 dX7_makeOfTape_85 rfl (lv_at hl 1 rfl) ?_
      refine gf_X7_25 S hw dX7_makeOfTape_86 ?_
      refine lv_aload_n S.1 S.2.1 dX7_makeOfTape_89 rfl (lv_at hl 1 rfl) ?_
      refine gg_X7_50 S hw dX7_makeOfTape_90 ?_
      refine lv_iload_n S.1 S.2.1 dX7_makeOfTape_93 rfl (lv_at hl 3 rfl) ?_
      obtain ⟨b16_, hF⟩ := Zgs hF
      refine Yiast S hw hzz15_ zd_29 (by decide) (hzz15_.1 24 2 (by decide)) hx2 b16_ dX7_makeOfTape_94 (fun z17_ H locs ez hzz17_ hw => ?_)
      replace hF := Zle ez hF; clear ez
      refine lv_aload_n S.1 S.2.1 dX7_makeOfTape_95 rfl (lv_at hl 1 rfl) ?_
      refine lv_dup S.1 S.2.1 dX7_makeOfTape_96 rfl ?_
      refine gg_X7_50 S hw dX7_makeOfTape_97 ?_
      refine lv_iconst (v := i32 1) S.1 S.2.1 dX7_makeOfTape_100 ic_1 ?_
      obtain ⟨g18_, hF⟩ := Zgs hF
      refine Yiadd S dX7_makeOfTape_101 ?_
      refine pp_X7_50 S hw hzz17_ g18_ dX7_makeOfTape_102 (fun z19_ H locs ez hzz19_ hw => ?_)
      replace hF := Zle ez hF; clear ez
      refine lv_aload_n S.1 S.2.1 dX7_makeOfTape_105 rfl (lv_at hl 1 rfl) ?_
      refine gg_X7_50 S hw dX7_makeOfTape_106 ?_
      exact Yireti S hw hzz19_ (hzz19_.1 24 2 (by decide)) hr hlk hF dX7_makeOfTape_109
    · replace hF := ZtP c8_ hF
      refine lv_bipush (v := i32 (-20)) S.1 S.2.1 dX7_makeOfTape_34 bp_m20 ?_
      refine lv_aload_n S.1 S.2.1 dX7_makeOfTape_36 rfl (lv_at hl 1 rfl) ?_
      refine gf_X7_31 S hw dX7_makeOfTape_37 ?_
      refine gg_X7_47 S hw dX7_makeOfTape_40 ?_
      obtain ⟨g20_, hF⟩ := Zgs hF
      refine Yisub S dX7_makeOfTape_43 ?_
      exact Yireti S hw hzz5_ g20_ hr hlk hF dX7_makeOfTape_44)
set_option maxRecDepth 100000 in
set_option maxHeartbeats 4000000 in
theorem w_X10_rule_b9 {RR : Int × ZI} (S : CallFix p m c cX10_rule 3 s args Ztbl RX10) (hr : meth.sig.returnType = some .int) (hlk : meth.locks = false) (hR : 45 ≤ R.frames ∧ 60 * (45) ≤ R.locals) (hdj : Zdj ad) : ∀ (z : ZI) (H : Heap) (locs : List Loc) (ls : Array Slot), X10_rule_b9 z  = some RR → ZW D cA ad (ZA ad) (Zc z) s H locs → Zok z → lv_has ls 3 [(0, .ref (ad 0))] → W p l e R s m args below meth c H locs 0 0 (MQ below (YQi D cA ad RR.1 RR.2) args s 0 0 (ZA ad)) (F0 m 9 ls []) := by
  intro z  H locs ls hF hw hzz  hl
  unfold X10_rule_b9 at hF
  refine lv_aload_n S.1 S.2.1 dX10_rule_9 rfl (lv_at hl 0 rfl) ?_
  refine lv_bipush (v := i32 (-2)) S.1 S.2.1 dX10_rule_10 bp_m2 ?_
  obtain ⟨r3_, z1_, h2_, hF⟩ := Ybs hF
  refine YcallVi (rest := []) S hw (c_X10_refuse hdj hzz r_m2 h2_) my_X10_refuse mi_X10_refuse ml_X10_81 zd_0 zc_X10 rfl (Zrr hR (by decide)) ⟨Nat.zero_le _, Nat.zero_le _⟩ hl.1 rfl rfl (Nat.le_of_ble_eq_true rfl) dX10_rule_12 (fun hrr3_ hzz1_ H locs hw => ?_)
  exact Yireti S hw hzz1_ hrr3_ hr hlk hF dX10_rule_15
set_option maxRecDepth 100000 in
set_option maxHeartbeats 4000000 in
theorem w_X10_rule_b50 {RR : Int × ZI} (S : CallFix p m c cX10_rule 3 s args Ztbl RX10) (hr : meth.sig.returnType = some .int) (hlk : meth.locks = false) (hR : 45 ≤ R.frames ∧ 60 * (45) ≤ R.locals) (hdj : Zdj ad) : ∀ (z : ZI) (H : Heap) (locs : List Loc) (ls : Array Slot), X10_rule_b50 z  = some RR → ZW D cA ad (ZA ad) (Zc z) s H locs → Zok z → lv_has ls 3 [(0, .ref (ad 0))] → W p l e R s m args below meth c H locs 0 0 (MQ below (YQi D cA ad RR.1 RR.2) args s 0 0 (ZA ad)) (F0 m 50 ls []) := by
  intro z  H locs ls hF hw hzz  hl
  unfold X10_rule_b50 at hF
  refine lv_aload_n S.1 S.2.1 dX10_rule_50 rfl (lv_at hl 0 rfl) ?_
  refine lv_bipush (v := i32 (-6)) S.1 S.2.1 dX10_rule_51 bp_m6 ?_
  obtain ⟨r3_, z1_, h2_, hF⟩ := Ybs hF
  refine YcallVi (rest := []) S hw (c_X10_refuse hdj hzz r_m6 h2_) my_X10_refuse mi_X10_refuse ml_X10_81 zd_0 zc_X10 rfl (Zrr hR (by decide)) ⟨Nat.zero_le _, Nat.zero_le _⟩ hl.1 rfl rfl (Nat.le_of_ble_eq_true rfl) dX10_rule_53 (fun hrr3_ hzz1_ H locs hw => ?_)
  exact Yireti S hw hzz1_ hrr3_ hr hlk hF dX10_rule_56
set_option maxRecDepth 100000 in
set_option maxHeartbeats 4000000 in
theorem c_X10_rule {l : Launch} {D : va_G} {cA : Nat → ClassId} {ad : Nat → Nat} (hdj : Zdj ad) {z z1 : ZI} {x1 : Int} {x2 : Int} {r : Int} (hzz : Zok z) (hx1 : InR x1) (hx2 : InR x2) (hF : F_X10_rule z x1 x2 = some (r, z1)) : YMi l D cA ad (45) yX10_rule cX10_rule 3 (some .int) [.ref (ad 0), .int (i32 x1), .int (i32 x2)] z r z1 :=
  Zmet hdj (by decide) rfl (Nat.le_of_ble_eq_true rfl) (lv := [(0, .ref (ad 0)), (1, .int (i32 (x1))), (2, .int (i32 (x2)))]) rfl (fun p e s m args below meth c ls S hr hlk hw hl => by
    have hR : 45 ≤ (Zrm (45)).frames ∧ 60 * (45) ≤ (Zrm (45)).locals := ⟨Nat.le_refl _, Nat.le_refl _⟩
    unfold F_X10_rule at hF
    revert hR
    generalize Zrm (45) = R
    intro hR
    refine lv_iload_n S.1 S.2.1 dX10_rule_0 rfl (lv_at hl 1 rfl) ?_
    refine Yif_lt (tgt := 9) S hx1 dX10_rule_1 (by decide) (fun c1_ => ?_) (fun c1_ => ?_)
    · replace hF := ZtP c1_ hF
      exact w_X10_rule_b9 S hr hlk hR hdj _ _ _ _ hF hw hzz  (lv_sub hl [0] rfl)
    · replace hF := ZtN c1_ hF
      refine lv_iload_n S.1 S.2.1 dX10_rule_4 rfl (lv_at hl 1 rfl) ?_
      refine lv_iconst (v := i32 2) S.1 S.2.1 dX10_rule_5 ic_2 ?_
      refine Yicmp_lt (tgt := 16) S hx1 r_2 dX10_rule_6 (by decide) (fun c2_ => ?_) (fun c2_ => ?_)
      · replace hF := ZtP c2_ hF
        refine lv_iload_n S.1 S.2.1 dX10_rule_16 rfl (lv_at hl 2 rfl) ?_
        refine lv_aload_n S.1 S.2.1 dX10_rule_17 rfl (lv_at hl 0 rfl) ?_
        refine gg_X10_7 S hw dX10_rule_18 ?_
        refine Yicmp_ge (tgt := 31) S hx2 (hzz.1 0 0 (by decide)) dX10_rule_21 (by decide) (fun c3_ => ?_) (fun c3_ => ?_)
        · replace hF := ZtP c3_ hF
          refine lv_iload_n S.1 S.2.1 dX10_rule_31 rfl (lv_at hl 2 rfl) ?_
          refine lv_sipush (v := i32 999) S.1 S.2.1 dX10_rule_32 sp_999 ?_
          refine Yicmp_gt (tgt := 50) S hx2 r_999 dX10_rule_35 (by decide) (fun c4_ => ?_) (fun c4_ => ?_)
          · replace hF := ZtP c4_ hF
            exact w_X10_rule_b50 S hr hlk hR hdj _ _ _ _ hF hw hzz  (lv_sub hl [0] rfl)
          · replace hF := ZtN c4_ hF
            refine lv_aload_n S.1 S.2.1 dX10_rule_38 rfl (lv_at hl 0 rfl) ?_
            refine gf_X10_34 S hw dX10_rule_39 ?_
            refine gg_X10_148 S hw dX10_rule_42 ?_
            refine lv_bipush (v := i32 30) S.1 S.2.1 dX10_rule_45 bp_30 ?_
            refine Yicmp_lt (tgt := 57) S (hzz.1 24 2 (by decide)) r_30 dX10_rule_47 (by decide) (fun c5_ => ?_) (fun c5_ => ?_)
            · replace hF := ZtP c5_ hF
              refine lv_aload_n S.1 S.2.1 dX10_rule_57 rfl (lv_at hl 0 rfl) ?_
              refine gf_X10_34 S hw dX10_rule_58 ?_
              refine lv_iload_n S.1 S.2.1 dX10_rule_61 rfl (lv_at hl 1 rfl) ?_
              refine lv_iload_n S.1 S.2.1 dX10_rule_62 rfl (lv_at hl 2 rfl) ?_
              obtain ⟨r8_, z6_, h7_, hF⟩ := Ybs hF
              refine YcallVi (rest := []) S hw (c_X7_makeOfTape hdj hzz hx1 hx2 h7_) my_X7_makeOfTape mi_X7_makeOfTape ml_X10_151 zd_24 zc_X7 rfl (Zrr hR (by decide)) ⟨Nat.zero_le _, Nat.zero_le _⟩ hl.1 rfl rfl (Nat.le_of_ble_eq_true rfl) dX10_rule_63 (fun hrr8_ hzz6_ H locs hw => ?_)
              exact Yireti S hw hzz6_ hrr8_ hr hlk hF dX10_rule_66
            · replace hF := ZtN c5_ hF
              exact w_X10_rule_b50 S hr hlk hR hdj _ _ _ _ hF hw hzz  (lv_sub hl [0] rfl)
        · replace hF := ZtN c3_ hF
          refine lv_aload_n S.1 S.2.1 dX10_rule_24 rfl (lv_at hl 0 rfl) ?_
          refine lv_bipush (v := i32 (-4)) S.1 S.2.1 dX10_rule_25 bp_m4 ?_
          obtain ⟨r11_, z9_, h10_, hF⟩ := Ybs hF
          refine YcallVi (rest := []) S hw (c_X10_refuse hdj hzz r_m4 h10_) my_X10_refuse mi_X10_refuse ml_X10_81 zd_0 zc_X10 rfl (Zrr hR (by decide)) ⟨Nat.zero_le _, Nat.zero_le _⟩ hl.1 rfl rfl (Nat.le_of_ble_eq_true rfl) dX10_rule_27 (fun hrr11_ hzz9_ H locs hw => ?_)
          exact Yireti S hw hzz9_ hrr11_ hr hlk hF dX10_rule_30
      · replace hF := ZtN c2_ hF
        exact w_X10_rule_b9 S hr hlk hR hdj _ _ _ _ hF hw hzz  (lv_sub hl [0] rfl))
set_option maxRecDepth 100000 in
set_option maxHeartbeats 4000000 in
theorem w_X9_hourOf_L62 {RR : Int × ZI} (S : CallFix p m c cX9_hourOf 6 s args Ztbl RX9) (hr : meth.sig.returnType = some .int) (hlk : meth.locks = false) (hR : 4 ≤ R.frames ∧ 60 * (4) ≤ R.locals) (hdj : Zdj ad) : ∀ (n : Nat) (z : ZI) (x2 : Int) (x5 : Int) (H : Heap) (locs : List Loc) (ls : Array Slot), X9_hourOf_L62 n z x2 x5 = some RR → ZW D cA ad (ZA ad) (Zc z) s H locs → Zok z → InR x2 → InR x5 → lv_has ls 6 [(0, .ref (ad 41)), (2, .int (i32 (x2))), (5, .int (i32 (x5)))] → W p l e R s m args below meth c H locs 0 0 (MQ below (YQi D cA ad RR.1 RR.2) args s 0 0 (ZA ad)) (F0 m 62 ls []) := by
  intro n
  induction n with
  | zero => intro z x2 x5 H locs ls hF; exact nomatch hF
  | succ n hk62 =>
    intro z x2 x5 H locs ls hF hw hzz hx2 hx5 hl
    replace hF : X9_hourOf_L62b (X9_hourOf_L62 n) z x2 x5 = some RR := hF
    unfold X9_hourOf_L62b at hF
    refine lv_iload S.1 S.2.1 dX9_hourOf_62 (lv_at hl 2 rfl) ?_
    refine lv_aload_n S.1 S.2.1 dX9_hourOf_64 rfl (lv_at hl 0 rfl) ?_
    refine gg_X9_68 S hw dX9_hourOf_65 ?_
    refine Yicmp_ge (tgt := 96) S hx5 (hzz.1 41 5 (by decide)) dX9_hourOf_68 (by decide) (fun c1_ => ?_) (fun c1_ => ?_)
    · replace hF := ZtP c1_ hF
      refine lv_bipush (v := i32 (-9)) S.1 S.2.1 dX9_hourOf_96 bp_m9 ?_
      exact Yireti S hw hzz r_m9 hr hlk hF dX9_hourOf_98
    · replace hF := ZtN c1_ hF
      refine lv_aload_n S.1 S.2.1 dX9_hourOf_71 rfl (lv_at hl 0 rfl) ?_
      refine gf_X9_30 S hw dX9_hourOf_72 ?_
      refine lv_iload S.1 S.2.1 dX9_hourOf_75 (lv_at hl 2 rfl) ?_
      obtain ⟨b2_, hF⟩ := Zgs hF
      refine Yiald S hw zd_46 (by decide) hx5 b2_ dX9_hourOf_77 ?_
      refine lv_iload_n S.1 S.2.1 dX9_hourOf_78 rfl (lv_at hl 1 rfl) ?_
      refine Yicmp_ne (tgt := 90) S (hzz.1 _ _ (by decide)) hx2 dX9_hourOf_79 (by decide) (fun c3_ => ?_) (fun c3_ => ?_)
      · replace hF := ZtN c3_ hF
        obtain ⟨g4_, hF⟩ := Zgs hF
        refine lv_iinc (v := i32 (x5 + 1)) (lv' := [(5, .int (i32 (x5 + 1))), (0, .ref (ad 41)), (2, .int (i32 (x2)))]) S.1 S.2.1 dX9_hourOf_90 hl (k := 2) rfl Yiinc (by decide) rfl (fun ls hl => ?_)
        refine lv_goto (tgt := 62) S.1 S.2.1 dX9_hourOf_93 (by decide) ?_
        exact hk62 _ _ _ _ _ _ hF hw hzz hx2 g4_ (lv_sub hl [1, 2, 0] rfl)
      · replace hF := ZtP c3_ hF
        refine lv_aload_n S.1 S.2.1 dX9_hourOf_82 rfl (lv_at hl 0 rfl) ?_
        refine gf_X9_42 S hw dX9_hourOf_83 ?_
        refine lv_iload S.1 S.2.1 dX9_hourOf_86 (lv_at hl 2 rfl) ?_
        obtain ⟨b5_, hF⟩ := Zgs hF
        refine Yiald S hw zd_50 (by decide) hx5 b5_ dX9_hourOf_88 ?_
        exact Yireti S hw hzz (hzz.1 _ _ (by decide)) hr hlk hF dX9_hourOf_89
set_option maxRecDepth 100000 in
set_option maxHeartbeats 4000000 in
theorem c_X9_hourOf {l : Launch} {D : va_G} {cA : Nat → ClassId} {ad : Nat → Nat} (hdj : Zdj ad) {z z1 : ZI} {x2 : Int} {x3 : Int} {r : Int} (hzz : Zok z) (hx2 : InR x2) (hx3 : InR x3) (hF : F_X9_hourOf z x2 x3 = some (r, z1)) : YMi l D cA ad (4) yX9_hourOf cX9_hourOf 6 (some .int) [.ref (ad 41), .ref (ad 11), .int (i32 x2), .int (i32 x3)] z r z1 :=
  Zmet hdj (by decide) rfl (Nat.le_of_ble_eq_true rfl) (lv := [(0, .ref (ad 41)), (1, .ref (ad 11)), (2, .int (i32 (x2))), (3, .int (i32 (x3)))]) rfl (fun p e s m args below meth c ls S hr hlk hw hl => by
    have hR : 4 ≤ (Zrm (4)).frames ∧ 60 * (4) ≤ (Zrm (4)).locals := ⟨Nat.le_refl _, Nat.le_refl _⟩
    unfold F_X9_hourOf at hF
    revert hR
    generalize Zrm (4) = R
    intro hR
    refine lv_aload_n S.1 S.2.1 dX9_hourOf_0 rfl (lv_at hl 1 rfl) ?_
    refine lv_iload_n S.1 S.2.1 dX9_hourOf_1 rfl (lv_at hl 2 rfl) ?_
    refine lv_iload_n S.1 S.2.1 dX9_hourOf_2 rfl (lv_at hl 3 rfl) ?_
    obtain ⟨r3_, z1_, h2_, hF⟩ := Ybs hF
    refine YcallVi (rest := []) S hw (c_X3_hereInHouse hdj hzz hx2 hx3 h2_) my_X3_hereInHouse mi_X3_hereInHouse ml_X9_83 zd_11 zc_X3 rfl (Zrr hR (by decide)) ⟨Nat.zero_le _, Nat.zero_le _⟩ hl.1 rfl rfl (Nat.le_of_ble_eq_true rfl) dX9_hourOf_3 (fun hrr3_ hzz1_ H locs hw => ?_)
    refine Yif_ne (tgt := 20) S hrr3_ dX9_hourOf_6 (by decide) (fun c4_ => ?_) (fun c4_ => ?_)
    · replace hF := ZtN c4_ hF
      refine lv_aload_n S.1 S.2.1 dX9_hourOf_20 rfl (lv_at hl 0 rfl) ?_
      refine lv_aload_n S.1 S.2.1 dX9_hourOf_21 rfl (lv_at hl 1 rfl) ?_
      refine lv_iload_n S.1 S.2.1 dX9_hourOf_22 rfl (lv_at hl 2 rfl) ?_
      obtain ⟨r7_, z5_, h6_, hF⟩ := Ybs hF
      refine YcallVi (rest := [.ref (ad 41)]) S hw (c_X3_cellOf hdj hzz1_ hx2 h6_) my_X3_cellOf mi_X3_cellOf ml_X9_76 zd_11 zc_X3 rfl (Zrr hR (by decide)) ⟨Nat.zero_le _, Nat.zero_le _⟩ hl.1 rfl rfl (Nat.le_of_ble_eq_true rfl) dX9_hourOf_23 (fun hrr7_ hzz5_ H locs hw => ?_)
      obtain ⟨r10_, z8_, h9_, hF⟩ := Ybs hF
      refine YcallVi (rest := []) S hw (c_X9_nearest hdj hzz5_ hrr7_ h9_) my_X9_nearest mi_X9_nearest ml_X9_80 zd_41 zc_X9 rfl (Zrr hR (by decide)) ⟨Nat.zero_le _, Nat.zero_le _⟩ hl.1 rfl rfl (Nat.le_of_ble_eq_true rfl) dX9_hourOf_26 (fun hrr10_ hzz8_ H locs hw => ?_)
      refine lv_istore (lv' := [(4, .int (i32 (r10_))), (0, .ref (ad 41)), (1, .ref (ad 11)), (2, .int (i32 (x2))), (3, .int (i32 (x3)))]) S.1 S.2.1 dX9_hourOf_29 hl (by decide) rfl (fun ls hl => ?_)
      refine lv_iload S.1 S.2.1 dX9_hourOf_31 (lv_at hl 0 rfl) ?_
      refine lv_bipush (v := i32 (-9)) S.1 S.2.1 dX9_hourOf_33 bp_m9 ?_
      refine Yicmp_ne (tgt := 41) S hrr10_ r_m9 dX9_hourOf_35 (by decide) (fun c11_ => ?_) (fun c11_ => ?_)
      · replace hF := ZtN c11_ hF
        refine lv_aload_n S.1 S.2.1 dX9_hourOf_41 rfl (lv_at hl 1 rfl) ?_
        refine lv_aload_n S.1 S.2.1 dX9_hourOf_42 rfl (lv_at hl 2 rfl) ?_
        refine lv_iload S.1 S.2.1 dX9_hourOf_43 (lv_at hl 0 rfl) ?_
        refine lv_iload_n S.1 S.2.1 dX9_hourOf_45 rfl (lv_at hl 4 rfl) ?_
        obtain ⟨r14_, z12_, h13_, hF⟩ := Ybs hF
        refine YcallVv (rest := []) S hw (c_X9_lineUp hdj hzz8_ hrr10_ hx3 h13_) my_X9_lineUp mi_X9_lineUp ml_X9_102 zd_41 zc_X9 rfl (Zrr hR (by decide)) ⟨Nat.zero_le _, Nat.zero_le _⟩ hl.1 rfl rfl (Nat.le_of_ble_eq_true rfl) dX9_hourOf_46 (fun hzz12_ H locs hw => ?_)
        refine lv_aload_n S.1 S.2.1 dX9_hourOf_49 rfl (lv_at hl 1 rfl) ?_
        refine lv_iload S.1 S.2.1 dX9_hourOf_50 (lv_at hl 0 rfl) ?_
        refine lv_aload_n S.1 S.2.1 dX9_hourOf_52 rfl (lv_at hl 1 rfl) ?_
        refine gf_X9_21 S hw dX9_hourOf_53 ?_
        obtain ⟨r17_, z15_, h16_, hF⟩ := Ybs hF
        refine YcallVv (rest := []) S hw (c_X9_spendDay hdj zd_45 (by decide) (by decide) hzz12_ hrr10_ h16_) my_X9_spendDay mi_X9_spendDay ml_X9_106 zd_41 zc_X9 rfl (Zrr hR (by decide)) ⟨Nat.zero_le _, Nat.zero_le _⟩ hl.1 rfl rfl (Nat.le_of_ble_eq_true rfl) dX9_hourOf_56 (fun hzz15_ H locs hw => ?_)
        refine lv_iconst (v := i32 0) S.1 S.2.1 dX9_hourOf_59 ic_0 ?_
        refine lv_istore (lv' := [(5, .int (i32 (0))), (4, .int (i32 (r10_))), (0, .ref (ad 41)), (1, .ref (ad 11)), (2, .int (i32 (x2))), (3, .int (i32 (x3)))]) S.1 S.2.1 dX9_hourOf_60 hl (by decide) rfl (fun ls hl => ?_)
        exact w_X9_hourOf_L62 S hr hlk hR hdj Zfuel _ _ _ _ _ _ hF hw hzz15_ hx2 r_0 (lv_sub hl [2, 4, 0] rfl)
      · replace hF := ZtP c11_ hF
        refine lv_bipush (v := i32 (-9)) S.1 S.2.1 dX9_hourOf_38 bp_m9 ?_
        exact Yireti S hw hzz8_ r_m9 hr hlk hF dX9_hourOf_40
    · replace hF := ZtP c4_ hF
      refine lv_aload_n S.1 S.2.1 dX9_hourOf_9 rfl (lv_at hl 0 rfl) ?_
      refine gf_X9_21 S hw dX9_hourOf_10 ?_
      refine lv_aload_n S.1 S.2.1 dX9_hourOf_13 rfl (lv_at hl 1 rfl) ?_
      refine lv_iload_n S.1 S.2.1 dX9_hourOf_14 rfl (lv_at hl 2 rfl) ?_
      obtain ⟨r20_, z18_, h19_, hF⟩ := Ybs hF
      refine YcallVi (rest := [.ref (ad 45)]) S hw (c_X3_blockOf hdj hzz1_ hx2 h19_) my_X3_blockOf mi_X3_blockOf ml_X9_86 zd_11 zc_X3 rfl (Zrr hR (by decide)) ⟨Nat.zero_le _, Nat.zero_le _⟩ hl.1 rfl rfl (Nat.le_of_ble_eq_true rfl) dX9_hourOf_15 (fun hrr20_ hzz18_ H locs hw => ?_)
      obtain ⟨b21_, hF⟩ := Zgs hF
      refine Yiald S hw zd_45 (by decide) hrr20_ b21_ dX9_hourOf_18 ?_
      exact Yireti S hw hzz18_ (hzz18_.1 _ _ (by decide)) hr hlk hF dX9_hourOf_19)
set_option maxRecDepth 100000 in
set_option maxHeartbeats 4000000 in
theorem w_X10_served_b35 {RR : Int × ZI} (S : CallFix p m c cX10_served 2 s args Ztbl RX10) (hr : meth.sig.returnType = some .int) (hlk : meth.locks = false) (hR : 5 ≤ R.frames ∧ 60 * (5) ≤ R.locals) (hdj : Zdj ad) : ∀ (z : ZI) (y0 : Int) (H : Heap) (locs : List Loc) (ls : Array Slot), X10_served_b35 z y0 = some RR → ZW D cA ad (ZA ad) (Zc z) s H locs → Zok z → InR y0 → lv_has ls 2 [] → W p l e R s m args below meth c H locs 0 0 (MQ below (YQi D cA ad RR.1 RR.2) args s 0 0 (ZA ad)) (F0 m 35 ls [.int (i32 (y0))]) := by
  intro z y0 H locs ls hF hw hzz hy0 hl
  unfold X10_served_b35 at hF
  exact Yireti S hw hzz hy0 hr hlk hF dX10_served_35
set_option maxRecDepth 100000 in
set_option maxHeartbeats 4000000 in
theorem c_X10_served {l : Launch} {D : va_G} {cA : Nat → ClassId} {ad : Nat → Nat} (hdj : Zdj ad) {z z1 : ZI} {x1 : Int} {r : Int} (hzz : Zok z) (hx1 : InR x1) (hF : F_X10_served z x1 = some (r, z1)) : YMi l D cA ad (5) yX10_served cX10_served 2 (some .int) [.ref (ad 0), .int (i32 x1)] z r z1 :=
  Zmet hdj (by decide) rfl (Nat.le_of_ble_eq_true rfl) (lv := [(0, .ref (ad 0)), (1, .int (i32 (x1)))]) rfl (fun p e s m args below meth c ls S hr hlk hw hl => by
    have hR : 5 ≤ (Zrm (5)).frames ∧ 60 * (5) ≤ (Zrm (5)).locals := ⟨Nat.le_refl _, Nat.le_refl _⟩
    unfold F_X10_served at hF
    revert hR
    generalize Zrm (5) = R
    intro hR
    refine lv_aload_n S.1 S.2.1 dX10_served_0 rfl (lv_at hl 0 rfl) ?_
    refine gf_X10_27 S hw dX10_served_1 ?_
    refine lv_iload_n S.1 S.2.1 dX10_served_4 rfl (lv_at hl 1 rfl) ?_
    obtain ⟨r3_, z1_, h2_, hF⟩ := Ybs hF
    refine YcallVi (rest := []) S hw (c_X3_hasHouse hdj hzz hx1 h2_) my_X3_hasHouse mi_X3_hasHouse ml_X10_115 zd_11 zc_X3 rfl (Zrr hR (by decide)) ⟨Nat.zero_le _, Nat.zero_le _⟩ hl.1 rfl rfl (Nat.le_of_ble_eq_true rfl) dX10_served_5 (fun hrr3_ hzz1_ H locs hw => ?_)
    refine Yif_eq (tgt := 30) S hrr3_ dX10_served_8 (by decide) (fun c4_ => ?_) (fun c4_ => ?_)
    · replace hF := ZtP c4_ hF
      refine lv_aload_n S.1 S.2.1 dX10_served_30 rfl (lv_at hl 0 rfl) ?_
      refine lv_iconst (v := i32 (-1)) S.1 S.2.1 dX10_served_31 ic_m1 ?_
      obtain ⟨r7_, z5_, h6_, hF⟩ := Ybs hF
      refine YcallVi (rest := []) S hw (c_X10_refuse hdj hzz1_ r_m1 h6_) my_X10_refuse mi_X10_refuse ml_X10_81 zd_0 zc_X10 rfl (Zrr hR (by decide)) ⟨Nat.zero_le _, Nat.zero_le _⟩ hl.1 rfl rfl (Nat.le_of_ble_eq_true rfl) dX10_served_32 (fun hrr7_ hzz5_ H locs hw => ?_)
      exact w_X10_served_b35 S hr hlk hR hdj _ _ _ _ _ hF hw hzz5_ hrr7_ (lv_sub hl [] rfl)
    · replace hF := ZtN c4_ hF
      refine lv_aload_n S.1 S.2.1 dX10_served_11 rfl (lv_at hl 0 rfl) ?_
      refine gf_X10_55 S hw dX10_served_12 ?_
      refine lv_aload_n S.1 S.2.1 dX10_served_15 rfl (lv_at hl 0 rfl) ?_
      refine gf_X10_27 S hw dX10_served_16 ?_
      refine lv_iload_n S.1 S.2.1 dX10_served_19 rfl (lv_at hl 1 rfl) ?_
      refine lv_aload_n S.1 S.2.1 dX10_served_20 rfl (lv_at hl 0 rfl) ?_
      refine gg_X10_7 S hw dX10_served_21 ?_
      obtain ⟨r10_, z8_, h9_, hF⟩ := Ybs hF
      refine YcallVi (rest := []) S hw (c_X9_hourOf hdj hzz1_ hx1 (hzz1_.1 0 0 (by decide)) h9_) my_X9_hourOf mi_X9_hourOf ml_X10_223 zd_41 zc_X9 rfl (Zrr hR (by decide)) ⟨Nat.zero_le _, Nat.zero_le _⟩ hl.1 rfl rfl (Nat.le_of_ble_eq_true rfl) dX10_served_24 (fun hrr10_ hzz8_ H locs hw => ?_)
      refine lv_goto (tgt := 35) S.1 S.2.1 dX10_served_27 (by decide) ?_
      exact w_X10_served_b35 S hr hlk hR hdj _ _ _ _ _ hF hw hzz8_ hrr10_ (lv_sub hl [] rfl))
set_option maxRecDepth 100000 in
set_option maxHeartbeats 4000000 in
theorem c_X8_dayOf {l : Launch} {D : va_G} {cA : Nat → ClassId} {ad : Nat → Nat} (hdj : Zdj ad) {z z1 : ZI} {x1 : Int} {r : Int} (hzz : Zok z) (hx1 : InR x1) (hF : F_X8_dayOf z x1 = some (r, z1)) : YMi l D cA ad (0) yX8_dayOf cX8_dayOf 2 (some .int) [.ref (ad 37), .int (i32 x1)] z r z1 :=
  Zmet hdj (by decide) rfl (Nat.le_of_ble_eq_true rfl) (lv := [(0, .ref (ad 37)), (1, .int (i32 (x1)))]) rfl (fun p e s m args below meth c ls S hr hlk hw hl => by
    have hR : 0 ≤ (Zrm (0)).frames ∧ 60 * (0) ≤ (Zrm (0)).locals := ⟨Nat.le_refl _, Nat.le_refl _⟩
    unfold F_X8_dayOf at hF
    revert hR
    generalize Zrm (0) = R
    intro hR
    refine lv_aload_n S.1 S.2.1 dX8_dayOf_0 rfl (lv_at hl 0 rfl) ?_
    refine gf_X8_9 S hw dX8_dayOf_1 ?_
    refine lv_iload_n S.1 S.2.1 dX8_dayOf_4 rfl (lv_at hl 1 rfl) ?_
    obtain ⟨b1_, hF⟩ := Zgs hF
    refine Yiald S hw zd_38 (by decide) hx1 b1_ dX8_dayOf_5 ?_
    exact Yireti S hw hzz (hzz.1 _ _ (by decide)) hr hlk hF dX8_dayOf_6)
set_option maxRecDepth 100000 in
set_option maxHeartbeats 4000000 in
theorem w_X8_lets_b37 {RR : Int × ZI} (S : CallFix p m c cX8_lets 4 s args Ztbl RX8) (hr : meth.sig.returnType = some .boolean) (hlk : meth.locks = false) (hR : 1 ≤ R.frames ∧ 60 * (1) ≤ R.locals) (hdj : Zdj ad) : ∀ (z : ZI) (y0 : Int) (H : Heap) (locs : List Loc) (ls : Array Slot), X8_lets_b37 z y0 = some RR → ZW D cA ad (ZA ad) (Zc z) s H locs → Zok z → InR y0 → lv_has ls 4 [] → W p l e R s m args below meth c H locs 0 0 (MQ below (YQi D cA ad RR.1 RR.2) args s 0 0 (ZA ad)) (F0 m 37 ls [.int (i32 (y0))]) := by
  intro z y0 H locs ls hF hw hzz hy0 hl
  unfold X8_lets_b37 at hF
  obtain ⟨b1_, hF⟩ := Zgs hF
  exact Yiretz S hw hzz hy0 hr hlk b1_ hF dX8_lets_37
set_option maxRecDepth 100000 in
set_option maxHeartbeats 4000000 in
theorem c_X8_lets {l : Launch} {D : va_G} {cA : Nat → ClassId} {ad : Nat → Nat} (hdj : Zdj ad) {z z1 : ZI} {x1 : Int} {x2 : Int} {r : Int} (hzz : Zok z) (hx1 : InR x1) (hx2 : InR x2) (hF : F_X8_lets z x1 x2 = some (r, z1)) : YMi l D cA ad (1) yX8_lets cX8_lets 4 (some .boolean) [.ref (ad 37), .int (i32 x1), .int (i32 x2)] z r z1 :=
  Zmet hdj (by decide) rfl (Nat.le_of_ble_eq_true rfl) (lv := [(0, .ref (ad 37)), (1, .int (i32 (x1))), (2, .int (i32 (x2)))]) rfl (fun p e s m args below meth c ls S hr hlk hw hl => by
    have hR : 1 ≤ (Zrm (1)).frames ∧ 60 * (1) ≤ (Zrm (1)).locals := ⟨Nat.le_refl _, Nat.le_refl _⟩
    unfold F_X8_lets at hF
    revert hR
    generalize Zrm (1) = R
    intro hR
    refine lv_aload_n S.1 S.2.1 dX8_lets_0 rfl (lv_at hl 0 rfl) ?_
    refine gf_X8_15 S hw dX8_lets_1 ?_
    refine lv_iload_n S.1 S.2.1 dX8_lets_4 rfl (lv_at hl 1 rfl) ?_
    obtain ⟨b1_, hF⟩ := Zgs hF
    refine Yiald S hw zd_39 (by decide) hx1 b1_ dX8_lets_5 ?_
    refine lv_sipush (v := i32 1000) S.1 S.2.1 dX8_lets_6 sp_1000 ?_
    refine lv_iload_n S.1 S.2.1 dX8_lets_9 rfl (lv_at hl 2 rfl) ?_
    obtain ⟨g2_, hF⟩ := Zgs hF
    refine Yisub S dX8_lets_10 ?_
    obtain ⟨g3_, hF⟩ := Zgs hF
    refine Yimul S dX8_lets_11 ?_
    refine lv_sipush (v := i32 1000) S.1 S.2.1 dX8_lets_12 sp_1000 ?_
    refine Yidiv S g3_ r_1000 (by decide) dX8_lets_15 ?_
    refine lv_istore_n (lv' := [(3, .int (i32 (((z 39 x1) * (1000 - x2)).tdiv 1000))), (0, .ref (ad 37)), (1, .int (i32 (x1))), (2, .int (i32 (x2)))]) S.1 S.2.1 dX8_lets_16 rfl hl (by decide) rfl (fun ls hl => ?_)
    refine lv_iload_n S.1 S.2.1 dX8_lets_17 rfl (lv_at hl 0 rfl) ?_
    refine lv_aload_n S.1 S.2.1 dX8_lets_18 rfl (lv_at hl 1 rfl) ?_
    refine gf_X8_18 S hw dX8_lets_19 ?_
    refine lv_iload_n S.1 S.2.1 dX8_lets_22 rfl (lv_at hl 2 rfl) ?_
    obtain ⟨b4_, hF⟩ := Zgs hF
    refine Yiald S hw zd_40 (by decide) hx1 b4_ dX8_lets_23 ?_
    obtain ⟨g5_, hF⟩ := Zgs hF
    refine Yisub S dX8_lets_24 ?_
    obtain ⟨g6_, hF⟩ := Zgs hF
    refine Ymabs S g5_ hl ml_X8_25 (Zr1 hR (by decide)) (Zr2 hR (by decide) (Nat.le_of_ble_eq_true rfl)) ⟨Nat.zero_le _, Nat.zero_le _⟩ dX8_lets_25 ?_
    refine lv_iconst (v := i32 1) S.1 S.2.1 dX8_lets_28 ic_1 ?_
    refine Yicmp_gt (tgt := 36) S (jabs_in g5_ g6_) r_1 dX8_lets_29 (by decide) (fun c7_ => ?_) (fun c7_ => ?_)
    · replace hF := ZtP c7_ hF
      refine lv_iconst (v := i32 0) S.1 S.2.1 dX8_lets_36 ic_0 ?_
      exact w_X8_lets_b37 S hr hlk hR hdj _ _ _ _ _ hF hw hzz r_0 (lv_sub hl [] rfl)
    · replace hF := ZtN c7_ hF
      refine lv_iconst (v := i32 1) S.1 S.2.1 dX8_lets_32 ic_1 ?_
      refine lv_goto (tgt := 37) S.1 S.2.1 dX8_lets_33 (by decide) ?_
      exact w_X8_lets_b37 S hr hlk hR hdj _ _ _ _ _ hF hw hzz r_1 (lv_sub hl [] rfl))
set_option maxRecDepth 100000 in
set_option maxHeartbeats 4000000 in
theorem w_X8_firstNotTrue_L2 {RR : Int × ZI} (S : CallFix p m c cX8_firstNotTrue 2 s args Ztbl RX8) (hr : meth.sig.returnType = some .int) (hlk : meth.locks = false) (hR : 2 ≤ R.frames ∧ 60 * (2) ≤ R.locals) (hdj : Zdj ad) : ∀ (n : Nat) (z : ZI) (x1 : Int) (H : Heap) (locs : List Loc) (ls : Array Slot), X8_firstNotTrue_L2 n z x1 = some RR → ZW D cA ad (ZA ad) (Zc z) s H locs → Zok z → InR x1 → lv_has ls 2 [(0, .ref (ad 37)), (1, .int (i32 (x1)))] → W p l e R s m args below meth c H locs 0 0 (MQ below (YQi D cA ad RR.1 RR.2) args s 0 0 (ZA ad)) (F0 m 2 ls []) := by
  intro n
  induction n with
  | zero => intro z x1 H locs ls hF; exact nomatch hF
  | succ n hk2 =>
    intro z x1 H locs ls hF hw hzz hx1 hl
    replace hF : X8_firstNotTrue_L2b (X8_firstNotTrue_L2 n) z x1 = some RR := hF
    unfold X8_firstNotTrue_L2b at hF
    refine lv_iload_n S.1 S.2.1 dX8_firstNotTrue_2 rfl (lv_at hl 1 rfl) ?_
    refine lv_aload_n S.1 S.2.1 dX8_firstNotTrue_3 rfl (lv_at hl 0 rfl) ?_
    refine gg_X8_21 S hw dX8_firstNotTrue_4 ?_
    refine Yicmp_ge (tgt := 27) S hx1 (hzz.1 37 0 (by decide)) dX8_firstNotTrue_7 (by decide) (fun c1_ => ?_) (fun c1_ => ?_)
    · replace hF := ZtP c1_ hF
      refine lv_bipush (v := i32 (-9)) S.1 S.2.1 dX8_firstNotTrue_27 bp_m9 ?_
      exact Yireti S hw hzz r_m9 hr hlk hF dX8_firstNotTrue_29
    · replace hF := ZtN c1_ hF
      refine lv_aload_n S.1 S.2.1 dX8_firstNotTrue_10 rfl (lv_at hl 0 rfl) ?_
      refine lv_iload_n S.1 S.2.1 dX8_firstNotTrue_11 rfl (lv_at hl 1 rfl) ?_
      refine lv_iconst (v := i32 0) S.1 S.2.1 dX8_firstNotTrue_12 ic_0 ?_
      obtain ⟨r4_, z2_, h3_, hF⟩ := Ybs hF
      refine YcallVi (rest := []) S hw (c_X8_lets hdj hzz hx1 r_0 h3_) my_X8_lets mi_X8_lets ml_X8_31 zd_37 zc_X8 rfl (Zrr hR (by decide)) ⟨Nat.zero_le _, Nat.zero_le _⟩ hl.1 rfl rfl (Nat.le_of_ble_eq_true rfl) dX8_firstNotTrue_13 (fun hrr4_ hzz2_ H locs hw => ?_)
      refine Yif_ne (tgt := 21) S hrr4_ dX8_firstNotTrue_16 (by decide) (fun c5_ => ?_) (fun c5_ => ?_)
      · replace hF := ZtN c5_ hF
        obtain ⟨g6_, hF⟩ := Zgs hF
        refine lv_iinc (v := i32 (x1 + 1)) (lv' := [(1, .int (i32 (x1 + 1))), (0, .ref (ad 37))]) S.1 S.2.1 dX8_firstNotTrue_21 hl (k := 1) rfl Yiinc (by decide) rfl (fun ls hl => ?_)
        refine lv_goto (tgt := 2) S.1 S.2.1 dX8_firstNotTrue_24 (by decide) ?_
        exact hk2 _ _ _ _ _ hF hw hzz2_ g6_ (lv_sub hl [1, 0] rfl)
      · replace hF := ZtP c5_ hF
        refine lv_iload_n S.1 S.2.1 dX8_firstNotTrue_19 rfl (lv_at hl 1 rfl) ?_
        exact Yireti S hw hzz2_ hx1 hr hlk hF dX8_firstNotTrue_20
set_option maxRecDepth 100000 in
set_option maxHeartbeats 4000000 in
theorem c_X8_firstNotTrue {l : Launch} {D : va_G} {cA : Nat → ClassId} {ad : Nat → Nat} (hdj : Zdj ad) {z z1 : ZI} {r : Int} (hzz : Zok z) (hF : F_X8_firstNotTrue z  = some (r, z1)) : YMi l D cA ad (2) yX8_firstNotTrue cX8_firstNotTrue 2 (some .int) [.ref (ad 37)] z r z1 :=
  Zmet hdj (by decide) rfl (Nat.le_of_ble_eq_true rfl) (lv := [(0, .ref (ad 37))]) rfl (fun p e s m args below meth c ls S hr hlk hw hl => by
    have hR : 2 ≤ (Zrm (2)).frames ∧ 60 * (2) ≤ (Zrm (2)).locals := ⟨Nat.le_refl _, Nat.le_refl _⟩
    unfold F_X8_firstNotTrue at hF
    revert hR
    generalize Zrm (2) = R
    intro hR
    refine lv_iconst (v := i32 0) S.1 S.2.1 dX8_firstNotTrue_0 ic_0 ?_
    refine lv_istore_n (lv' := [(1, .int (i32 (0))), (0, .ref (ad 37))]) S.1 S.2.1 dX8_firstNotTrue_1 rfl hl (by decide) rfl (fun ls hl => ?_)
    exact w_X8_firstNotTrue_L2 S hr hlk hR hdj Zfuel _ _ _ _ _ hF hw hzz r_0 (lv_sub hl [1, 0] rfl))
set_option maxRecDepth 100000 in
set_option maxHeartbeats 4000000 in
theorem w_X8_letsAllFrom_b31 {RR : Int × ZI} (S : CallFix p m c cX8_letsAllFrom 4 s args Ztbl RX8) (hr : meth.sig.returnType = some .boolean) (hlk : meth.locks = false) (hR : 2 ≤ R.frames ∧ 60 * (2) ≤ R.locals) (hdj : Zdj ad) {k2 : ZI → Int → Int → Int → Option (Int × ZI)} (hk2 : ∀ (z : ZI) (x1 : Int) (x2 : Int) (x3 : Int) (H : Heap) (locs : List Loc) (ls : Array Slot), k2 z x1 x2 x3 = some RR → ZW D cA ad (ZA ad) (Zc z) s H locs → Zok z → InR x1 → InR x2 → InR x3 → lv_has ls 4 [(0, .ref (ad 37)), (1, .int (i32 (x1))), (2, .int (i32 (x2))), (3, .int (i32 (x3)))] → W p l e R s m args below meth c H locs 0 0 (MQ below (YQi D cA ad RR.1 RR.2) args s 0 0 (ZA ad)) (F0 m 2 ls [])) : ∀ (z : ZI) (x1 : Int) (x2 : Int) (x3 : Int) (H : Heap) (locs : List Loc) (ls : Array Slot), X8_letsAllFrom_b31 k2 z x1 x2 x3 = some RR → ZW D cA ad (ZA ad) (Zc z) s H locs → Zok z → InR x1 → InR x2 → InR x3 → lv_has ls 4 [(0, .ref (ad 37)), (1, .int (i32 (x1))), (2, .int (i32 (x2))), (3, .int (i32 (x3)))] → W p l e R s m args below meth c H locs 0 0 (MQ below (YQi D cA ad RR.1 RR.2) args s 0 0 (ZA ad)) (F0 m 31 ls []) := by
  intro z x1 x2 x3 H locs ls hF hw hzz hx1 hx2 hx3 hl
  unfold X8_letsAllFrom_b31 at hF
  obtain ⟨g1_, hF⟩ := Zgs hF
  refine lv_iinc (v := i32 (x3 + 1)) (lv' := [(3, .int (i32 (x3 + 1))), (0, .ref (ad 37)), (1, .int (i32 (x1))), (2, .int (i32 (x2)))]) S.1 S.2.1 dX8_letsAllFrom_31 hl (k := 3) rfl Yiinc (by decide) rfl (fun ls hl => ?_)
  refine lv_goto (tgt := 2) S.1 S.2.1 dX8_letsAllFrom_34 (by decide) ?_
  exact hk2 _ _ _ _ _ _ _ hF hw hzz hx1 hx2 g1_ (lv_sub hl [1, 2, 3, 0] rfl)
set_option maxRecDepth 100000 in
set_option maxHeartbeats 4000000 in
theorem w_X8_letsAllFrom_L2 {RR : Int × ZI} (S : CallFix p m c cX8_letsAllFrom 4 s args Ztbl RX8) (hr : meth.sig.returnType = some .boolean) (hlk : meth.locks = false) (hR : 2 ≤ R.frames ∧ 60 * (2) ≤ R.locals) (hdj : Zdj ad) : ∀ (n : Nat) (z : ZI) (x1 : Int) (x2 : Int) (x3 : Int) (H : Heap) (locs : List Loc) (ls : Array Slot), X8_letsAllFrom_L2 n z x1 x2 x3 = some RR → ZW D cA ad (ZA ad) (Zc z) s H locs → Zok z → InR x1 → InR x2 → InR x3 → lv_has ls 4 [(0, .ref (ad 37)), (1, .int (i32 (x1))), (2, .int (i32 (x2))), (3, .int (i32 (x3)))] → W p l e R s m args below meth c H locs 0 0 (MQ below (YQi D cA ad RR.1 RR.2) args s 0 0 (ZA ad)) (F0 m 2 ls []) := by
  intro n
  induction n with
  | zero => intro z x1 x2 x3 H locs ls hF; exact nomatch hF
  | succ n hk2 =>
    intro z x1 x2 x3 H locs ls hF hw hzz hx1 hx2 hx3 hl
    replace hF : X8_letsAllFrom_L2b (X8_letsAllFrom_L2 n) z x1 x2 x3 = some RR := hF
    unfold X8_letsAllFrom_L2b at hF
    refine lv_iload_n S.1 S.2.1 dX8_letsAllFrom_2 rfl (lv_at hl 3 rfl) ?_
    refine lv_aload_n S.1 S.2.1 dX8_letsAllFrom_3 rfl (lv_at hl 0 rfl) ?_
    refine gg_X8_21 S hw dX8_letsAllFrom_4 ?_
    refine Yicmp_ge (tgt := 37) S hx3 (hzz.1 37 0 (by decide)) dX8_letsAllFrom_7 (by decide) (fun c1_ => ?_) (fun c1_ => ?_)
    · replace hF := ZtP c1_ hF
      refine lv_iconst (v := i32 1) S.1 S.2.1 dX8_letsAllFrom_37 ic_1 ?_
      exact Yiretz S hw hzz r_1 hr hlk (Or.inr rfl) hF dX8_letsAllFrom_38
    · replace hF := ZtN c1_ hF
      refine lv_aload_n S.1 S.2.1 dX8_letsAllFrom_10 rfl (lv_at hl 0 rfl) ?_
      refine gf_X8_9 S hw dX8_letsAllFrom_11 ?_
      refine lv_iload_n S.1 S.2.1 dX8_letsAllFrom_14 rfl (lv_at hl 3 rfl) ?_
      obtain ⟨b2_, hF⟩ := Zgs hF
      refine Yiald S hw zd_38 (by decide) hx3 b2_ dX8_letsAllFrom_15 ?_
      refine lv_iload_n S.1 S.2.1 dX8_letsAllFrom_16 rfl (lv_at hl 1 rfl) ?_
      refine Yicmp_lt (tgt := 31) S (hzz.1 _ _ (by decide)) hx1 dX8_letsAllFrom_17 (by decide) (fun c3_ => ?_) (fun c3_ => ?_)
      · replace hF := ZtP c3_ hF
        exact w_X8_letsAllFrom_b31 S hr hlk hR hdj hk2 _ _ _ _ _ _ _ hF hw hzz hx1 hx2 hx3 (lv_sub hl [0, 1, 2, 3] rfl)
      · replace hF := ZtN c3_ hF
        refine lv_aload_n S.1 S.2.1 dX8_letsAllFrom_20 rfl (lv_at hl 0 rfl) ?_
        refine lv_iload_n S.1 S.2.1 dX8_letsAllFrom_21 rfl (lv_at hl 3 rfl) ?_
        refine lv_iload_n S.1 S.2.1 dX8_letsAllFrom_22 rfl (lv_at hl 2 rfl) ?_
        obtain ⟨r6_, z4_, h5_, hF⟩ := Ybs hF
        refine YcallVi (rest := []) S hw (c_X8_lets hdj hzz hx3 hx2 h5_) my_X8_lets mi_X8_lets ml_X8_31 zd_37 zc_X8 rfl (Zrr hR (by decide)) ⟨Nat.zero_le _, Nat.zero_le _⟩ hl.1 rfl rfl (Nat.le_of_ble_eq_true rfl) dX8_letsAllFrom_23 (fun hrr6_ hzz4_ H locs hw => ?_)
        refine Yif_ne (tgt := 31) S hrr6_ dX8_letsAllFrom_26 (by decide) (fun c7_ => ?_) (fun c7_ => ?_)
        · replace hF := ZtN c7_ hF
          exact w_X8_letsAllFrom_b31 S hr hlk hR hdj hk2 _ _ _ _ _ _ _ hF hw hzz4_ hx1 hx2 hx3 (lv_sub hl [0, 1, 2, 3] rfl)
        · replace hF := ZtP c7_ hF
          refine lv_iconst (v := i32 0) S.1 S.2.1 dX8_letsAllFrom_29 ic_0 ?_
          exact Yiretz S hw hzz4_ r_0 hr hlk (Or.inl rfl) hF dX8_letsAllFrom_30
set_option maxRecDepth 100000 in
set_option maxHeartbeats 4000000 in
theorem c_X8_letsAllFrom {l : Launch} {D : va_G} {cA : Nat → ClassId} {ad : Nat → Nat} (hdj : Zdj ad) {z z1 : ZI} {x1 : Int} {x2 : Int} {r : Int} (hzz : Zok z) (hx1 : InR x1) (hx2 : InR x2) (hF : F_X8_letsAllFrom z x1 x2 = some (r, z1)) : YMi l D cA ad (2) yX8_letsAllFrom cX8_letsAllFrom 4 (some .boolean) [.ref (ad 37), .int (i32 x1), .int (i32 x2)] z r z1 :=
  Zmet hdj (by decide) rfl (Nat.le_of_ble_eq_true rfl) (lv := [(0, .ref (ad 37)), (1, .int (i32 (x1))), (2, .int (i32 (x2)))]) rfl (fun p e s m args below meth c ls S hr hlk hw hl => by
    have hR : 2 ≤ (Zrm (2)).frames ∧ 60 * (2) ≤ (Zrm (2)).locals := ⟨Nat.le_refl _, Nat.le_refl _⟩
    unfold F_X8_letsAllFrom at hF
    revert hR
    generalize Zrm (2) = R
    intro hR
    refine lv_iconst (v := i32 0) S.1 S.2.1 dX8_letsAllFrom_0 ic_0 ?_
    refine lv_istore_n (lv' := [(3, .int (i32 (0))), (0, .ref (ad 37)), (1, .int (i32 (x1))), (2, .int (i32 (x2)))]) S.1 S.2.1 dX8_letsAllFrom_1 rfl hl (by decide) rfl (fun ls hl => ?_)
    exact w_X8_letsAllFrom_L2 S hr hlk hR hdj Zfuel _ _ _ _ _ _ _ hF hw hzz hx1 hx2 r_0 (lv_sub hl [1, 2, 3, 0] rfl))
set_option maxRecDepth 100000 in
set_option maxHeartbeats 4000000 in
theorem w_X8_leastLean_L2 {RR : Int × ZI} (S : CallFix p m c cX8_leastLean 3 s args Ztbl RX8) (hr : meth.sig.returnType = some .int) (hlk : meth.locks = false) (hR : 3 ≤ R.frames ∧ 60 * (3) ≤ R.locals) (hdj : Zdj ad) : ∀ (n : Nat) (z : ZI) (x1 : Int) (x2 : Int) (H : Heap) (locs : List Loc) (ls : Array Slot), X8_leastLean_L2 n z x1 x2 = some RR → ZW D cA ad (ZA ad) (Zc z) s H locs → Zok z → InR x1 → InR x2 → lv_has ls 3 [(0, .ref (ad 37)), (1, .int (i32 (x1))), (2, .int (i32 (x2)))] → W p l e R s m args below meth c H locs 0 0 (MQ below (YQi D cA ad RR.1 RR.2) args s 0 0 (ZA ad)) (F0 m 2 ls []) := by
  intro n
  induction n with
  | zero => intro z x1 x2 H locs ls hF; exact nomatch hF
  | succ n hk2 =>
    intro z x1 x2 H locs ls hF hw hzz hx1 hx2 hl
    replace hF : X8_leastLean_L2b (X8_leastLean_L2 n) z x1 x2 = some RR := hF
    unfold X8_leastLean_L2b at hF
    refine lv_iload_n S.1 S.2.1 dX8_leastLean_2 rfl (lv_at hl 2 rfl) ?_
    refine lv_sipush (v := i32 300) S.1 S.2.1 dX8_leastLean_3 sp_300 ?_
    refine Yicmp_gt (tgt := 31) S hx2 r_300 dX8_leastLean_6 (by decide) (fun c1_ => ?_) (fun c1_ => ?_)
    · replace hF := ZtP c1_ hF
      refine lv_bipush (v := i32 (-9)) S.1 S.2.1 dX8_leastLean_31 bp_m9 ?_
      exact Yireti S hw hzz r_m9 hr hlk hF dX8_leastLean_33
    · replace hF := ZtN c1_ hF
      refine lv_aload_n S.1 S.2.1 dX8_leastLean_9 rfl (lv_at hl 0 rfl) ?_
      refine lv_aload_n S.1 S.2.1 dX8_leastLean_10 rfl (lv_at hl 0 rfl) ?_
      refine gf_X8_9 S hw dX8_leastLean_11 ?_
      refine lv_iload_n S.1 S.2.1 dX8_leastLean_14 rfl (lv_at hl 1 rfl) ?_
      obtain ⟨b2_, hF⟩ := Zgs hF
      refine Yiald S hw zd_38 (by decide) hx1 b2_ dX8_leastLean_15 ?_
      refine lv_iload_n S.1 S.2.1 dX8_leastLean_16 rfl (lv_at hl 2 rfl) ?_
      obtain ⟨r5_, z3_, h4_, hF⟩ := Ybs hF
      refine YcallVi (rest := []) S hw (c_X8_letsAllFrom hdj hzz (hzz.1 _ _ (by decide)) hx2 h4_) my_X8_letsAllFrom mi_X8_letsAllFrom ml_X8_35 zd_37 zc_X8 rfl (Zrr hR (by decide)) ⟨Nat.zero_le _, Nat.zero_le _⟩ hl.1 rfl rfl (Nat.le_of_ble_eq_true rfl) dX8_leastLean_17 (fun hrr5_ hzz3_ H locs hw => ?_)
      refine Yif_eq (tgt := 25) S hrr5_ dX8_leastLean_20 (by decide) (fun c6_ => ?_) (fun c6_ => ?_)
      · replace hF := ZtP c6_ hF
        obtain ⟨g7_, hF⟩ := Zgs hF
        refine lv_iinc (v := i32 (x2 + 1)) (lv' := [(2, .int (i32 (x2 + 1))), (0, .ref (ad 37)), (1, .int (i32 (x1)))]) S.1 S.2.1 dX8_leastLean_25 hl (k := 2) rfl Yiinc (by decide) rfl (fun ls hl => ?_)
        refine lv_goto (tgt := 2) S.1 S.2.1 dX8_leastLean_28 (by decide) ?_
        exact hk2 _ _ _ _ _ _ hF hw hzz3_ hx1 g7_ (lv_sub hl [1, 2, 0] rfl)
      · replace hF := ZtN c6_ hF
        refine lv_iload_n S.1 S.2.1 dX8_leastLean_23 rfl (lv_at hl 2 rfl) ?_
        exact Yireti S hw hzz3_ hx2 hr hlk hF dX8_leastLean_24
set_option maxRecDepth 100000 in
set_option maxHeartbeats 4000000 in
theorem c_X8_leastLean {l : Launch} {D : va_G} {cA : Nat → ClassId} {ad : Nat → Nat} (hdj : Zdj ad) {z z1 : ZI} {x1 : Int} {r : Int} (hzz : Zok z) (hx1 : InR x1) (hF : F_X8_leastLean z x1 = some (r, z1)) : YMi l D cA ad (3) yX8_leastLean cX8_leastLean 3 (some .int) [.ref (ad 37), .int (i32 x1)] z r z1 :=
  Zmet hdj (by decide) rfl (Nat.le_of_ble_eq_true rfl) (lv := [(0, .ref (ad 37)), (1, .int (i32 (x1)))]) rfl (fun p e s m args below meth c ls S hr hlk hw hl => by
    have hR : 3 ≤ (Zrm (3)).frames ∧ 60 * (3) ≤ (Zrm (3)).locals := ⟨Nat.le_refl _, Nat.le_refl _⟩
    unfold F_X8_leastLean at hF
    revert hR
    generalize Zrm (3) = R
    intro hR
    refine lv_iconst (v := i32 0) S.1 S.2.1 dX8_leastLean_0 ic_0 ?_
    refine lv_istore_n (lv' := [(2, .int (i32 (0))), (0, .ref (ad 37)), (1, .int (i32 (x1)))]) S.1 S.2.1 dX8_leastLean_1 rfl hl (by decide) rfl (fun ls hl => ?_)
    exact w_X8_leastLean_L2 S hr hlk hR hdj Zfuel _ _ _ _ _ _ hF hw hzz hx1 r_0 (lv_sub hl [1, 2, 0] rfl))
set_option maxRecDepth 100000 in
set_option maxHeartbeats 4000000 in
theorem w_X10_since_b44 {RR : Int × ZI} (S : CallFix p m c cX10_since 4 s args Ztbl RX10) (hr : meth.sig.returnType = some .int) (hlk : meth.locks = false) (hR : 4 ≤ R.frames ∧ 60 * (4) ≤ R.locals) (hdj : Zdj ad) : ∀ (z : ZI) (y0 : Int) (H : Heap) (locs : List Loc) (ls : Array Slot), X10_since_b44 z y0 = some RR → ZW D cA ad (ZA ad) (Zc z) s H locs → Zok z → InR y0 → lv_has ls 4 [] → W p l e R s m args below meth c H locs 0 0 (MQ below (YQi D cA ad RR.1 RR.2) args s 0 0 (ZA ad)) (F0 m 44 ls [.int (i32 (y0))]) := by
  intro z y0 H locs ls hF hw hzz hy0 hl
  unfold X10_since_b44 at hF
  exact Yireti S hw hzz hy0 hr hlk hF dX10_since_44
set_option maxRecDepth 100000 in
set_option maxHeartbeats 4000000 in
theorem w_X10_since_b79 {RR : Int × ZI} (S : CallFix p m c cX10_since 4 s args Ztbl RX10) (hr : meth.sig.returnType = some .int) (hlk : meth.locks = false) (hR : 4 ≤ R.frames ∧ 60 * (4) ≤ R.locals) (hdj : Zdj ad) : ∀ (z : ZI) (y0 : Int) (H : Heap) (locs : List Loc) (ls : Array Slot), X10_since_b79 z y0 = some RR → ZW D cA ad (ZA ad) (Zc z) s H locs → Zok z → InR y0 → lv_has ls 4 [] → W p l e R s m args below meth c H locs 0 0 (MQ below (YQi D cA ad RR.1 RR.2) args s 0 0 (ZA ad)) (F0 m 79 ls [.int (i32 (y0))]) := by
  intro z y0 H locs ls hF hw hzz hy0 hl
  unfold X10_since_b79 at hF
  exact Yireti S hw hzz hy0 hr hlk hF dX10_since_79
set_option maxRecDepth 100000 in
set_option maxHeartbeats 4000000 in
theorem w_X10_since_b16 {RR : Int × ZI} (S : CallFix p m c cX10_since 4 s args Ztbl RX10) (hr : meth.sig.returnType = some .int) (hlk : meth.locks = false) (hR : 4 ≤ R.frames ∧ 60 * (4) ≤ R.locals) (hdj : Zdj ad) : ∀ (z : ZI) (x1 : Int) (H : Heap) (locs : List Loc) (ls : Array Slot), X10_since_b16 z x1 = some RR → ZW D cA ad (ZA ad) (Zc z) s H locs → Zok z → InR x1 → lv_has ls 4 [(0, .ref (ad 0)), (1, .int (i32 (x1)))] → W p l e R s m args below meth c H locs 0 0 (MQ below (YQi D cA ad RR.1 RR.2) args s 0 0 (ZA ad)) (F0 m 16 ls []) := by
  intro z x1 H locs ls hF hw hzz hx1 hl
  unfold X10_since_b16 at hF
  refine lv_aload_n S.1 S.2.1 dX10_since_16 rfl (lv_at hl 0 rfl) ?_
  refine gf_X10_48 S hw dX10_since_17 ?_
  obtain ⟨r3_, z1_, h2_, hF⟩ := Ybs hF
  refine YcallVi (rest := []) S hw (c_X8_firstNotTrue hdj hzz  h2_) my_X8_firstNotTrue mi_X8_firstNotTrue ml_X10_195 zd_37 zc_X8 rfl (Zrr hR (by decide)) ⟨Nat.zero_le _, Nat.zero_le _⟩ hl.1 rfl rfl (Nat.le_of_ble_eq_true rfl) dX10_since_20 (fun hrr3_ hzz1_ H locs hw => ?_)
  refine lv_istore_n (lv' := [(2, .int (i32 (r3_))), (0, .ref (ad 0)), (1, .int (i32 (x1)))]) S.1 S.2.1 dX10_since_23 rfl hl (by decide) rfl (fun ls hl => ?_)
  refine lv_iload_n S.1 S.2.1 dX10_since_24 rfl (lv_at hl 0 rfl) ?_
  refine lv_bipush (v := i32 (-9)) S.1 S.2.1 dX10_since_25 bp_m9 ?_
  refine Yicmp_ne (tgt := 45) S hrr3_ r_m9 dX10_since_27 (by decide) (fun c4_ => ?_) (fun c4_ => ?_)
  · replace hF := ZtN c4_ hF
    refine lv_aload_n S.1 S.2.1 dX10_since_45 rfl (lv_at hl 1 rfl) ?_
    refine gf_X10_48 S hw dX10_since_46 ?_
    refine lv_iload_n S.1 S.2.1 dX10_since_49 rfl (lv_at hl 0 rfl) ?_
    obtain ⟨r7_, z5_, h6_, hF⟩ := Ybs hF
    refine YcallVi (rest := []) S hw (c_X8_leastLean hdj hzz1_ hrr3_ h6_) my_X8_leastLean mi_X8_leastLean ml_X10_199 zd_37 zc_X8 rfl (Zrr hR (by decide)) ⟨Nat.zero_le _, Nat.zero_le _⟩ hl.1 rfl rfl (Nat.le_of_ble_eq_true rfl) dX10_since_50 (fun hrr7_ hzz5_ H locs hw => ?_)
    refine lv_istore_n (lv' := [(3, .int (i32 (r7_))), (2, .int (i32 (r3_))), (0, .ref (ad 0)), (1, .int (i32 (x1)))]) S.1 S.2.1 dX10_since_53 rfl hl (by decide) rfl (fun ls hl => ?_)
    refine lv_iload_n S.1 S.2.1 dX10_since_54 rfl (lv_at hl 0 rfl) ?_
    refine lv_bipush (v := i32 (-9)) S.1 S.2.1 dX10_since_55 bp_m9 ?_
    refine Yicmp_ne (tgt := 63) S hrr7_ r_m9 dX10_since_57 (by decide) (fun c8_ => ?_) (fun c8_ => ?_)
    · replace hF := ZtN c8_ hF
      refine lv_iload_n S.1 S.2.1 dX10_since_63 rfl (lv_at hl 3 rfl) ?_
      refine Yif_ne (tgt := 78) S hx1 dX10_since_64 (by decide) (fun c9_ => ?_) (fun c9_ => ?_)
      · replace hF := ZtN c9_ hF
        refine lv_iload_n S.1 S.2.1 dX10_since_78 rfl (lv_at hl 0 rfl) ?_
        exact w_X10_since_b79 S hr hlk hR hdj _ _ _ _ _ hF hw hzz5_ hrr7_ (lv_sub hl [] rfl)
      · replace hF := ZtP c9_ hF
        refine lv_aload_n S.1 S.2.1 dX10_since_67 rfl (lv_at hl 2 rfl) ?_
        refine gf_X10_48 S hw dX10_since_68 ?_
        refine lv_iload_n S.1 S.2.1 dX10_since_71 rfl (lv_at hl 1 rfl) ?_
        obtain ⟨r12_, z10_, h11_, hF⟩ := Ybs hF
        refine YcallVi (rest := []) S hw (c_X8_dayOf hdj hzz5_ hrr3_ h11_) my_X8_dayOf mi_X8_dayOf ml_X10_202 zd_37 zc_X8 rfl (Zrr hR (by decide)) ⟨Nat.zero_le _, Nat.zero_le _⟩ hl.1 rfl rfl (Nat.le_of_ble_eq_true rfl) dX10_since_72 (fun hrr12_ hzz10_ H locs hw => ?_)
        refine lv_goto (tgt := 79) S.1 S.2.1 dX10_since_75 (by decide) ?_
        exact w_X10_since_b79 S hr hlk hR hdj _ _ _ _ _ hF hw hzz10_ hrr12_ (lv_sub hl [] rfl)
    · replace hF := ZtP c8_ hF
      refine lv_bipush (v := i32 (-9)) S.1 S.2.1 dX10_since_60 bp_m9 ?_
      exact Yireti S hw hzz5_ r_m9 hr hlk hF dX10_since_62
  · replace hF := ZtP c4_ hF
    refine lv_iload_n S.1 S.2.1 dX10_since_30 rfl (lv_at hl 2 rfl) ?_
    refine Yif_ne (tgt := 43) S hx1 dX10_since_31 (by decide) (fun c13_ => ?_) (fun c13_ => ?_)
    · replace hF := ZtN c13_ hF
      refine lv_iconst (v := i32 0) S.1 S.2.1 dX10_since_43 ic_0 ?_
      exact w_X10_since_b44 S hr hlk hR hdj _ _ _ _ _ hF hw hzz1_ r_0 (lv_sub hl [] rfl)
    · replace hF := ZtP c13_ hF
      refine lv_aload_n S.1 S.2.1 dX10_since_34 rfl (lv_at hl 1 rfl) ?_
      refine gg_X10_7 S hw dX10_since_35 ?_
      refine lv_iconst (v := i32 1) S.1 S.2.1 dX10_since_38 ic_1 ?_
      obtain ⟨g14_, hF⟩ := Zgs hF
      refine Yiadd S dX10_since_39 ?_
      refine lv_goto (tgt := 44) S.1 S.2.1 dX10_since_40 (by decide) ?_
      exact w_X10_since_b44 S hr hlk hR hdj _ _ _ _ _ hF hw hzz1_ g14_ (lv_sub hl [] rfl)
set_option maxRecDepth 100000 in
set_option maxHeartbeats 4000000 in
theorem c_X10_since {l : Launch} {D : va_G} {cA : Nat → ClassId} {ad : Nat → Nat} (hdj : Zdj ad) {z z1 : ZI} {x1 : Int} {r : Int} (hzz : Zok z) (hx1 : InR x1) (hF : F_X10_since z x1 = some (r, z1)) : YMi l D cA ad (4) yX10_since cX10_since 4 (some .int) [.ref (ad 0), .int (i32 x1)] z r z1 :=
  Zmet hdj (by decide) rfl (Nat.le_of_ble_eq_true rfl) (lv := [(0, .ref (ad 0)), (1, .int (i32 (x1)))]) rfl (fun p e s m args below meth c ls S hr hlk hw hl => by
    have hR : 4 ≤ (Zrm (4)).frames ∧ 60 * (4) ≤ (Zrm (4)).locals := ⟨Nat.le_refl _, Nat.le_refl _⟩
    unfold F_X10_since at hF
    revert hR
    generalize Zrm (4) = R
    intro hR
    refine lv_iload_n S.1 S.2.1 dX10_since_0 rfl (lv_at hl 1 rfl) ?_
    refine Yif_eq (tgt := 16) S hx1 dX10_since_1 (by decide) (fun c1_ => ?_) (fun c1_ => ?_)
    · replace hF := ZtP c1_ hF
      exact w_X10_since_b16 S hr hlk hR hdj _ _ _ _ _ hF hw hzz hx1 (lv_sub hl [0, 1] rfl)
    · replace hF := ZtN c1_ hF
      refine lv_iload_n S.1 S.2.1 dX10_since_4 rfl (lv_at hl 1 rfl) ?_
      refine lv_iconst (v := i32 1) S.1 S.2.1 dX10_since_5 ic_1 ?_
      refine Yicmp_eq (tgt := 16) S hx1 r_1 dX10_since_6 (by decide) (fun c2_ => ?_) (fun c2_ => ?_)
      · replace hF := ZtP c2_ hF
        exact w_X10_since_b16 S hr hlk hR hdj _ _ _ _ _ hF hw hzz hx1 (lv_sub hl [0, 1] rfl)
      · replace hF := ZtN c2_ hF
        refine lv_aload_n S.1 S.2.1 dX10_since_9 rfl (lv_at hl 0 rfl) ?_
        refine lv_bipush (v := i32 (-2)) S.1 S.2.1 dX10_since_10 bp_m2 ?_
        obtain ⟨r5_, z3_, h4_, hF⟩ := Ybs hF
        refine YcallVi (rest := []) S hw (c_X10_refuse hdj hzz r_m2 h4_) my_X10_refuse mi_X10_refuse ml_X10_81 zd_0 zc_X10 rfl (Zrr hR (by decide)) ⟨Nat.zero_le _, Nat.zero_le _⟩ hl.1 rfl rfl (Nat.le_of_ble_eq_true rfl) dX10_since_12 (fun hrr5_ hzz3_ H locs hw => ?_)
        exact Yireti S hw hzz3_ hrr5_ hr hlk hF dX10_since_15)
set_option maxRecDepth 100000 in
set_option maxHeartbeats 4000000 in
theorem w_X10_state_b26 {RR : Int × ZI} (S : CallFix p m c cX10_state 3 s args Ztbl RX10) (hr : meth.sig.returnType = some .int) (hlk : meth.locks = false) (hR : 1 ≤ R.frames ∧ 60 * (1) ≤ R.locals) (hdj : Zdj ad) : ∀ (z : ZI) (H : Heap) (locs : List Loc) (ls : Array Slot), X10_state_b26 z  = some RR → ZW D cA ad (ZA ad) (Zc z) s H locs → Zok z → lv_has ls 3 [(0, .ref (ad 0))] → W p l e R s m args below meth c H locs 0 0 (MQ below (YQi D cA ad RR.1 RR.2) args s 0 0 (ZA ad)) (F0 m 26 ls []) := by
  intro z  H locs ls hF hw hzz  hl
  unfold X10_state_b26 at hF
  refine lv_aload_n S.1 S.2.1 dX10_state_26 rfl (lv_at hl 0 rfl) ?_
  refine lv_bipush (v := i32 (-2)) S.1 S.2.1 dX10_state_27 bp_m2 ?_
  obtain ⟨r3_, z1_, h2_, hF⟩ := Ybs hF
  refine YcallVi (rest := []) S hw (c_X10_refuse hdj hzz r_m2 h2_) my_X10_refuse mi_X10_refuse ml_X10_81 zd_0 zc_X10 rfl (Zrr hR (by decide)) ⟨Nat.zero_le _, Nat.zero_le _⟩ hl.1 rfl rfl (Nat.le_of_ble_eq_true rfl) dX10_state_29 (fun hrr3_ hzz1_ H locs hw => ?_)
  exact Yireti S hw hzz1_ hrr3_ hr hlk hF dX10_state_32
set_option maxRecDepth 100000 in
set_option maxHeartbeats 4000000 in
theorem c_X10_state {l : Launch} {D : va_G} {cA : Nat → ClassId} {ad : Nat → Nat} (hdj : Zdj ad) {z z1 : ZI} {x1 : Int} {x2 : Int} {r : Int} (hzz : Zok z) (hx1 : InR x1) (hx2 : InR x2) (hF : F_X10_state z x1 x2 = some (r, z1)) : YMi l D cA ad (1) yX10_state cX10_state 3 (some .int) [.ref (ad 0), .int (i32 x1), .int (i32 x2)] z r z1 :=
  Zmet hdj (by decide) rfl (Nat.le_of_ble_eq_true rfl) (lv := [(0, .ref (ad 0)), (1, .int (i32 (x1))), (2, .int (i32 (x2)))]) rfl (fun p e s m args below meth c ls S hr hlk hw hl => by
    have hR : 1 ≤ (Zrm (1)).frames ∧ 60 * (1) ≤ (Zrm (1)).locals := ⟨Nat.le_refl _, Nat.le_refl _⟩
    unfold F_X10_state at hF
    revert hR
    generalize Zrm (1) = R
    intro hR
    refine lv_aload_n S.1 S.2.1 dX10_state_0 rfl (lv_at hl 0 rfl) ?_
    refine gf_X10_27 S hw dX10_state_1 ?_
    refine lv_iload_n S.1 S.2.1 dX10_state_4 rfl (lv_at hl 1 rfl) ?_
    obtain ⟨r3_, z1_, h2_, hF⟩ := Ybs hF
    refine YcallVi (rest := []) S hw (c_X3_hasPerson hdj hzz hx1 h2_) my_X3_hasPerson mi_X3_hasPerson ml_X10_126 zd_11 zc_X3 rfl (Zrr hR (by decide)) ⟨Nat.zero_le _, Nat.zero_le _⟩ hl.1 rfl rfl (Nat.le_of_ble_eq_true rfl) dX10_state_5 (fun hrr3_ hzz1_ H locs hw => ?_)
    refine Yif_ne (tgt := 17) S hrr3_ dX10_state_8 (by decide) (fun c4_ => ?_) (fun c4_ => ?_)
    · replace hF := ZtN c4_ hF
      refine lv_iload_n S.1 S.2.1 dX10_state_17 rfl (lv_at hl 2 rfl) ?_
      refine Yif_lt (tgt := 26) S hx2 dX10_state_18 (by decide) (fun c5_ => ?_) (fun c5_ => ?_)
      · replace hF := ZtP c5_ hF
        exact w_X10_state_b26 S hr hlk hR hdj _ _ _ _ hF hw hzz1_  (lv_sub hl [0] rfl)
      · replace hF := ZtN c5_ hF
        refine lv_iload_n S.1 S.2.1 dX10_state_21 rfl (lv_at hl 2 rfl) ?_
        refine lv_iconst (v := i32 5) S.1 S.2.1 dX10_state_22 ic_5 ?_
        refine Yicmp_lt (tgt := 33) S hx2 r_5 dX10_state_23 (by decide) (fun c6_ => ?_) (fun c6_ => ?_)
        · replace hF := ZtP c6_ hF
          refine lv_aload_n S.1 S.2.1 dX10_state_33 rfl (lv_at hl 0 rfl) ?_
          refine gf_X10_27 S hw dX10_state_34 ?_
          refine lv_iload_n S.1 S.2.1 dX10_state_37 rfl (lv_at hl 1 rfl) ?_
          refine lv_aload_n S.1 S.2.1 dX10_state_38 rfl (lv_at hl 0 rfl) ?_
          refine gg_X10_7 S hw dX10_state_39 ?_
          obtain ⟨r9_, z7_, h8_, hF⟩ := Ybs hF
          refine YcallVi (rest := []) S hw (c_X3_stateOn hdj hzz1_ hx1 (hzz1_.1 0 0 (by decide)) h8_) my_X3_stateOn mi_X3_stateOn ml_X10_129 zd_11 zc_X3 rfl (Zrr hR (by decide)) ⟨Nat.zero_le _, Nat.zero_le _⟩ hl.1 rfl rfl (Nat.le_of_ble_eq_true rfl) dX10_state_42 (fun hrr9_ hzz7_ H locs hw => ?_)
          refine lv_iconst (v := i32 4) S.1 S.2.1 dX10_state_45 ic_4 ?_
          refine Yicmp_ne (tgt := 56) S hrr9_ r_4 dX10_state_46 (by decide) (fun c10_ => ?_) (fun c10_ => ?_)
          · replace hF := ZtN c10_ hF
            refine lv_aload_n S.1 S.2.1 dX10_state_56 rfl (lv_at hl 0 rfl) ?_
            refine gf_X10_27 S hw dX10_state_57 ?_
            refine gg_X10_132 S hw dX10_state_60 ?_
            refine lv_sipush (v := i32 150) S.1 S.2.1 dX10_state_63 sp_150 ?_
            refine Yicmp_lt (tgt := 76) S (hzz7_.1 11 10 (by decide)) r_150 dX10_state_66 (by decide) (fun c11_ => ?_) (fun c11_ => ?_)
            · replace hF := ZtP c11_ hF
              refine lv_aload_n S.1 S.2.1 dX10_state_76 rfl (lv_at hl 0 rfl) ?_
              refine gf_X10_55 S hw dX10_state_77 ?_
              obtain ⟨r14_, z12_, h13_, hF⟩ := Ybs hF
              refine YcallVv (rest := []) S hw (c_X9_forgetBest hdj hzz7_  h13_) my_X9_forgetBest mi_X9_forgetBest ml_X10_109 zd_41 zc_X9 rfl (Zrr hR (by decide)) ⟨Nat.zero_le _, Nat.zero_le _⟩ hl.1 rfl rfl (Nat.le_of_ble_eq_true rfl) dX10_state_80 (fun hzz12_ H locs hw => ?_)
              refine lv_aload_n S.1 S.2.1 dX10_state_83 rfl (lv_at hl 0 rfl) ?_
              refine gf_X10_27 S hw dX10_state_84 ?_
              refine lv_iload_n S.1 S.2.1 dX10_state_87 rfl (lv_at hl 1 rfl) ?_
              refine lv_iload_n S.1 S.2.1 dX10_state_88 rfl (lv_at hl 2 rfl) ?_
              refine lv_aload_n S.1 S.2.1 dX10_state_89 rfl (lv_at hl 0 rfl) ?_
              refine gg_X10_7 S hw dX10_state_90 ?_
              obtain ⟨r17_, z15_, h16_, hF⟩ := Ybs hF
              refine YcallVi (rest := []) S hw (c_X3_tell hdj hzz12_ hx1 hx2 (hzz12_.1 0 0 (by decide)) h16_) my_X3_tell mi_X3_tell ml_X10_135 zd_11 zc_X3 rfl (Zrr hR (by decide)) ⟨Nat.zero_le _, Nat.zero_le _⟩ hl.1 rfl rfl (Nat.le_of_ble_eq_true rfl) dX10_state_93 (fun hrr17_ hzz15_ H locs hw => ?_)
              exact Yireti S hw hzz15_ hrr17_ hr hlk hF dX10_state_96
            · replace hF := ZtN c11_ hF
              refine lv_aload_n S.1 S.2.1 dX10_state_69 rfl (lv_at hl 0 rfl) ?_
              refine lv_bipush (v := i32 (-6)) S.1 S.2.1 dX10_state_70 bp_m6 ?_
              obtain ⟨r20_, z18_, h19_, hF⟩ := Ybs hF
              refine YcallVi (rest := []) S hw (c_X10_refuse hdj hzz7_ r_m6 h19_) my_X10_refuse mi_X10_refuse ml_X10_81 zd_0 zc_X10 rfl (Zrr hR (by decide)) ⟨Nat.zero_le _, Nat.zero_le _⟩ hl.1 rfl rfl (Nat.le_of_ble_eq_true rfl) dX10_state_72 (fun hrr20_ hzz18_ H locs hw => ?_)
              exact Yireti S hw hzz18_ hrr20_ hr hlk hF dX10_state_75
          · replace hF := ZtP c10_ hF
            refine lv_aload_n S.1 S.2.1 dX10_state_49 rfl (lv_at hl 0 rfl) ?_
            refine lv_bipush (v := i32 (-3)) S.1 S.2.1 dX10_state_50 bp_m3 ?_
            obtain ⟨r23_, z21_, h22_, hF⟩ := Ybs hF
            refine YcallVi (rest := []) S hw (c_X10_refuse hdj hzz7_ r_m3 h22_) my_X10_refuse mi_X10_refuse ml_X10_81 zd_0 zc_X10 rfl (Zrr hR (by decide)) ⟨Nat.zero_le _, Nat.zero_le _⟩ hl.1 rfl rfl (Nat.le_of_ble_eq_true rfl) dX10_state_52 (fun hrr23_ hzz21_ H locs hw => ?_)
            exact Yireti S hw hzz21_ hrr23_ hr hlk hF dX10_state_55
        · replace hF := ZtN c6_ hF
          exact w_X10_state_b26 S hr hlk hR hdj _ _ _ _ hF hw hzz1_  (lv_sub hl [0] rfl)
    · replace hF := ZtP c4_ hF
      refine lv_aload_n S.1 S.2.1 dX10_state_11 rfl (lv_at hl 0 rfl) ?_
      refine lv_iconst (v := i32 (-1)) S.1 S.2.1 dX10_state_12 ic_m1 ?_
      obtain ⟨r26_, z24_, h25_, hF⟩ := Ybs hF
      refine YcallVi (rest := []) S hw (c_X10_refuse hdj hzz1_ r_m1 h25_) my_X10_refuse mi_X10_refuse ml_X10_81 zd_0 zc_X10 rfl (Zrr hR (by decide)) ⟨Nat.zero_le _, Nat.zero_le _⟩ hl.1 rfl rfl (Nat.le_of_ble_eq_true rfl) dX10_state_13 (fun hrr26_ hzz24_ H locs hw => ?_)
      exact Yireti S hw hzz24_ hrr26_ hr hlk hF dX10_state_16)
set_option maxRecDepth 100000 in
set_option maxHeartbeats 4000000 in
theorem w_X10_stateOf_b47 {RR : Int × ZI} (S : CallFix p m c cX10_stateOf 4 s args Ztbl RX10) (hr : meth.sig.returnType = some .int) (hlk : meth.locks = false) (hR : 1 ≤ R.frames ∧ 60 * (1) ≤ R.locals) (hdj : Zdj ad) : ∀ (z : ZI) (y0 : Int) (H : Heap) (locs : List Loc) (ls : Array Slot), X10_stateOf_b47 z y0 = some RR → ZW D cA ad (ZA ad) (Zc z) s H locs → Zok z → InR y0 → lv_has ls 4 [] → W p l e R s m args below meth c H locs 0 0 (MQ below (YQi D cA ad RR.1 RR.2) args s 0 0 (ZA ad)) (F0 m 47 ls [.int (i32 (y0))]) := by
  intro z y0 H locs ls hF hw hzz hy0 hl
  unfold X10_stateOf_b47 at hF
  exact Yireti S hw hzz hy0 hr hlk hF dX10_stateOf_47
set_option maxRecDepth 100000 in
set_option maxHeartbeats 4000000 in
theorem c_X10_stateOf {l : Launch} {D : va_G} {cA : Nat → ClassId} {ad : Nat → Nat} (hdj : Zdj ad) {z z1 : ZI} {x1 : Int} {x2 : Int} {r : Int} (hzz : Zok z) (hx1 : InR x1) (hx2 : InR x2) (hF : F_X10_stateOf z x1 x2 = some (r, z1)) : YMi l D cA ad (1) yX10_stateOf cX10_stateOf 4 (some .int) [.ref (ad 0), .int (i32 x1), .int (i32 x2)] z r z1 :=
  Zmet hdj (by decide) rfl (Nat.le_of_ble_eq_true rfl) (lv := [(0, .ref (ad 0)), (1, .int (i32 (x1))), (2, .int (i32 (x2)))]) rfl (fun p e s m args below meth c ls S hr hlk hw hl => by
    have hR : 1 ≤ (Zrm (1)).frames ∧ 60 * (1) ≤ (Zrm (1)).locals := ⟨Nat.le_refl _, Nat.le_refl _⟩
    unfold F_X10_stateOf at hF
    revert hR
    generalize Zrm (1) = R
    intro hR
    refine lv_aload_n S.1 S.2.1 dX10_stateOf_0 rfl (lv_at hl 0 rfl) ?_
    refine gf_X10_27 S hw dX10_stateOf_1 ?_
    refine lv_iload_n S.1 S.2.1 dX10_stateOf_4 rfl (lv_at hl 1 rfl) ?_
    obtain ⟨r3_, z1_, h2_, hF⟩ := Ybs hF
    refine YcallVi (rest := []) S hw (c_X3_hasPerson hdj hzz hx1 h2_) my_X3_hasPerson mi_X3_hasPerson ml_X10_126 zd_11 zc_X3 rfl (Zrr hR (by decide)) ⟨Nat.zero_le _, Nat.zero_le _⟩ hl.1 rfl rfl (Nat.le_of_ble_eq_true rfl) dX10_stateOf_5 (fun hrr3_ hzz1_ H locs hw => ?_)
    refine Yif_ne (tgt := 17) S hrr3_ dX10_stateOf_8 (by decide) (fun c4_ => ?_) (fun c4_ => ?_)
    · replace hF := ZtN c4_ hF
      refine lv_iload_n S.1 S.2.1 dX10_stateOf_17 rfl (lv_at hl 2 rfl) ?_
      refine lv_iconst (v := i32 0) S.1 S.2.1 dX10_stateOf_18 ic_0 ?_
      refine lv_sipush (v := i32 999) S.1 S.2.1 dX10_stateOf_19 sp_999 ?_
      obtain ⟨r7_, z5_, h6_, hF⟩ := Ybs hF
      refine YcallSi (rest := []) S hw (c_X10_checkRange hdj hzz1_ hx2 r_0 r_999 h6_) my_X10_checkRange ms_X10_checkRange ml_X10_85 (Zrr hR (by decide)) ⟨Nat.zero_le _, Nat.zero_le _⟩ hl.1 rfl rfl (Nat.le_of_ble_eq_true rfl) dX10_stateOf_22 (fun hrr7_ hzz5_ H locs hw => ?_)
      refine lv_istore_n (lv' := [(3, .int (i32 (r7_))), (0, .ref (ad 0)), (1, .int (i32 (x1))), (2, .int (i32 (x2)))]) S.1 S.2.1 dX10_stateOf_25 rfl hl (by decide) rfl (fun ls hl => ?_)
      refine lv_iload_n S.1 S.2.1 dX10_stateOf_26 rfl (lv_at hl 0 rfl) ?_
      refine Yif_ne (tgt := 42) S hrr7_ dX10_stateOf_27 (by decide) (fun c8_ => ?_) (fun c8_ => ?_)
      · replace hF := ZtN c8_ hF
        refine lv_aload_n S.1 S.2.1 dX10_stateOf_42 rfl (lv_at hl 1 rfl) ?_
        refine lv_iload_n S.1 S.2.1 dX10_stateOf_43 rfl (lv_at hl 0 rfl) ?_
        obtain ⟨r11_, z9_, h10_, hF⟩ := Ybs hF
        refine YcallVi (rest := []) S hw (c_X10_refuse hdj hzz5_ hrr7_ h10_) my_X10_refuse mi_X10_refuse ml_X10_81 zd_0 zc_X10 rfl (Zrr hR (by decide)) ⟨Nat.zero_le _, Nat.zero_le _⟩ hl.1 rfl rfl (Nat.le_of_ble_eq_true rfl) dX10_stateOf_44 (fun hrr11_ hzz9_ H locs hw => ?_)
        exact w_X10_stateOf_b47 S hr hlk hR hdj _ _ _ _ _ hF hw hzz9_ hrr11_ (lv_sub hl [] rfl)
      · replace hF := ZtP c8_ hF
        refine lv_aload_n S.1 S.2.1 dX10_stateOf_30 rfl (lv_at hl 1 rfl) ?_
        refine gf_X10_27 S hw dX10_stateOf_31 ?_
        refine lv_iload_n S.1 S.2.1 dX10_stateOf_34 rfl (lv_at hl 2 rfl) ?_
        refine lv_iload_n S.1 S.2.1 dX10_stateOf_35 rfl (lv_at hl 3 rfl) ?_
        obtain ⟨r14_, z12_, h13_, hF⟩ := Ybs hF
        refine YcallVi (rest := []) S hw (c_X3_stateOn hdj hzz5_ hx1 hx2 h13_) my_X3_stateOn mi_X3_stateOn ml_X10_129 zd_11 zc_X3 rfl (Zrr hR (by decide)) ⟨Nat.zero_le _, Nat.zero_le _⟩ hl.1 rfl rfl (Nat.le_of_ble_eq_true rfl) dX10_stateOf_36 (fun hrr14_ hzz12_ H locs hw => ?_)
        refine lv_goto (tgt := 47) S.1 S.2.1 dX10_stateOf_39 (by decide) ?_
        exact w_X10_stateOf_b47 S hr hlk hR hdj _ _ _ _ _ hF hw hzz12_ hrr14_ (lv_sub hl [] rfl)
    · replace hF := ZtP c4_ hF
      refine lv_aload_n S.1 S.2.1 dX10_stateOf_11 rfl (lv_at hl 0 rfl) ?_
      refine lv_iconst (v := i32 (-1)) S.1 S.2.1 dX10_stateOf_12 ic_m1 ?_
      obtain ⟨r17_, z15_, h16_, hF⟩ := Ybs hF
      refine YcallVi (rest := []) S hw (c_X10_refuse hdj hzz1_ r_m1 h16_) my_X10_refuse mi_X10_refuse ml_X10_81 zd_0 zc_X10 rfl (Zrr hR (by decide)) ⟨Nat.zero_le _, Nat.zero_le _⟩ hl.1 rfl rfl (Nat.le_of_ble_eq_true rfl) dX10_stateOf_13 (fun hrr17_ hzz15_ H locs hw => ?_)
      exact Yireti S hw hzz15_ hrr17_ hr hlk hF dX10_stateOf_16)
set_option maxRecDepth 100000 in
set_option maxHeartbeats 4000000 in
theorem w_X3_hereInAll_b24 {RR : Int × ZI} (S : CallFix p m c cX3_hereInAll 4 s args Ztbl RX3) (hr : meth.sig.returnType = some .int) (hlk : meth.locks = false) (hR : 2 ≤ R.frames ∧ 60 * (2) ≤ R.locals) (hdj : Zdj ad) {k4 : ZI → Int → Int → Int → Option (Int × ZI)} (hk4 : ∀ (z : ZI) (x1 : Int) (x2 : Int) (x3 : Int) (H : Heap) (locs : List Loc) (ls : Array Slot), k4 z x1 x2 x3 = some RR → ZW D cA ad (ZA ad) (Zc z) s H locs → Zok z → InR x1 → InR x2 → InR x3 → lv_has ls 4 [(0, .ref (ad 11)), (1, .int (i32 (x1))), (2, .int (i32 (x2))), (3, .int (i32 (x3)))] → W p l e R s m args below meth c H locs 0 0 (MQ below (YQi D cA ad RR.1 RR.2) args s 0 0 (ZA ad)) (F0 m 4 ls [])) : ∀ (z : ZI) (x1 : Int) (x2 : Int) (x3 : Int) (H : Heap) (locs : List Loc) (ls : Array Slot), X3_hereInAll_b24 k4 z x1 x2 x3 = some RR → ZW D cA ad (ZA ad) (Zc z) s H locs → Zok z → InR x1 → InR x2 → InR x3 → lv_has ls 4 [(0, .ref (ad 11)), (1, .int (i32 (x1))), (2, .int (i32 (x2))), (3, .int (i32 (x3)))] → W p l e R s m args below meth c H locs 0 0 (MQ below (YQi D cA ad RR.1 RR.2) args s 0 0 (ZA ad)) (F0 m 24 ls []) := by
  intro z x1 x2 x3 H locs ls hF hw hzz hx1 hx2 hx3 hl
  unfold X3_hereInAll_b24 at hF
  obtain ⟨g1_, hF⟩ := Zgs hF
  refine lv_iinc (v := i32 (x3 + 1)) (lv' := [(3, .int (i32 (x3 + 1))), (0, .ref (ad 11)), (1, .int (i32 (x1))), (2, .int (i32 (x2)))]) S.1 S.2.1 dX3_hereInAll_24 hl (k := 3) rfl Yiinc (by decide) rfl (fun ls hl => ?_)
  refine lv_goto (tgt := 4) S.1 S.2.1 dX3_hereInAll_27 (by decide) ?_
  exact hk4 _ _ _ _ _ _ _ hF hw hzz hx1 hx2 g1_ (lv_sub hl [1, 2, 3, 0] rfl)
set_option maxRecDepth 100000 in
set_option maxHeartbeats 4000000 in
theorem w_X3_hereInAll_L4 {RR : Int × ZI} (S : CallFix p m c cX3_hereInAll 4 s args Ztbl RX3) (hr : meth.sig.returnType = some .int) (hlk : meth.locks = false) (hR : 2 ≤ R.frames ∧ 60 * (2) ≤ R.locals) (hdj : Zdj ad) : ∀ (n : Nat) (z : ZI) (x1 : Int) (x2 : Int) (x3 : Int) (H : Heap) (locs : List Loc) (ls : Array Slot), X3_hereInAll_L4 n z x1 x2 x3 = some RR → ZW D cA ad (ZA ad) (Zc z) s H locs → Zok z → InR x1 → InR x2 → InR x3 → lv_has ls 4 [(0, .ref (ad 11)), (1, .int (i32 (x1))), (2, .int (i32 (x2))), (3, .int (i32 (x3)))] → W p l e R s m args below meth c H locs 0 0 (MQ below (YQi D cA ad RR.1 RR.2) args s 0 0 (ZA ad)) (F0 m 4 ls []) := by
  intro n
  induction n with
  | zero => intro z x1 x2 x3 H locs ls hF; exact nomatch hF
  | succ n hk4 =>
    intro z x1 x2 x3 H locs ls hF hw hzz hx1 hx2 hx3 hl
    replace hF : X3_hereInAll_L4b (X3_hereInAll_L4 n) z x1 x2 x3 = some RR := hF
    unfold X3_hereInAll_L4b at hF
    refine lv_iload_n S.1 S.2.1 dX3_hereInAll_4 rfl (lv_at hl 3 rfl) ?_
    refine lv_aload_n S.1 S.2.1 dX3_hereInAll_5 rfl (lv_at hl 0 rfl) ?_
    refine gg_X3_59 S hw dX3_hereInAll_6 ?_
    refine Yicmp_ge (tgt := 30) S hx3 (hzz.1 11 4 (by decide)) dX3_hereInAll_9 (by decide) (fun c1_ => ?_) (fun c1_ => ?_)
    · replace hF := ZtP c1_ hF
      refine lv_iload_n S.1 S.2.1 dX3_hereInAll_30 rfl (lv_at hl 2 rfl) ?_
      exact Yireti S hw hzz hx2 hr hlk hF dX3_hereInAll_31
    · replace hF := ZtN c1_ hF
      refine lv_aload_n S.1 S.2.1 dX3_hereInAll_12 rfl (lv_at hl 0 rfl) ?_
      refine lv_iload_n S.1 S.2.1 dX3_hereInAll_13 rfl (lv_at hl 3 rfl) ?_
      refine lv_iload_n S.1 S.2.1 dX3_hereInAll_14 rfl (lv_at hl 1 rfl) ?_
      obtain ⟨r4_, z2_, h3_, hF⟩ := Ybs hF
      refine YcallVi (rest := []) S hw (c_X3_isHere hdj hzz hx3 hx1 h3_) my_X3_isHere mi_X3_isHere ml_X3_69 zd_11 zc_X3 rfl (Zrr hR (by decide)) ⟨Nat.zero_le _, Nat.zero_le _⟩ hl.1 rfl rfl (Nat.le_of_ble_eq_true rfl) dX3_hereInAll_15 (fun hrr4_ hzz2_ H locs hw => ?_)
      refine Yif_eq (tgt := 24) S hrr4_ dX3_hereInAll_18 (by decide) (fun c5_ => ?_) (fun c5_ => ?_)
      · replace hF := ZtP c5_ hF
        exact w_X3_hereInAll_b24 S hr hlk hR hdj hk4 _ _ _ _ _ _ _ hF hw hzz2_ hx1 hx2 hx3 (lv_sub hl [0, 1, 2, 3] rfl)
      · replace hF := ZtN c5_ hF
        obtain ⟨g6_, hF⟩ := Zgs hF
        refine lv_iinc (v := i32 (x2 + 1)) (lv' := [(2, .int (i32 (x2 + 1))), (0, .ref (ad 11)), (1, .int (i32 (x1))), (3, .int (i32 (x3)))]) S.1 S.2.1 dX3_hereInAll_21 hl (k := 2) rfl Yiinc (by decide) rfl (fun ls hl => ?_)
        exact w_X3_hereInAll_b24 S hr hlk hR hdj hk4 _ _ _ _ _ _ _ hF hw hzz2_ hx1 g6_ hx3 (lv_sub hl [1, 2, 0, 3] rfl)
set_option maxRecDepth 100000 in
set_option maxHeartbeats 4000000 in
theorem c_X3_hereInAll {l : Launch} {D : va_G} {cA : Nat → ClassId} {ad : Nat → Nat} (hdj : Zdj ad) {z z1 : ZI} {x1 : Int} {r : Int} (hzz : Zok z) (hx1 : InR x1) (hF : F_X3_hereInAll z x1 = some (r, z1)) : YMi l D cA ad (2) yX3_hereInAll cX3_hereInAll 4 (some .int) [.ref (ad 11), .int (i32 x1)] z r z1 :=
  Zmet hdj (by decide) rfl (Nat.le_of_ble_eq_true rfl) (lv := [(0, .ref (ad 11)), (1, .int (i32 (x1)))]) rfl (fun p e s m args below meth c ls S hr hlk hw hl => by
    have hR : 2 ≤ (Zrm (2)).frames ∧ 60 * (2) ≤ (Zrm (2)).locals := ⟨Nat.le_refl _, Nat.le_refl _⟩
    unfold F_X3_hereInAll at hF
    revert hR
    generalize Zrm (2) = R
    intro hR
    refine lv_iconst (v := i32 0) S.1 S.2.1 dX3_hereInAll_0 ic_0 ?_
    refine lv_istore_n (lv' := [(2, .int (i32 (0))), (0, .ref (ad 11)), (1, .int (i32 (x1)))]) S.1 S.2.1 dX3_hereInAll_1 rfl hl (by decide) rfl (fun ls hl => ?_)
    refine lv_iconst (v := i32 0) S.1 S.2.1 dX3_hereInAll_2 ic_0 ?_
    refine lv_istore_n (lv' := [(3, .int (i32 (0))), (2, .int (i32 (0))), (0, .ref (ad 11)), (1, .int (i32 (x1)))]) S.1 S.2.1 dX3_hereInAll_3 rfl hl (by decide) rfl (fun ls hl => ?_)
    exact w_X3_hereInAll_L4 S hr hlk hR hdj Zfuel _ _ _ _ _ _ _ hF hw hzz hx1 r_0 r_0 (lv_sub hl [2, 3, 1, 0] rfl))
set_option maxRecDepth 100000 in
set_option maxHeartbeats 4000000 in
theorem w_X10_total_b179 {RR : Int × ZI} (S : CallFix p m c cX10_total 3 s args Ztbl RX10) (hr : meth.sig.returnType = some .int) (hlk : meth.locks = false) (hR : 3 ≤ R.frames ∧ 60 * (3) ≤ R.locals) (hdj : Zdj ad) : ∀ (z : ZI) (y0 : Int) (H : Heap) (locs : List Loc) (ls : Array Slot), X10_total_b179 z y0 = some RR → ZW D cA ad (ZA ad) (Zc z) s H locs → Zok z → InR y0 → lv_has ls 3 [] → W p l e R s m args below meth c H locs 0 0 (MQ below (YQi D cA ad RR.1 RR.2) args s 0 0 (ZA ad)) (F0 m 179 ls [.int (i32 (y0))]) := by
  intro z y0 H locs ls hF hw hzz hy0 hl
  unfold X10_total_b179 at hF
  exact Yireti S hw hzz hy0 hr hlk hF dX10_total_179
set_option maxRecDepth 100000 in
set_option maxHeartbeats 4000000 in
theorem w_X10_total_b177 {RR : Int × ZI} (S : CallFix p m c cX10_total 3 s args Ztbl RX10) (hr : meth.sig.returnType = some .int) (hlk : meth.locks = false) (hR : 3 ≤ R.frames ∧ 60 * (3) ≤ R.locals) (hdj : Zdj ad) : ∀ (z : ZI) (H : Heap) (locs : List Loc) (ls : Array Slot), X10_total_b177 z  = some RR → ZW D cA ad (ZA ad) (Zc z) s H locs → Zok z → lv_has ls 3 [] → W p l e R s m args below meth c H locs 0 0 (MQ below (YQi D cA ad RR.1 RR.2) args s 0 0 (ZA ad)) (F0 m 177 ls []) := by
  intro z  H locs ls hF hw hzz  hl
  unfold X10_total_b177 at hF
  refine lv_bipush (v := i32 (-9)) S.1 S.2.1 dX10_total_177 bp_m9 ?_
  exact w_X10_total_b179 S hr hlk hR hdj _ _ _ _ _ hF hw hzz r_m9 (lv_sub hl [] rfl)
set_option maxRecDepth 100000 in
set_option maxHeartbeats 4000000 in
theorem c_X10_total {l : Launch} {D : va_G} {cA : Nat → ClassId} {ad : Nat → Nat} (hdj : Zdj ad) {z z1 : ZI} {x1 : Int} {r : Int} (hzz : Zok z) (hx1 : InR x1) (hF : F_X10_total z x1 = some (r, z1)) : YMi l D cA ad (3) yX10_total cX10_total 3 (some .int) [.ref (ad 0), .int (i32 x1)] z r z1 :=
  Zmet hdj (by decide) rfl (Nat.le_of_ble_eq_true rfl) (lv := [(0, .ref (ad 0)), (1, .int (i32 (x1)))]) rfl (fun p e s m args below meth c ls S hr hlk hw hl => by
    have hR : 3 ≤ (Zrm (3)).frames ∧ 60 * (3) ≤ (Zrm (3)).locals := ⟨Nat.le_refl _, Nat.le_refl _⟩
    unfold F_X10_total at hF
    revert hR
    generalize Zrm (3) = R
    intro hR
    refine lv_iload_n S.1 S.2.1 dX10_total_0 rfl (lv_at hl 1 rfl) ?_
    by_cases c1_ : x1 = 0
    · replace hF := ZtP c1_ hF
      refine lv_tableIn (off := 59) (tgt := 60) S.1 S.2.1 dX10_total_1 (by rw [c1_]; decide +kernel) (by rw [c1_]; decide +kernel) (by rw [c1_]; decide +kernel) (by decide) ?_
      refine lv_aload_n S.1 S.2.1 dX10_total_60 rfl (lv_at hl 0 rfl) ?_
      refine gg_X10_7 S hw dX10_total_61 ?_
      exact Yireti S hw hzz (hzz.1 0 0 (by decide)) hr hlk hF dX10_total_64
    replace hF := ZtN c1_ hF
    by_cases c2_ : x1 = 1
    · replace hF := ZtP c2_ hF
      refine lv_tableIn (off := 64) (tgt := 65) S.1 S.2.1 dX10_total_1 (by rw [c2_]; decide +kernel) (by rw [c2_]; decide +kernel) (by rw [c2_]; decide +kernel) (by decide) ?_
      refine lv_aload_n S.1 S.2.1 dX10_total_65 rfl (lv_at hl 0 rfl) ?_
      refine gf_X10_27 S hw dX10_total_66 ?_
      refine gg_X10_106 S hw dX10_total_69 ?_
      exact Yireti S hw hzz (hzz.1 11 0 (by decide)) hr hlk hF dX10_total_72
    replace hF := ZtN c2_ hF
    by_cases c3_ : x1 = 2
    · replace hF := ZtP c3_ hF
      refine lv_tableIn (off := 72) (tgt := 73) S.1 S.2.1 dX10_total_1 (by rw [c3_]; decide +kernel) (by rw [c3_]; decide +kernel) (by rw [c3_]; decide +kernel) (by decide) ?_
      refine lv_aload_n S.1 S.2.1 dX10_total_73 rfl (lv_at hl 0 rfl) ?_
      refine gf_X10_27 S hw dX10_total_74 ?_
      refine gg_X10_119 S hw dX10_total_77 ?_
      exact Yireti S hw hzz (hzz.1 11 4 (by decide)) hr hlk hF dX10_total_80
    replace hF := ZtN c3_ hF
    by_cases c4_ : x1 = 3
    · replace hF := ZtP c4_ hF
      refine lv_tableIn (off := 80) (tgt := 81) S.1 S.2.1 dX10_total_1 (by rw [c4_]; decide +kernel) (by rw [c4_]; decide +kernel) (by rw [c4_]; decide +kernel) (by decide) ?_
      refine lv_aload_n S.1 S.2.1 dX10_total_81 rfl (lv_at hl 0 rfl) ?_
      refine gf_X10_27 S hw dX10_total_82 ?_
      refine lv_aload_n S.1 S.2.1 dX10_total_85 rfl (lv_at hl 0 rfl) ?_
      refine gg_X10_7 S hw dX10_total_86 ?_
      obtain ⟨r7_, z5_, h6_, hF⟩ := Ybs hF
      refine YcallVi (rest := []) S hw (c_X3_hereInAll hdj hzz (hzz.1 0 0 (by decide)) h6_) my_X3_hereInAll mi_X3_hereInAll ml_X10_320 zd_11 zc_X3 rfl (Zrr hR (by decide)) ⟨Nat.zero_le _, Nat.zero_le _⟩ hl.1 rfl rfl (Nat.le_of_ble_eq_true rfl) dX10_total_89 (fun hrr7_ hzz5_ H locs hw => ?_)
      exact Yireti S hw hzz5_ hrr7_ hr hlk hF dX10_total_92
    replace hF := ZtN c4_ hF
    by_cases c8_ : x1 = 4
    · replace hF := ZtP c8_ hF
      refine lv_tableIn (off := 92) (tgt := 93) S.1 S.2.1 dX10_total_1 (by rw [c8_]; decide +kernel) (by rw [c8_]; decide +kernel) (by rw [c8_]; decide +kernel) (by decide) ?_
      refine lv_aload_n S.1 S.2.1 dX10_total_93 rfl (lv_at hl 0 rfl) ?_
      refine gf_X10_41 S hw dX10_total_94 ?_
      obtain ⟨r11_, z9_, h10_, hF⟩ := Ybs hF
      refine YcallVi (rest := []) S hw (c_X0_notEnded hdj hzz  h10_) my_X0_notEnded mi_X0_notEnded ml_X10_323 zd_33 zc_X0 rfl (Zrr hR (by decide)) ⟨Nat.zero_le _, Nat.zero_le _⟩ hl.1 rfl rfl (Nat.le_of_ble_eq_true rfl) dX10_total_97 (fun hrr11_ hzz9_ H locs hw => ?_)
      exact Yireti S hw hzz9_ hrr11_ hr hlk hF dX10_total_100
    replace hF := ZtN c8_ hF
    by_cases c12_ : x1 = 5
    · replace hF := ZtP c12_ hF
      refine lv_tableIn (off := 100) (tgt := 101) S.1 S.2.1 dX10_total_1 (by rw [c12_]; decide +kernel) (by rw [c12_]; decide +kernel) (by rw [c12_]; decide +kernel) (by decide) ?_
      refine lv_aload_n S.1 S.2.1 dX10_total_101 rfl (lv_at hl 0 rfl) ?_
      refine gf_X10_48 S hw dX10_total_102 ?_
      refine gg_X10_191 S hw dX10_total_105 ?_
      exact Yireti S hw hzz (hzz.1 37 0 (by decide)) hr hlk hF dX10_total_108
    replace hF := ZtN c12_ hF
    by_cases c13_ : x1 = 6
    · replace hF := ZtP c13_ hF
      refine lv_tableIn (off := 108) (tgt := 109) S.1 S.2.1 dX10_total_1 (by rw [c13_]; decide +kernel) (by rw [c13_]; decide +kernel) (by rw [c13_]; decide +kernel) (by decide) ?_
      refine lv_aload_n S.1 S.2.1 dX10_total_109 rfl (lv_at hl 0 rfl) ?_
      refine gf_X10_55 S hw dX10_total_110 ?_
      refine gg_X10_214 S hw dX10_total_113 ?_
      exact Yireti S hw hzz (hzz.1 41 0 (by decide)) hr hlk hF dX10_total_116
    replace hF := ZtN c13_ hF
    by_cases c14_ : x1 = 7
    · replace hF := ZtP c14_ hF
      refine lv_tableIn (off := 116) (tgt := 117) S.1 S.2.1 dX10_total_1 (by rw [c14_]; decide +kernel) (by rw [c14_]; decide +kernel) (by rw [c14_]; decide +kernel) (by decide) ?_
      refine lv_aload_n S.1 S.2.1 dX10_total_117 rfl (lv_at hl 0 rfl) ?_
      refine gf_X10_20 S hw dX10_total_118 ?_
      refine gg_X10_240 S hw dX10_total_121 ?_
      exact Yireti S hw hzz (hzz.1 2 2 (by decide)) hr hlk hF dX10_total_124
    replace hF := ZtN c14_ hF
    by_cases c15_ : x1 = 8
    · replace hF := ZtP c15_ hF
      refine lv_tableIn (off := 124) (tgt := 125) S.1 S.2.1 dX10_total_1 (by rw [c15_]; decide +kernel) (by rw [c15_]; decide +kernel) (by rw [c15_]; decide +kernel) (by decide) ?_
      refine lv_aload_n S.1 S.2.1 dX10_total_125 rfl (lv_at hl 0 rfl) ?_
      refine gf_X10_69 S hw dX10_total_126 ?_
      refine gg_X10_326 S hw dX10_total_129 ?_
      exact Yireti S hw hzz (hzz.1 59 0 (by decide)) hr hlk hF dX10_total_132
    replace hF := ZtN c15_ hF
    by_cases c16_ : x1 = 9
    · replace hF := ZtP c16_ hF
      refine lv_tableIn (off := 132) (tgt := 133) S.1 S.2.1 dX10_total_1 (by rw [c16_]; decide +kernel) (by rw [c16_]; decide +kernel) (by rw [c16_]; decide +kernel) (by decide) ?_
      refine lv_aload_n S.1 S.2.1 dX10_total_133 rfl (lv_at hl 0 rfl) ?_
      refine gf_X10_34 S hw dX10_total_134 ?_
      refine gg_X10_141 S hw dX10_total_137 ?_
      exact Yireti S hw hzz (hzz.1 24 1 (by decide)) hr hlk hF dX10_total_140
    replace hF := ZtN c16_ hF
    by_cases c17_ : x1 = 10
    · replace hF := ZtP c17_ hF
      refine lv_tableIn (off := 140) (tgt := 141) S.1 S.2.1 dX10_total_1 (by rw [c17_]; decide +kernel) (by rw [c17_]; decide +kernel) (by rw [c17_]; decide +kernel) (by decide) ?_
      refine lv_aload_n S.1 S.2.1 dX10_total_141 rfl (lv_at hl 0 rfl) ?_
      refine gf_X10_34 S hw dX10_total_142 ?_
      refine gg_X10_148 S hw dX10_total_145 ?_
      exact Yireti S hw hzz (hzz.1 24 2 (by decide)) hr hlk hF dX10_total_148
    replace hF := ZtN c17_ hF
    refine lv_tableOut (tgt := 149) S.1 S.2.1 dX10_total_1 (Ytout hx1 [0, 1, 2, 3, 4, 5, 6, 7, 8, 9, 10] (by decide) (List.forall_mem_cons.mpr ⟨c1_, (List.forall_mem_cons.mpr ⟨c2_, (List.forall_mem_cons.mpr ⟨c3_, (List.forall_mem_cons.mpr ⟨c4_, (List.forall_mem_cons.mpr ⟨c8_, (List.forall_mem_cons.mpr ⟨c12_, (List.forall_mem_cons.mpr ⟨c13_, (List.forall_mem_cons.mpr ⟨c14_, (List.forall_mem_cons.mpr ⟨c15_, (List.forall_mem_cons.mpr ⟨c16_, (List.forall_mem_cons.mpr ⟨c17_, (fun _ h9 => nomatch h9)⟩)⟩)⟩)⟩)⟩)⟩)⟩)⟩)⟩)⟩)⟩)) (by decide) ?_
    refine lv_iload_n S.1 S.2.1 dX10_total_149 rfl (lv_at hl 1 rfl) ?_
    refine lv_bipush (v := i32 10) S.1 S.2.1 dX10_total_150 bp_10 ?_
    refine Yisubw S dX10_total_152 ?_
    refine lv_istore_n (lv' := [(2, .int (i32 (w32 (x1 - 10)))), (0, .ref (ad 0)), (1, .int (i32 (x1)))]) S.1 S.2.1 dX10_total_153 rfl hl (by decide) rfl (fun ls hl => ?_)
    refine lv_iload_n S.1 S.2.1 dX10_total_154 rfl (lv_at hl 0 rfl) ?_
    refine lv_iconst (v := i32 1) S.1 S.2.1 dX10_total_155 ic_1 ?_
    refine Yicmp_lt (tgt := 177) S (w32_in _) r_1 dX10_total_156 (by decide) (fun c18_ => ?_) (fun c18_ => ?_)
    · replace hF := ZtP c18_ hF
      exact w_X10_total_b177 S hr hlk hR hdj _ _ _ _ hF hw hzz  (lv_sub hl [] rfl)
    · replace hF := ZtN c18_ hF
      refine lv_iload_n S.1 S.2.1 dX10_total_159 rfl (lv_at hl 0 rfl) ?_
      refine lv_aload_n S.1 S.2.1 dX10_total_160 rfl (lv_at hl 1 rfl) ?_
      refine gf_X10_13 S hw dX10_total_161 ?_
      refine Yalen S hw zd_1 dX10_total_164 ?_
      refine Yicmp_ge (tgt := 177) S (w32_in _) r_7 dX10_total_165 (by decide) (fun c19_ => ?_) (fun c19_ => ?_)
      · replace hF := ZtP c19_ hF
        exact w_X10_total_b177 S hr hlk hR hdj _ _ _ _ hF hw hzz  (lv_sub hl [] rfl)
      · replace hF := ZtN c19_ hF
        refine lv_aload_n S.1 S.2.1 dX10_total_168 rfl (lv_at hl 1 rfl) ?_
        refine gf_X10_13 S hw dX10_total_169 ?_
        refine lv_iload_n S.1 S.2.1 dX10_total_172 rfl (lv_at hl 0 rfl) ?_
        obtain ⟨b20_, hF⟩ := Zgs hF
        refine Yiald S hw zd_1 (by decide) (w32_in _) b20_ dX10_total_173 ?_
        refine lv_goto (tgt := 179) S.1 S.2.1 dX10_total_174 (by decide) ?_
        exact w_X10_total_b179 S hr hlk hR hdj _ _ _ _ _ hF hw hzz (hzz.1 _ _ (by decide)) (lv_sub hl [] rfl))
set_option maxRecDepth 100000 in
set_option maxHeartbeats 4000000 in
theorem c_X9_dig {l : Launch} {D : va_G} {cA : Nat → ClassId} {ad : Nat → Nat} (hdj : Zdj ad) {z z1 : ZI} {x1 : Int} {x2 : Int} {x3 : Int} {r : Int} (hzz : Zok z) (hx1 : InR x1) (hx2 : InR x2) (hx3 : InR x3) (hF : F_X9_dig z x1 x2 x3 = some (r, z1)) : YMi l D cA ad (0) yX9_dig cX9_dig 4 (some .int) [.ref (ad 41), .int (i32 x1), .int (i32 x2), .int (i32 x3)] z r z1 :=
  Zmet hdj (by decide) rfl (Nat.le_of_ble_eq_true rfl) (lv := [(0, .ref (ad 41)), (1, .int (i32 (x1))), (2, .int (i32 (x2))), (3, .int (i32 (x3)))]) rfl (fun p e s m args below meth c ls S hr hlk hw hl => by
    have hR : 0 ≤ (Zrm (0)).frames ∧ 60 * (0) ≤ (Zrm (0)).locals := ⟨Nat.le_refl _, Nat.le_refl _⟩
    unfold F_X9_dig at hF
    revert hR
    generalize Zrm (0) = R
    intro hR
    refine lv_aload_n S.1 S.2.1 dX9_dig_0 rfl (lv_at hl 0 rfl) ?_
    refine gf_X9_9 S hw dX9_dig_1 ?_
    refine lv_aload_n S.1 S.2.1 dX9_dig_4 rfl (lv_at hl 0 rfl) ?_
    refine gg_X9_54 S hw dX9_dig_5 ?_
    refine lv_iload_n S.1 S.2.1 dX9_dig_8 rfl (lv_at hl 1 rfl) ?_
    obtain ⟨b1_, hF⟩ := Zgs hF
    refine Yiast S hw hzz zd_42 (by decide) (hzz.1 41 0 (by decide)) hx1 b1_ dX9_dig_9 (fun z2_ H locs ez hzz2_ hw => ?_)
    replace hF := Zle ez hF; clear ez
    refine lv_aload_n S.1 S.2.1 dX9_dig_10 rfl (lv_at hl 0 rfl) ?_
    refine gf_X9_15 S hw dX9_dig_11 ?_
    refine lv_aload_n S.1 S.2.1 dX9_dig_14 rfl (lv_at hl 0 rfl) ?_
    refine gg_X9_54 S hw dX9_dig_15 ?_
    refine lv_iload_n S.1 S.2.1 dX9_dig_18 rfl (lv_at hl 2 rfl) ?_
    obtain ⟨b3_, hF⟩ := Zgs hF
    refine Yiast S hw hzz2_ zd_43 (by decide) (hzz2_.1 41 0 (by decide)) hx2 b3_ dX9_dig_19 (fun z4_ H locs ez hzz4_ hw => ?_)
    replace hF := Zle ez hF; clear ez
    refine lv_aload_n S.1 S.2.1 dX9_dig_20 rfl (lv_at hl 0 rfl) ?_
    refine gf_X9_18 S hw dX9_dig_21 ?_
    refine lv_aload_n S.1 S.2.1 dX9_dig_24 rfl (lv_at hl 0 rfl) ?_
    refine gg_X9_54 S hw dX9_dig_25 ?_
    refine lv_iload_n S.1 S.2.1 dX9_dig_28 rfl (lv_at hl 3 rfl) ?_
    obtain ⟨b5_, hF⟩ := Zgs hF
    refine Yiast S hw hzz4_ zd_44 (by decide) (hzz4_.1 41 0 (by decide)) hx3 b5_ dX9_dig_29 (fun z6_ H locs ez hzz6_ hw => ?_)
    replace hF := Zle ez hF; clear ez
    refine lv_aload_n S.1 S.2.1 dX9_dig_30 rfl (lv_at hl 0 rfl) ?_
    refine lv_iconst (v := i32 0) S.1 S.2.1 dX9_dig_31 ic_0 ?_
    refine pp_X9_58 S hw hzz6_ r_0 (Or.inl rfl) dX9_dig_32 (fun z7_ H locs ez hzz7_ hw => ?_)
    replace hF := Zle ez hF; clear ez
    refine lv_aload_n S.1 S.2.1 dX9_dig_35 rfl (lv_at hl 0 rfl) ?_
    refine lv_dup S.1 S.2.1 dX9_dig_36 rfl ?_
    refine gg_X9_54 S hw dX9_dig_37 ?_
    refine lv_dup_x1 S.1 S.2.1 dX9_dig_40 rfl rfl ?_
    refine lv_iconst (v := i32 1) S.1 S.2.1 dX9_dig_41 ic_1 ?_
    obtain ⟨g8_, hF⟩ := Zgs hF
    refine Yiadd S dX9_dig_42 ?_
    refine pp_X9_54 S hw hzz7_ g8_ dX9_dig_43 (fun z9_ H locs ez hzz9_ hw => ?_)
    replace hF := Zle ez hF; clear ez
    exact Yireti S hw hzz9_ (hzz7_.1 41 0 (by decide)) hr hlk hF dX9_dig_46)
set_option maxRecDepth 100000 in
set_option maxHeartbeats 4000000 in
theorem w_X10_well_b23 {RR : Int × ZI} (S : CallFix p m c cX10_well 4 s args Ztbl RX10) (hr : meth.sig.returnType = some .int) (hlk : meth.locks = false) (hR : 1 ≤ R.frames ∧ 60 * (1) ≤ R.locals) (hdj : Zdj ad) : ∀ (z : ZI) (H : Heap) (locs : List Loc) (ls : Array Slot), X10_well_b23 z  = some RR → ZW D cA ad (ZA ad) (Zc z) s H locs → Zok z → lv_has ls 4 [(0, .ref (ad 0))] → W p l e R s m args below meth c H locs 0 0 (MQ below (YQi D cA ad RR.1 RR.2) args s 0 0 (ZA ad)) (F0 m 23 ls []) := by
  intro z  H locs ls hF hw hzz  hl
  unfold X10_well_b23 at hF
  refine lv_aload_n S.1 S.2.1 dX10_well_23 rfl (lv_at hl 0 rfl) ?_
  refine lv_bipush (v := i32 (-4)) S.1 S.2.1 dX10_well_24 bp_m4 ?_
  obtain ⟨r3_, z1_, h2_, hF⟩ := Ybs hF
  refine YcallVi (rest := []) S hw (c_X10_refuse hdj hzz r_m4 h2_) my_X10_refuse mi_X10_refuse ml_X10_81 zd_0 zc_X10 rfl (Zrr hR (by decide)) ⟨Nat.zero_le _, Nat.zero_le _⟩ hl.1 rfl rfl (Nat.le_of_ble_eq_true rfl) dX10_well_26 (fun hrr3_ hzz1_ H locs hw => ?_)
  exact Yireti S hw hzz1_ hrr3_ hr hlk hF dX10_well_29
set_option maxRecDepth 100000 in
set_option maxHeartbeats 4000000 in
theorem w_X10_well_b55 {RR : Int × ZI} (S : CallFix p m c cX10_well 4 s args Ztbl RX10) (hr : meth.sig.returnType = some .int) (hlk : meth.locks = false) (hR : 1 ≤ R.frames ∧ 60 * (1) ≤ R.locals) (hdj : Zdj ad) : ∀ (z : ZI) (H : Heap) (locs : List Loc) (ls : Array Slot), X10_well_b55 z  = some RR → ZW D cA ad (ZA ad) (Zc z) s H locs → Zok z → lv_has ls 4 [(0, .ref (ad 0))] → W p l e R s m args below meth c H locs 0 0 (MQ below (YQi D cA ad RR.1 RR.2) args s 0 0 (ZA ad)) (F0 m 55 ls []) := by
  intro z  H locs ls hF hw hzz  hl
  unfold X10_well_b55 at hF
  refine lv_aload_n S.1 S.2.1 dX10_well_55 rfl (lv_at hl 0 rfl) ?_
  refine lv_bipush (v := i32 (-6)) S.1 S.2.1 dX10_well_56 bp_m6 ?_
  obtain ⟨r3_, z1_, h2_, hF⟩ := Ybs hF
  refine YcallVi (rest := []) S hw (c_X10_refuse hdj hzz r_m6 h2_) my_X10_refuse mi_X10_refuse ml_X10_81 zd_0 zc_X10 rfl (Zrr hR (by decide)) ⟨Nat.zero_le _, Nat.zero_le _⟩ hl.1 rfl rfl (Nat.le_of_ble_eq_true rfl) dX10_well_58 (fun hrr3_ hzz1_ H locs hw => ?_)
  exact Yireti S hw hzz1_ hrr3_ hr hlk hF dX10_well_61
set_option maxRecDepth 100000 in
set_option maxHeartbeats 4000000 in
theorem c_X10_well {l : Launch} {D : va_G} {cA : Nat → ClassId} {ad : Nat → Nat} (hdj : Zdj ad) {z z1 : ZI} {x1 : Int} {x2 : Int} {x3 : Int} {r : Int} (hzz : Zok z) (hx1 : InR x1) (hx2 : InR x2) (hx3 : InR x3) (hF : F_X10_well z x1 x2 x3 = some (r, z1)) : YMi l D cA ad (1) yX10_well cX10_well 4 (some .int) [.ref (ad 0), .int (i32 x1), .int (i32 x2), .int (i32 x3)] z r z1 :=
  Zmet hdj (by decide) rfl (Nat.le_of_ble_eq_true rfl) (lv := [(0, .ref (ad 0)), (1, .int (i32 (x1))), (2, .int (i32 (x2))), (3, .int (i32 (x3)))]) rfl (fun p e s m args below meth c ls S hr hlk hw hl => by
    have hR : 1 ≤ (Zrm (1)).frames ∧ 60 * (1) ≤ (Zrm (1)).locals := ⟨Nat.le_refl _, Nat.le_refl _⟩
    unfold F_X10_well at hF
    revert hR
    generalize Zrm (1) = R
    intro hR
    refine lv_iload_n S.1 S.2.1 dX10_well_0 rfl (lv_at hl 1 rfl) ?_
    obtain ⟨r3_, z1_, h2_, hF⟩ := Ybs hF
    refine YcallSi (rest := []) S hw (c_X10_isCell hdj hzz hx1 h2_) my_X10_isCell ms_X10_isCell ml_X10_89 (Zrr hR (by decide)) ⟨Nat.zero_le _, Nat.zero_le _⟩ hl.1 rfl rfl (Nat.le_of_ble_eq_true rfl) dX10_well_1 (fun hrr3_ hzz1_ H locs hw => ?_)
    refine Yif_ne (tgt := 13) S hrr3_ dX10_well_4 (by decide) (fun c4_ => ?_) (fun c4_ => ?_)
    · replace hF := ZtN c4_ hF
      refine lv_iload_n S.1 S.2.1 dX10_well_13 rfl (lv_at hl 2 rfl) ?_
      refine lv_iconst (v := i32 1) S.1 S.2.1 dX10_well_14 ic_1 ?_
      refine Yicmp_lt (tgt := 23) S hx2 r_1 dX10_well_15 (by decide) (fun c5_ => ?_) (fun c5_ => ?_)
      · replace hF := ZtP c5_ hF
        exact w_X10_well_b23 S hr hlk hR hdj _ _ _ _ hF hw hzz1_  (lv_sub hl [0] rfl)
      · replace hF := ZtN c5_ hF
        refine lv_iload_n S.1 S.2.1 dX10_well_18 rfl (lv_at hl 3 rfl) ?_
        refine lv_iconst (v := i32 1) S.1 S.2.1 dX10_well_19 ic_1 ?_
        refine Yicmp_ge (tgt := 30) S hx3 r_1 dX10_well_20 (by decide) (fun c6_ => ?_) (fun c6_ => ?_)
        · replace hF := ZtP c6_ hF
          refine lv_iload_n S.1 S.2.1 dX10_well_30 rfl (lv_at hl 2 rfl) ?_
          refine lv_bipush (v := i32 99) S.1 S.2.1 dX10_well_31 bp_99 ?_
          refine Yicmp_gt (tgt := 55) S hx2 r_99 dX10_well_33 (by decide) (fun c7_ => ?_) (fun c7_ => ?_)
          · replace hF := ZtP c7_ hF
            exact w_X10_well_b55 S hr hlk hR hdj _ _ _ _ hF hw hzz1_  (lv_sub hl [0] rfl)
          · replace hF := ZtN c7_ hF
            refine lv_iload_n S.1 S.2.1 dX10_well_36 rfl (lv_at hl 3 rfl) ?_
            refine lv_sipush (v := i32 9999) S.1 S.2.1 dX10_well_37 sp_9999 ?_
            refine Yicmp_gt (tgt := 55) S hx3 r_9999 dX10_well_40 (by decide) (fun c8_ => ?_) (fun c8_ => ?_)
            · replace hF := ZtP c8_ hF
              exact w_X10_well_b55 S hr hlk hR hdj _ _ _ _ hF hw hzz1_  (lv_sub hl [0] rfl)
            · replace hF := ZtN c8_ hF
              refine lv_aload_n S.1 S.2.1 dX10_well_43 rfl (lv_at hl 0 rfl) ?_
              refine gf_X10_55 S hw dX10_well_44 ?_
              refine gg_X10_214 S hw dX10_well_47 ?_
              refine lv_bipush (v := i32 6) S.1 S.2.1 dX10_well_50 bp_6 ?_
              refine Yicmp_lt (tgt := 62) S (hzz1_.1 41 0 (by decide)) r_6 dX10_well_52 (by decide) (fun c9_ => ?_) (fun c9_ => ?_)
              · replace hF := ZtP c9_ hF
                refine lv_aload_n S.1 S.2.1 dX10_well_62 rfl (lv_at hl 0 rfl) ?_
                refine gf_X10_55 S hw dX10_well_63 ?_
                refine lv_iload_n S.1 S.2.1 dX10_well_66 rfl (lv_at hl 1 rfl) ?_
                refine lv_iload_n S.1 S.2.1 dX10_well_67 rfl (lv_at hl 2 rfl) ?_
                refine lv_iload_n S.1 S.2.1 dX10_well_68 rfl (lv_at hl 3 rfl) ?_
                obtain ⟨r12_, z10_, h11_, hF⟩ := Ybs hF
                refine YcallVi (rest := []) S hw (c_X9_dig hdj hzz1_ hx1 hx2 hx3 h11_) my_X9_dig mi_X9_dig ml_X10_217 zd_41 zc_X9 rfl (Zrr hR (by decide)) ⟨Nat.zero_le _, Nat.zero_le _⟩ hl.1 rfl rfl (Nat.le_of_ble_eq_true rfl) dX10_well_69 (fun hrr12_ hzz10_ H locs hw => ?_)
                exact Yireti S hw hzz10_ hrr12_ hr hlk hF dX10_well_72
              · replace hF := ZtN c9_ hF
                exact w_X10_well_b55 S hr hlk hR hdj _ _ _ _ hF hw hzz1_  (lv_sub hl [0] rfl)
        · replace hF := ZtN c6_ hF
          exact w_X10_well_b23 S hr hlk hR hdj _ _ _ _ hF hw hzz1_  (lv_sub hl [0] rfl)
    · replace hF := ZtP c4_ hF
      refine lv_aload_n S.1 S.2.1 dX10_well_7 rfl (lv_at hl 0 rfl) ?_
      refine lv_iconst (v := i32 (-1)) S.1 S.2.1 dX10_well_8 ic_m1 ?_
      obtain ⟨r15_, z13_, h14_, hF⟩ := Ybs hF
      refine YcallVi (rest := []) S hw (c_X10_refuse hdj hzz1_ r_m1 h14_) my_X10_refuse mi_X10_refuse ml_X10_81 zd_0 zc_X10 rfl (Zrr hR (by decide)) ⟨Nat.zero_le _, Nat.zero_le _⟩ hl.1 rfl rfl (Nat.le_of_ble_eq_true rfl) dX10_well_9 (fun hrr15_ hzz13_ H locs hw => ?_)
      exact Yireti S hw hzz13_ hrr15_ hr hlk hF dX10_well_12)
set_option maxRecDepth 100000 in
set_option maxHeartbeats 4000000 in
theorem w_X11_away_b10 {RR : Int × ZI} (S : CallFix p m c cX11_away 1 s args Ztbl RX11) (hr : meth.sig.returnType = some .int) (hlk : meth.locks = false) (hR : 0 ≤ R.frames ∧ 60 * (0) ≤ R.locals) (hdj : Zdj ad) : ∀ (z : ZI) (y0 : Int) (H : Heap) (locs : List Loc) (ls : Array Slot), X11_away_b10 z y0 = some RR → ZW D cA ad (ZA ad) (Zc z) s H locs → Zok z → InR y0 → lv_has ls 1 [] → W p l e R s m args below meth c H locs 0 0 (MQ below (YQi D cA ad RR.1 RR.2) args s 0 0 (ZA ad)) (F0 m 10 ls [.int (i32 (y0))]) := by
  intro z y0 H locs ls hF hw hzz hy0 hl
  unfold X11_away_b10 at hF
  exact Yireti S hw hzz hy0 hr hlk hF dX11_away_10
set_option maxRecDepth 100000 in
set_option maxHeartbeats 4000000 in
theorem c_X11_away {l : Launch} {D : va_G} {cA : Nat → ClassId} {ad : Nat → Nat} (hdj : Zdj ad) {z z1 : ZI} {x0 : Int} {r : Int} (hzz : Zok z) (hx0 : InR x0) (hF : F_X11_away z x0 = some (r, z1)) : YMi l D cA ad (0) yX11_away cX11_away 1 (some .int) [.int (i32 x0)] z r z1 :=
  Zmet hdj (by decide) rfl (Nat.le_of_ble_eq_true rfl) (lv := [(0, .int (i32 (x0)))]) rfl (fun p e s m args below meth c ls S hr hlk hw hl => by
    have hR : 0 ≤ (Zrm (0)).frames ∧ 60 * (0) ≤ (Zrm (0)).locals := ⟨Nat.le_refl _, Nat.le_refl _⟩
    unfold F_X11_away at hF
    revert hR
    generalize Zrm (0) = R
    intro hR
    refine lv_iload_n S.1 S.2.1 dX11_away_0 rfl (lv_at hl 0 rfl) ?_
    refine Yif_ge (tgt := 9) S hx0 dX11_away_1 (by decide) (fun c1_ => ?_) (fun c1_ => ?_)
    · replace hF := ZtP c1_ hF
      refine lv_iload_n S.1 S.2.1 dX11_away_9 rfl (lv_at hl 0 rfl) ?_
      exact w_X11_away_b10 S hr hlk hR hdj _ _ _ _ _ hF hw hzz hx0 (lv_sub hl [] rfl)
    · replace hF := ZtN c1_ hF
      refine lv_iload_n S.1 S.2.1 dX11_away_4 rfl (lv_at hl 0 rfl) ?_
      obtain ⟨g2_, hF⟩ := Zgs hF
      refine Yineg S dX11_away_5 ?_
      refine lv_goto (tgt := 10) S.1 S.2.1 dX11_away_6 (by decide) ?_
      exact w_X11_away_b10 S hr hlk hR hdj _ _ _ _ _ hF hw hzz g2_ (lv_sub hl [] rfl))
set_option maxRecDepth 100000 in
set_option maxHeartbeats 4000000 in
theorem c_X11_far {l : Launch} {D : va_G} {cA : Nat → ClassId} {ad : Nat → Nat} (hdj : Zdj ad) {z z1 : ZI} {x0 : Int} {x1 : Int} {r : Int} (hzz : Zok z) (hx0 : InR x0) (hx1 : InR x1) (hF : F_X11_far z x0 x1 = some (r, z1)) : YMi l D cA ad (1) yX11_far cX11_far 2 (some .int) [.int (i32 x0), .int (i32 x1)] z r z1 :=
  Zmet hdj (by decide) rfl (Nat.le_of_ble_eq_true rfl) (lv := [(0, .int (i32 (x0))), (1, .int (i32 (x1)))]) rfl (fun p e s m args below meth c ls S hr hlk hw hl => by
    have hR : 1 ≤ (Zrm (1)).frames ∧ 60 * (1) ≤ (Zrm (1)).locals := ⟨Nat.le_refl _, Nat.le_refl _⟩
    unfold F_X11_far at hF
    revert hR
    generalize Zrm (1) = R
    intro hR
    refine lv_iload_n S.1 S.2.1 dX11_far_0 rfl (lv_at hl 0 rfl) ?_
    refine lv_bipush (v := i32 12) S.1 S.2.1 dX11_far_1 bp_12 ?_
    refine Yirem S hx0 r_12 (by decide) dX11_far_3 ?_
    refine lv_iload_n S.1 S.2.1 dX11_far_4 rfl (lv_at hl 1 rfl) ?_
    refine lv_bipush (v := i32 12) S.1 S.2.1 dX11_far_5 bp_12 ?_
    refine Yirem S hx1 r_12 (by decide) dX11_far_7 ?_
    obtain ⟨g1_, hF⟩ := Zgs hF
    refine Yisub S dX11_far_8 ?_
    obtain ⟨r4_, z2_, h3_, hF⟩ := Ybs hF
    refine YcallSi (rest := []) S hw (c_X11_away hdj hzz g1_ h3_) my_X11_away ms_X11_away ml_X11_363 (Zrr hR (by decide)) ⟨Nat.zero_le _, Nat.zero_le _⟩ hl.1 rfl rfl (Nat.le_of_ble_eq_true rfl) dX11_far_9 (fun hrr4_ hzz2_ H locs hw => ?_)
    refine lv_iload_n S.1 S.2.1 dX11_far_12 rfl (lv_at hl 0 rfl) ?_
    refine lv_bipush (v := i32 12) S.1 S.2.1 dX11_far_13 bp_12 ?_
    refine Yidiv S hx0 r_12 (by decide) dX11_far_15 ?_
    refine lv_iload_n S.1 S.2.1 dX11_far_16 rfl (lv_at hl 1 rfl) ?_
    refine lv_bipush (v := i32 12) S.1 S.2.1 dX11_far_17 bp_12 ?_
    refine Yidiv S hx1 r_12 (by decide) dX11_far_19 ?_
    obtain ⟨g5_, hF⟩ := Zgs hF
    refine Yisub S dX11_far_20 ?_
    obtain ⟨r8_, z6_, h7_, hF⟩ := Ybs hF
    refine YcallSi (rest := [.int (i32 (r4_))]) S hw (c_X11_away hdj hzz2_ g5_ h7_) my_X11_away ms_X11_away ml_X11_363 (Zrr hR (by decide)) ⟨Nat.zero_le _, Nat.zero_le _⟩ hl.1 rfl rfl (Nat.le_of_ble_eq_true rfl) dX11_far_21 (fun hrr8_ hzz6_ H locs hw => ?_)
    obtain ⟨g9_, hF⟩ := Zgs hF
    refine Yiadd S dX11_far_24 ?_
    exact Yireti S hw hzz6_ g9_ hr hlk hF dX11_far_25)
set_option maxRecDepth 100000 in
set_option maxHeartbeats 4000000 in
theorem w_X11_stateOn_b60 {RR : Int × ZI} (S : CallFix p m c cX11_stateOn 5 s args Ztbl RX11) (hr : meth.sig.returnType = some .int) (hlk : meth.locks = false) (hR : 0 ≤ R.frames ∧ 60 * (0) ≤ R.locals) (hdj : Zdj ad) {k18 : ZI → Int → Int → Int → Int → Option (Int × ZI)} (hk18 : ∀ (z : ZI) (x1 : Int) (x2 : Int) (x3 : Int) (x4 : Int) (H : Heap) (locs : List Loc) (ls : Array Slot), k18 z x1 x2 x3 x4 = some RR → ZW D cA ad (ZA ad) (Zc z) s H locs → Zok z → InR x1 → InR x2 → InR x3 → InR x4 → lv_has ls 5 [(0, .ref (ad 68)), (1, .int (i32 (x1))), (2, .int (i32 (x2))), (3, .int (i32 (x3))), (4, .int (i32 (x4)))] → W p l e R s m args below meth c H locs 0 0 (MQ below (YQi D cA ad RR.1 RR.2) args s 0 0 (ZA ad)) (F0 m 18 ls [])) : ∀ (z : ZI) (x1 : Int) (x2 : Int) (x4 : Int) (y0 : Int) (H : Heap) (locs : List Loc) (ls : Array Slot), X11_stateOn_b60 k18 z x1 x2 x4 y0 = some RR → ZW D cA ad (ZA ad) (Zc z) s H locs → Zok z → InR x1 → InR x2 → InR x4 → InR y0 → lv_has ls 5 [(0, .ref (ad 68)), (1, .int (i32 (x1))), (2, .int (i32 (x2))), (4, .int (i32 (x4)))] → W p l e R s m args below meth c H locs 0 0 (MQ below (YQi D cA ad RR.1 RR.2) args s 0 0 (ZA ad)) (F0 m 60 ls [.int (i32 (y0))]) := by
  intro z x1 x2 x4 y0 H locs ls hF hw hzz hx1 hx2 hx4 hy0 hl
  unfold X11_stateOn_b60 at hF
  refine lv_istore_n (lv' := [(3, .int (i32 (y0))), (0, .ref (ad 68)), (1, .int (i32 (x1))), (2, .int (i32 (x2))), (4, .int (i32 (x4)))]) S.1 S.2.1 dX11_stateOn_60 rfl hl (by decide) rfl (fun ls hl => ?_)
  obtain ⟨g1_, hF⟩ := Zgs hF
  refine lv_iinc (v := i32 (x4 + 1)) (lv' := [(4, .int (i32 (x4 + 1))), (3, .int (i32 (y0))), (0, .ref (ad 68)), (1, .int (i32 (x1))), (2, .int (i32 (x2)))]) S.1 S.2.1 dX11_stateOn_61 hl (k := 4) rfl Yiinc (by decide) rfl (fun ls hl => ?_)
  refine lv_goto (tgt := 18) S.1 S.2.1 dX11_stateOn_64 (by decide) ?_
  exact hk18 _ _ _ _ _ _ _ _ hF hw hzz hx1 hx2 hy0 g1_ (lv_sub hl [2, 3, 4, 1, 0] rfl)
set_option maxRecDepth 100000 in
set_option maxHeartbeats 4000000 in
theorem w_X11_stateOn_b59 {RR : Int × ZI} (S : CallFix p m c cX11_stateOn 5 s args Ztbl RX11) (hr : meth.sig.returnType = some .int) (hlk : meth.locks = false) (hR : 0 ≤ R.frames ∧ 60 * (0) ≤ R.locals) (hdj : Zdj ad) {k18 : ZI → Int → Int → Int → Int → Option (Int × ZI)} (hk18 : ∀ (z : ZI) (x1 : Int) (x2 : Int) (x3 : Int) (x4 : Int) (H : Heap) (locs : List Loc) (ls : Array Slot), k18 z x1 x2 x3 x4 = some RR → ZW D cA ad (ZA ad) (Zc z) s H locs → Zok z → InR x1 → InR x2 → InR x3 → InR x4 → lv_has ls 5 [(0, .ref (ad 68)), (1, .int (i32 (x1))), (2, .int (i32 (x2))), (3, .int (i32 (x3))), (4, .int (i32 (x4)))] → W p l e R s m args below meth c H locs 0 0 (MQ below (YQi D cA ad RR.1 RR.2) args s 0 0 (ZA ad)) (F0 m 18 ls [])) : ∀ (z : ZI) (x1 : Int) (x2 : Int) (x3 : Int) (x4 : Int) (H : Heap) (locs : List Loc) (ls : Array Slot), X11_stateOn_b59 k18 z x1 x2 x3 x4 = some RR → ZW D cA ad (ZA ad) (Zc z) s H locs → Zok z → InR x1 → InR x2 → InR x3 → InR x4 → lv_has ls 5 [(0, .ref (ad 68)), (1, .int (i32 (x1))), (2, .int (i32 (x2))), (3, .int (i32 (x3))), (4, .int (i32 (x4)))] → W p l e R s m args below meth c H locs 0 0 (MQ below (YQi D cA ad RR.1 RR.2) args s 0 0 (ZA ad)) (F0 m 59 ls []) := by
  intro z x1 x2 x3 x4 H locs ls hF hw hzz hx1 hx2 hx3 hx4 hl
  unfold X11_stateOn_b59 at hF
  refine lv_iload_n S.1 S.2.1 dX11_stateOn_59 rfl (lv_at hl 3 rfl) ?_
  exact w_X11_stateOn_b60 S hr hlk hR hdj hk18 _ _ _ _ _ _ _ _ hF hw hzz hx1 hx2 hx4 hx3 (lv_sub hl [0, 1, 2, 4] rfl)
set_option maxRecDepth 100000 in
set_option maxHeartbeats 4000000 in
theorem w_X11_stateOn_L18 {RR : Int × ZI} (S : CallFix p m c cX11_stateOn 5 s args Ztbl RX11) (hr : meth.sig.returnType = some .int) (hlk : meth.locks = false) (hR : 0 ≤ R.frames ∧ 60 * (0) ≤ R.locals) (hdj : Zdj ad) : ∀ (n : Nat) (z : ZI) (x1 : Int) (x2 : Int) (x3 : Int) (x4 : Int) (H : Heap) (locs : List Loc) (ls : Array Slot), X11_stateOn_L18 n z x1 x2 x3 x4 = some RR → ZW D cA ad (ZA ad) (Zc z) s H locs → Zok z → InR x1 → InR x2 → InR x3 → InR x4 → lv_has ls 5 [(0, .ref (ad 68)), (1, .int (i32 (x1))), (2, .int (i32 (x2))), (3, .int (i32 (x3))), (4, .int (i32 (x4)))] → W p l e R s m args below meth c H locs 0 0 (MQ below (YQi D cA ad RR.1 RR.2) args s 0 0 (ZA ad)) (F0 m 18 ls []) := by
  intro n
  induction n with
  | zero => intro z x1 x2 x3 x4 H locs ls hF; exact nomatch hF
  | succ n hk18 =>
    intro z x1 x2 x3 x4 H locs ls hF hw hzz hx1 hx2 hx3 hx4 hl
    replace hF : X11_stateOn_L18b (X11_stateOn_L18 n) z x1 x2 x3 x4 = some RR := hF
    unfold X11_stateOn_L18b at hF
    refine lv_iload S.1 S.2.1 dX11_stateOn_18 (lv_at hl 4 rfl) ?_
    refine lv_aload_n S.1 S.2.1 dX11_stateOn_20 rfl (lv_at hl 0 rfl) ?_
    refine gg_X11_240 S hw dX11_stateOn_21 ?_
    refine Yicmp_ge (tgt := 67) S hx4 (hzz.1 68 14 (by decide)) dX11_stateOn_24 (by decide) (fun c1_ => ?_) (fun c1_ => ?_)
    · replace hF := ZtP c1_ hF
      refine lv_iload_n S.1 S.2.1 dX11_stateOn_67 rfl (lv_at hl 3 rfl) ?_
      exact Yireti S hw hzz hx3 hr hlk hF dX11_stateOn_68
    · replace hF := ZtN c1_ hF
      refine lv_aload_n S.1 S.2.1 dX11_stateOn_27 rfl (lv_at hl 0 rfl) ?_
      refine gf_X11_34 S hw dX11_stateOn_28 ?_
      refine lv_iload S.1 S.2.1 dX11_stateOn_31 (lv_at hl 4 rfl) ?_
      obtain ⟨b2_, hF⟩ := Zgs hF
      refine Yiald S hw zd_77 (by decide) hx4 b2_ dX11_stateOn_33 ?_
      refine lv_iload_n S.1 S.2.1 dX11_stateOn_34 rfl (lv_at hl 1 rfl) ?_
      refine Yicmp_ne (tgt := 59) S (hzz.1 _ _ (by decide)) hx1 dX11_stateOn_35 (by decide) (fun c3_ => ?_) (fun c3_ => ?_)
      · replace hF := ZtN c3_ hF
        exact w_X11_stateOn_b59 S hr hlk hR hdj hk18 _ _ _ _ _ _ _ _ hF hw hzz hx1 hx2 hx3 hx4 (lv_sub hl [0, 1, 2, 3, 4] rfl)
      · replace hF := ZtP c3_ hF
        refine lv_aload_n S.1 S.2.1 dX11_stateOn_38 rfl (lv_at hl 0 rfl) ?_
        refine gf_X11_40 S hw dX11_stateOn_39 ?_
        refine lv_iload S.1 S.2.1 dX11_stateOn_42 (lv_at hl 4 rfl) ?_
        obtain ⟨b4_, hF⟩ := Zgs hF
        refine Yiald S hw zd_79 (by decide) hx4 b4_ dX11_stateOn_44 ?_
        refine lv_iload_n S.1 S.2.1 dX11_stateOn_45 rfl (lv_at hl 2 rfl) ?_
        refine Yicmp_gt (tgt := 59) S (hzz.1 _ _ (by decide)) hx2 dX11_stateOn_46 (by decide) (fun c5_ => ?_) (fun c5_ => ?_)
        · replace hF := ZtP c5_ hF
          exact w_X11_stateOn_b59 S hr hlk hR hdj hk18 _ _ _ _ _ _ _ _ hF hw hzz hx1 hx2 hx3 hx4 (lv_sub hl [0, 1, 2, 3, 4] rfl)
        · replace hF := ZtN c5_ hF
          refine lv_aload_n S.1 S.2.1 dX11_stateOn_49 rfl (lv_at hl 0 rfl) ?_
          refine gf_X11_37 S hw dX11_stateOn_50 ?_
          refine lv_iload S.1 S.2.1 dX11_stateOn_53 (lv_at hl 4 rfl) ?_
          obtain ⟨b6_, hF⟩ := Zgs hF
          refine Yiald S hw zd_78 (by decide) hx4 b6_ dX11_stateOn_55 ?_
          refine lv_goto (tgt := 60) S.1 S.2.1 dX11_stateOn_56 (by decide) ?_
          exact w_X11_stateOn_b60 S hr hlk hR hdj hk18 _ _ _ _ _ _ _ _ hF hw hzz hx1 hx2 hx4 (hzz.1 _ _ (by decide)) (lv_sub hl [0, 1, 2, 4] rfl)
set_option maxRecDepth 100000 in
set_option maxHeartbeats 4000000 in
theorem c_X11_stateOn {l : Launch} {D : va_G} {cA : Nat → ClassId} {ad : Nat → Nat} (hdj : Zdj ad) {z z1 : ZI} {x1 : Int} {x2 : Int} {r : Int} (hzz : Zok z) (hx1 : InR x1) (hx2 : InR x2) (hF : F_X11_stateOn z x1 x2 = some (r, z1)) : YMi l D cA ad (0) yX11_stateOn cX11_stateOn 5 (some .int) [.ref (ad 68), .int (i32 x1), .int (i32 x2)] z r z1 :=
  Zmet hdj (by decide) rfl (Nat.le_of_ble_eq_true rfl) (lv := [(0, .ref (ad 68)), (1, .int (i32 (x1))), (2, .int (i32 (x2)))]) rfl (fun p e s m args below meth c ls S hr hlk hw hl => by
    have hR : 0 ≤ (Zrm (0)).frames ∧ 60 * (0) ≤ (Zrm (0)).locals := ⟨Nat.le_refl _, Nat.le_refl _⟩
    unfold F_X11_stateOn at hF
    revert hR
    generalize Zrm (0) = R
    intro hR
    refine lv_iload_n S.1 S.2.1 dX11_stateOn_0 rfl (lv_at hl 2 rfl) ?_
    refine lv_aload_n S.1 S.2.1 dX11_stateOn_1 rfl (lv_at hl 0 rfl) ?_
    refine gf_X11_31 S hw dX11_stateOn_2 ?_
    refine lv_iload_n S.1 S.2.1 dX11_stateOn_5 rfl (lv_at hl 1 rfl) ?_
    obtain ⟨b1_, hF⟩ := Zgs hF
    refine Yiald S hw zd_76 (by decide) hx1 b1_ dX11_stateOn_6 ?_
    refine Yicmp_ge (tgt := 13) S hx2 (hzz.1 _ _ (by decide)) dX11_stateOn_7 (by decide) (fun c2_ => ?_) (fun c2_ => ?_)
    · replace hF := ZtP c2_ hF
      refine lv_iconst (v := i32 0) S.1 S.2.1 dX11_stateOn_13 ic_0 ?_
      refine lv_istore_n (lv' := [(3, .int (i32 (0))), (0, .ref (ad 68)), (1, .int (i32 (x1))), (2, .int (i32 (x2)))]) S.1 S.2.1 dX11_stateOn_14 rfl hl (by decide) rfl (fun ls hl => ?_)
      refine lv_iconst (v := i32 0) S.1 S.2.1 dX11_stateOn_15 ic_0 ?_
      refine lv_istore (lv' := [(4, .int (i32 (0))), (3, .int (i32 (0))), (0, .ref (ad 68)), (1, .int (i32 (x1))), (2, .int (i32 (x2)))]) S.1 S.2.1 dX11_stateOn_16 hl (by decide) rfl (fun ls hl => ?_)
      exact w_X11_stateOn_L18 S hr hlk hR hdj Zfuel _ _ _ _ _ _ _ _ hF hw hzz hx1 hx2 r_0 r_0 (lv_sub hl [2, 3, 4, 1, 0] rfl)
    · replace hF := ZtN c2_ hF
      refine lv_bipush (v := i32 (-9)) S.1 S.2.1 dX11_stateOn_10 bp_m9 ?_
      exact Yireti S hw hzz r_m9 hr hlk hF dX11_stateOn_12)
set_option maxRecDepth 100000 in
set_option maxHeartbeats 4000000 in
theorem w_X11_isHere_b21 {RR : Int × ZI} (S : CallFix p m c cX11_isHere 4 s args Ztbl RX11) (hr : meth.sig.returnType = some .boolean) (hlk : meth.locks = false) (hR : 1 ≤ R.frames ∧ 60 * (1) ≤ R.locals) (hdj : Zdj ad) : ∀ (z : ZI) (y0 : Int) (H : Heap) (locs : List Loc) (ls : Array Slot), X11_isHere_b21 z y0 = some RR → ZW D cA ad (ZA ad) (Zc z) s H locs → Zok z → InR y0 → lv_has ls 4 [] → W p l e R s m args below meth c H locs 0 0 (MQ below (YQi D cA ad RR.1 RR.2) args s 0 0 (ZA ad)) (F0 m 21 ls [.int (i32 (y0))]) := by
  intro z y0 H locs ls hF hw hzz hy0 hl
  unfold X11_isHere_b21 at hF
  obtain ⟨b1_, hF⟩ := Zgs hF
  exact Yiretz S hw hzz hy0 hr hlk b1_ hF dX11_isHere_21
set_option maxRecDepth 100000 in
set_option maxHeartbeats 4000000 in
theorem w_X11_isHere_b16 {RR : Int × ZI} (S : CallFix p m c cX11_isHere 4 s args Ztbl RX11) (hr : meth.sig.returnType = some .boolean) (hlk : meth.locks = false) (hR : 1 ≤ R.frames ∧ 60 * (1) ≤ R.locals) (hdj : Zdj ad) : ∀ (z : ZI) (H : Heap) (locs : List Loc) (ls : Array Slot), X11_isHere_b16 z  = some RR → ZW D cA ad (ZA ad) (Zc z) s H locs → Zok z → lv_has ls 4 [] → W p l e R s m args below meth c H locs 0 0 (MQ below (YQi D cA ad RR.1 RR.2) args s 0 0 (ZA ad)) (F0 m 16 ls []) := by
  intro z  H locs ls hF hw hzz  hl
  unfold X11_isHere_b16 at hF
  refine lv_iconst (v := i32 1) S.1 S.2.1 dX11_isHere_16 ic_1 ?_
  refine lv_goto (tgt := 21) S.1 S.2.1 dX11_isHere_17 (by decide) ?_
  exact w_X11_isHere_b21 S hr hlk hR hdj _ _ _ _ _ hF hw hzz r_1 (lv_sub hl [] rfl)
set_option maxRecDepth 100000 in
set_option maxHeartbeats 4000000 in
theorem c_X11_isHere {l : Launch} {D : va_G} {cA : Nat → ClassId} {ad : Nat → Nat} (hdj : Zdj ad) {z z1 : ZI} {x1 : Int} {x2 : Int} {r : Int} (hzz : Zok z) (hx1 : InR x1) (hx2 : InR x2) (hF : F_X11_isHere z x1 x2 = some (r, z1)) : YMi l D cA ad (1) yX11_isHere cX11_isHere 4 (some .boolean) [.ref (ad 68), .int (i32 x1), .int (i32 x2)] z r z1 :=
  Zmet hdj (by decide) rfl (Nat.le_of_ble_eq_true rfl) (lv := [(0, .ref (ad 68)), (1, .int (i32 (x1))), (2, .int (i32 (x2)))]) rfl (fun p e s m args below meth c ls S hr hlk hw hl => by
    have hR : 1 ≤ (Zrm (1)).frames ∧ 60 * (1) ≤ (Zrm (1)).locals := ⟨Nat.le_refl _, Nat.le_refl _⟩
    unfold F_X11_isHere at hF
    revert hR
    generalize Zrm (1) = R
    intro hR
    refine lv_aload_n S.1 S.2.1 dX11_isHere_0 rfl (lv_at hl 0 rfl) ?_
    refine lv_iload_n S.1 S.2.1 dX11_isHere_1 rfl (lv_at hl 1 rfl) ?_
    refine lv_iload_n S.1 S.2.1 dX11_isHere_2 rfl (lv_at hl 2 rfl) ?_
    obtain ⟨r3_, z1_, h2_, hF⟩ := Ybs hF
    refine YcallVi (rest := []) S hw (c_X11_stateOn hdj hzz hx1 hx2 h2_) my_X11_stateOn mi_X11_stateOn ml_X11_252 zd_68 zc_X11 rfl (Zrr hR (by decide)) ⟨Nat.zero_le _, Nat.zero_le _⟩ hl.1 rfl rfl (Nat.le_of_ble_eq_true rfl) dX11_isHere_3 (fun hrr3_ hzz1_ H locs hw => ?_)
    refine lv_istore_n (lv' := [(3, .int (i32 (r3_))), (0, .ref (ad 68)), (1, .int (i32 (x1))), (2, .int (i32 (x2)))]) S.1 S.2.1 dX11_isHere_6 rfl hl (by decide) rfl (fun ls hl => ?_)
    refine lv_iload_n S.1 S.2.1 dX11_isHere_7 rfl (lv_at hl 0 rfl) ?_
    refine Yif_eq (tgt := 16) S hrr3_ dX11_isHere_8 (by decide) (fun c4_ => ?_) (fun c4_ => ?_)
    · replace hF := ZtP c4_ hF
      exact w_X11_isHere_b16 S hr hlk hR hdj _ _ _ _ hF hw hzz1_  (lv_sub hl [] rfl)
    · replace hF := ZtN c4_ hF
      refine lv_iload_n S.1 S.2.1 dX11_isHere_11 rfl (lv_at hl 0 rfl) ?_
      refine lv_iconst (v := i32 2) S.1 S.2.1 dX11_isHere_12 ic_2 ?_
      refine Yicmp_ne (tgt := 20) S hrr3_ r_2 dX11_isHere_13 (by decide) (fun c5_ => ?_) (fun c5_ => ?_)
      · replace hF := ZtN c5_ hF
        refine lv_iconst (v := i32 0) S.1 S.2.1 dX11_isHere_20 ic_0 ?_
        exact w_X11_isHere_b21 S hr hlk hR hdj _ _ _ _ _ hF hw hzz1_ r_0 (lv_sub hl [] rfl)
      · replace hF := ZtP c5_ hF
        exact w_X11_isHere_b16 S hr hlk hR hdj _ _ _ _ hF hw hzz1_  (lv_sub hl [] rfl))
set_option maxRecDepth 100000 in
set_option maxHeartbeats 4000000 in
theorem w_X11_hereOf_b41 {RR : Int × ZI} (S : CallFix p m c cX11_hereOf 5 s args Ztbl RX11) (hr : meth.sig.returnType = some .int) (hlk : meth.locks = false) (hR : 2 ≤ R.frames ∧ 60 * (2) ≤ R.locals) (hdj : Zdj ad) {k5 : ZI → Int → Int → Int → Int → Option (Int × ZI)} (hk5 : ∀ (z : ZI) (x1 : Int) (x2 : Int) (x3 : Int) (x4 : Int) (H : Heap) (locs : List Loc) (ls : Array Slot), k5 z x1 x2 x3 x4 = some RR → ZW D cA ad (ZA ad) (Zc z) s H locs → Zok z → InR x1 → InR x2 → InR x3 → InR x4 → lv_has ls 5 [(0, .ref (ad 68)), (1, .int (i32 (x1))), (2, .int (i32 (x2))), (3, .int (i32 (x3))), (4, .int (i32 (x4)))] → W p l e R s m args below meth c H locs 0 0 (MQ below (YQi D cA ad RR.1 RR.2) args s 0 0 (ZA ad)) (F0 m 5 ls [])) : ∀ (z : ZI) (x1 : Int) (x2 : Int) (x4 : Int) (y0 : Int) (y1 : Int) (H : Heap) (locs : List Loc) (ls : Array Slot), X11_hereOf_b41 k5 z x1 x2 x4 y0 y1 = some RR → ZW D cA ad (ZA ad) (Zc z) s H locs → Zok z → InR x1 → InR x2 → InR x4 → InR y0 → InR y1 → lv_has ls 5 [(0, .ref (ad 68)), (1, .int (i32 (x1))), (2, .int (i32 (x2))), (4, .int (i32 (x4)))] → W p l e R s m args below meth c H locs 0 0 (MQ below (YQi D cA ad RR.1 RR.2) args s 0 0 (ZA ad)) (F0 m 41 ls [.int (i32 (y1)), .int (i32 (y0))]) := by
  intro z x1 x2 x4 y0 y1 H locs ls hF hw hzz hx1 hx2 hx4 hy0 hy1 hl
  unfold X11_hereOf_b41 at hF
  obtain ⟨g1_, hF⟩ := Zgs hF
  refine Yiadd S dX11_hereOf_41 ?_
  refine lv_istore_n (lv' := [(3, .int (i32 (y0 + y1))), (0, .ref (ad 68)), (1, .int (i32 (x1))), (2, .int (i32 (x2))), (4, .int (i32 (x4)))]) S.1 S.2.1 dX11_hereOf_42 rfl hl (by decide) rfl (fun ls hl => ?_)
  obtain ⟨g2_, hF⟩ := Zgs hF
  refine lv_iinc (v := i32 (x4 + 1)) (lv' := [(4, .int (i32 (x4 + 1))), (3, .int (i32 (y0 + y1))), (0, .ref (ad 68)), (1, .int (i32 (x1))), (2, .int (i32 (x2)))]) S.1 S.2.1 dX11_hereOf_43 hl (k := 4) rfl Yiinc (by decide) rfl (fun ls hl => ?_)
  refine lv_goto (tgt := 5) S.1 S.2.1 dX11_hereOf_46 (by decide) ?_
  exact hk5 _ _ _ _ _ _ _ _ hF hw hzz hx1 hx2 g1_ g2_ (lv_sub hl [2, 3, 4, 1, 0] rfl)
set_option maxRecDepth 100000 in
set_option maxHeartbeats 4000000 in
theorem w_X11_hereOf_b40 {RR : Int × ZI} (S : CallFix p m c cX11_hereOf 5 s args Ztbl RX11) (hr : meth.sig.returnType = some .int) (hlk : meth.locks = false) (hR : 2 ≤ R.frames ∧ 60 * (2) ≤ R.locals) (hdj : Zdj ad) {k5 : ZI → Int → Int → Int → Int → Option (Int × ZI)} (hk5 : ∀ (z : ZI) (x1 : Int) (x2 : Int) (x3 : Int) (x4 : Int) (H : Heap) (locs : List Loc) (ls : Array Slot), k5 z x1 x2 x3 x4 = some RR → ZW D cA ad (ZA ad) (Zc z) s H locs → Zok z → InR x1 → InR x2 → InR x3 → InR x4 → lv_has ls 5 [(0, .ref (ad 68)), (1, .int (i32 (x1))), (2, .int (i32 (x2))), (3, .int (i32 (x3))), (4, .int (i32 (x4)))] → W p l e R s m args below meth c H locs 0 0 (MQ below (YQi D cA ad RR.1 RR.2) args s 0 0 (ZA ad)) (F0 m 5 ls [])) : ∀ (z : ZI) (x1 : Int) (x2 : Int) (x4 : Int) (y0 : Int) (H : Heap) (locs : List Loc) (ls : Array Slot), X11_hereOf_b40 k5 z x1 x2 x4 y0 = some RR → ZW D cA ad (ZA ad) (Zc z) s H locs → Zok z → InR x1 → InR x2 → InR x4 → InR y0 → lv_has ls 5 [(0, .ref (ad 68)), (1, .int (i32 (x1))), (2, .int (i32 (x2))), (4, .int (i32 (x4)))] → W p l e R s m args below meth c H locs 0 0 (MQ below (YQi D cA ad RR.1 RR.2) args s 0 0 (ZA ad)) (F0 m 40 ls [.int (i32 (y0))]) := by
  intro z x1 x2 x4 y0 H locs ls hF hw hzz hx1 hx2 hx4 hy0 hl
  unfold X11_hereOf_b40 at hF
  refine lv_iconst (v := i32 0) S.1 S.2.1 dX11_hereOf_40 ic_0 ?_
  exact w_X11_hereOf_b41 S hr hlk hR hdj hk5 _ _ _ _ _ _ _ _ _ hF hw hzz hx1 hx2 hx4 hy0 r_0 (lv_sub hl [0, 1, 2, 3] rfl)
set_option maxRecDepth 100000 in
set_option maxHeartbeats 4000000 in
theorem w_X11_hereOf_L5 {RR : Int × ZI} (S : CallFix p m c cX11_hereOf 5 s args Ztbl RX11) (hr : meth.sig.returnType = some .int) (hlk : meth.locks = false) (hR : 2 ≤ R.frames ∧ 60 * (2) ≤ R.locals) (hdj : Zdj ad) : ∀ (n : Nat) (z : ZI) (x1 : Int) (x2 : Int) (x3 : Int) (x4 : Int) (H : Heap) (locs : List Loc) (ls : Array Slot), X11_hereOf_L5 n z x1 x2 x3 x4 = some RR → ZW D cA ad (ZA ad) (Zc z) s H locs → Zok z → InR x1 → InR x2 → InR x3 → InR x4 → lv_has ls 5 [(0, .ref (ad 68)), (1, .int (i32 (x1))), (2, .int (i32 (x2))), (3, .int (i32 (x3))), (4, .int (i32 (x4)))] → W p l e R s m args below meth c H locs 0 0 (MQ below (YQi D cA ad RR.1 RR.2) args s 0 0 (ZA ad)) (F0 m 5 ls []) := by
  intro n
  induction n with
  | zero => intro z x1 x2 x3 x4 H locs ls hF; exact nomatch hF
  | succ n hk5 =>
    intro z x1 x2 x3 x4 H locs ls hF hw hzz hx1 hx2 hx3 hx4 hl
    replace hF : X11_hereOf_L5b (X11_hereOf_L5 n) z x1 x2 x3 x4 = some RR := hF
    unfold X11_hereOf_L5b at hF
    refine lv_iload S.1 S.2.1 dX11_hereOf_5 (lv_at hl 4 rfl) ?_
    refine lv_aload_n S.1 S.2.1 dX11_hereOf_7 rfl (lv_at hl 0 rfl) ?_
    refine gg_X11_197 S hw dX11_hereOf_8 ?_
    refine Yicmp_ge (tgt := 49) S hx4 (hzz.1 68 13 (by decide)) dX11_hereOf_11 (by decide) (fun c1_ => ?_) (fun c1_ => ?_)
    · replace hF := ZtP c1_ hF
      refine lv_iload_n S.1 S.2.1 dX11_hereOf_49 rfl (lv_at hl 3 rfl) ?_
      exact Yireti S hw hzz hx3 hr hlk hF dX11_hereOf_50
    · replace hF := ZtN c1_ hF
      refine lv_iload_n S.1 S.2.1 dX11_hereOf_14 rfl (lv_at hl 3 rfl) ?_
      refine lv_aload_n S.1 S.2.1 dX11_hereOf_15 rfl (lv_at hl 0 rfl) ?_
      refine gf_X11_22 S hw dX11_hereOf_16 ?_
      refine lv_iload S.1 S.2.1 dX11_hereOf_19 (lv_at hl 4 rfl) ?_
      obtain ⟨b2_, hF⟩ := Zgs hF
      refine Yiald S hw zd_73 (by decide) hx4 b2_ dX11_hereOf_21 ?_
      refine lv_iload_n S.1 S.2.1 dX11_hereOf_22 rfl (lv_at hl 1 rfl) ?_
      refine Yicmp_ne (tgt := 40) S (hzz.1 _ _ (by decide)) hx1 dX11_hereOf_23 (by decide) (fun c3_ => ?_) (fun c3_ => ?_)
      · replace hF := ZtN c3_ hF
        exact w_X11_hereOf_b40 S hr hlk hR hdj hk5 _ _ _ _ _ _ _ _ hF hw hzz hx1 hx2 hx4 hx3 (lv_sub hl [0, 1, 2, 4] rfl)
      · replace hF := ZtP c3_ hF
        refine lv_aload_n S.1 S.2.1 dX11_hereOf_26 rfl (lv_at hl 0 rfl) ?_
        refine lv_iload S.1 S.2.1 dX11_hereOf_27 (lv_at hl 4 rfl) ?_
        refine lv_iload_n S.1 S.2.1 dX11_hereOf_29 rfl (lv_at hl 2 rfl) ?_
        obtain ⟨r6_, z4_, h5_, hF⟩ := Ybs hF
        refine YcallVi (rest := [.int (i32 (x3))]) S hw (c_X11_isHere hdj hzz hx4 hx2 h5_) my_X11_isHere mi_X11_isHere ml_X11_258 zd_68 zc_X11 rfl (Zrr hR (by decide)) ⟨Nat.zero_le _, Nat.zero_le _⟩ hl.1 rfl rfl (Nat.le_of_ble_eq_true rfl) dX11_hereOf_30 (fun hrr6_ hzz4_ H locs hw => ?_)
        refine Yif_eq (tgt := 40) S hrr6_ dX11_hereOf_33 (by decide) (fun c7_ => ?_) (fun c7_ => ?_)
        · replace hF := ZtP c7_ hF
          exact w_X11_hereOf_b40 S hr hlk hR hdj hk5 _ _ _ _ _ _ _ _ hF hw hzz4_ hx1 hx2 hx4 hx3 (lv_sub hl [0, 1, 2, 4] rfl)
        · replace hF := ZtN c7_ hF
          refine lv_iconst (v := i32 1) S.1 S.2.1 dX11_hereOf_36 ic_1 ?_
          refine lv_goto (tgt := 41) S.1 S.2.1 dX11_hereOf_37 (by decide) ?_
          exact w_X11_hereOf_b41 S hr hlk hR hdj hk5 _ _ _ _ _ _ _ _ _ hF hw hzz4_ hx1 hx2 hx4 hx3 r_1 (lv_sub hl [0, 1, 2, 4] rfl)
set_option maxRecDepth 100000 in
set_option maxHeartbeats 4000000 in
theorem c_X11_hereOf {l : Launch} {D : va_G} {cA : Nat → ClassId} {ad : Nat → Nat} (hdj : Zdj ad) {z z1 : ZI} {x1 : Int} {x2 : Int} {r : Int} (hzz : Zok z) (hx1 : InR x1) (hx2 : InR x2) (hF : F_X11_hereOf z x1 x2 = some (r, z1)) : YMi l D cA ad (2) yX11_hereOf cX11_hereOf 5 (some .int) [.ref (ad 68), .int (i32 x1), .int (i32 x2)] z r z1 :=
  Zmet hdj (by decide) rfl (Nat.le_of_ble_eq_true rfl) (lv := [(0, .ref (ad 68)), (1, .int (i32 (x1))), (2, .int (i32 (x2)))]) rfl (fun p e s m args below meth c ls S hr hlk hw hl => by
    have hR : 2 ≤ (Zrm (2)).frames ∧ 60 * (2) ≤ (Zrm (2)).locals := ⟨Nat.le_refl _, Nat.le_refl _⟩
    unfold F_X11_hereOf at hF
    revert hR
    generalize Zrm (2) = R
    intro hR
    refine lv_iconst (v := i32 0) S.1 S.2.1 dX11_hereOf_0 ic_0 ?_
    refine lv_istore_n (lv' := [(3, .int (i32 (0))), (0, .ref (ad 68)), (1, .int (i32 (x1))), (2, .int (i32 (x2)))]) S.1 S.2.1 dX11_hereOf_1 rfl hl (by decide) rfl (fun ls hl => ?_)
    refine lv_iconst (v := i32 0) S.1 S.2.1 dX11_hereOf_2 ic_0 ?_
    refine lv_istore (lv' := [(4, .int (i32 (0))), (3, .int (i32 (0))), (0, .ref (ad 68)), (1, .int (i32 (x1))), (2, .int (i32 (x2)))]) S.1 S.2.1 dX11_hereOf_3 hl (by decide) rfl (fun ls hl => ?_)
    exact w_X11_hereOf_L5 S hr hlk hR hdj Zfuel _ _ _ _ _ _ _ _ hF hw hzz hx1 hx2 r_0 r_0 (lv_sub hl [2, 3, 4, 1, 0] rfl))
set_option maxRecDepth 100000 in
set_option maxHeartbeats 4000000 in
theorem c_X11_no {l : Launch} {D : va_G} {cA : Nat → ClassId} {ad : Nat → Nat} (hdj : Zdj ad) {z z1 : ZI} {x1 : Int} {r : Int} (hzz : Zok z) (hx1 : InR x1) (hF : F_X11_no z x1 = some (r, z1)) : YMi l D cA ad (0) yX11_no cX11_no 2 (some .int) [.ref (ad 68), .int (i32 x1)] z r z1 :=
  Zmet hdj (by decide) rfl (Nat.le_of_ble_eq_true rfl) (lv := [(0, .ref (ad 68)), (1, .int (i32 (x1)))]) rfl (fun p e s m args below meth c ls S hr hlk hw hl => by
    have hR : 0 ≤ (Zrm (0)).frames ∧ 60 * (0) ≤ (Zrm (0)).locals := ⟨Nat.le_refl _, Nat.le_refl _⟩
    unfold F_X11_no at hF
    revert hR
    generalize Zrm (0) = R
    intro hR
    refine lv_aload_n S.1 S.2.1 dX11_no_0 rfl (lv_at hl 0 rfl) ?_
    refine gf_X11_7 S hw dX11_no_1 ?_
    refine lv_iload_n S.1 S.2.1 dX11_no_4 rfl (lv_at hl 1 rfl) ?_
    obtain ⟨g1_, hF⟩ := Zgs hF
    refine Yineg S dX11_no_5 ?_
    refine lv_dup2_11 S.1 S.2.1 dX11_no_6 rfl rfl ?_
    obtain ⟨b2_, hF⟩ := Zgs hF
    refine Yiald S hw zd_69 (by decide) g1_ b2_ dX11_no_7 ?_
    refine lv_iconst (v := i32 1) S.1 S.2.1 dX11_no_8 ic_1 ?_
    obtain ⟨g3_, hF⟩ := Zgs hF
    refine Yiadd S dX11_no_9 ?_
    obtain ⟨b4_, hF⟩ := Zgs hF
    refine Yiast S hw hzz zd_69 (by decide) g1_ g3_ b4_ dX11_no_10 (fun z5_ H locs ez hzz5_ hw => ?_)
    replace hF := Zle ez hF; clear ez
    refine lv_iload_n S.1 S.2.1 dX11_no_11 rfl (lv_at hl 1 rfl) ?_
    exact Yireti S hw hzz5_ hx1 hr hlk hF dX11_no_12)
set_option maxRecDepth 100000 in
set_option maxHeartbeats 4000000 in
theorem w_X11_isCard_b17 {RR : Int × ZI} (S : CallFix p m c cX11_isCard 2 s args Ztbl RX11) (hr : meth.sig.returnType = some .boolean) (hlk : meth.locks = false) (hR : 0 ≤ R.frames ∧ 60 * (0) ≤ R.locals) (hdj : Zdj ad) : ∀ (z : ZI) (y0 : Int) (H : Heap) (locs : List Loc) (ls : Array Slot), X11_isCard_b17 z y0 = some RR → ZW D cA ad (ZA ad) (Zc z) s H locs → Zok z → InR y0 → lv_has ls 2 [] → W p l e R s m args below meth c H locs 0 0 (MQ below (YQi D cA ad RR.1 RR.2) args s 0 0 (ZA ad)) (F0 m 17 ls [.int (i32 (y0))]) := by
  intro z y0 H locs ls hF hw hzz hy0 hl
  unfold X11_isCard_b17 at hF
  obtain ⟨b1_, hF⟩ := Zgs hF
  exact Yiretz S hw hzz hy0 hr hlk b1_ hF dX11_isCard_17
set_option maxRecDepth 100000 in
set_option maxHeartbeats 4000000 in
theorem w_X11_isCard_b16 {RR : Int × ZI} (S : CallFix p m c cX11_isCard 2 s args Ztbl RX11) (hr : meth.sig.returnType = some .boolean) (hlk : meth.locks = false) (hR : 0 ≤ R.frames ∧ 60 * (0) ≤ R.locals) (hdj : Zdj ad) : ∀ (z : ZI) (H : Heap) (locs : List Loc) (ls : Array Slot), X11_isCard_b16 z  = some RR → ZW D cA ad (ZA ad) (Zc z) s H locs → Zok z → lv_has ls 2 [] → W p l e R s m args below meth c H locs 0 0 (MQ below (YQi D cA ad RR.1 RR.2) args s 0 0 (ZA ad)) (F0 m 16 ls []) := by
  intro z  H locs ls hF hw hzz  hl
  unfold X11_isCard_b16 at hF
  refine lv_iconst (v := i32 0) S.1 S.2.1 dX11_isCard_16 ic_0 ?_
  exact w_X11_isCard_b17 S hr hlk hR hdj _ _ _ _ _ hF hw hzz r_0 (lv_sub hl [] rfl)
set_option maxRecDepth 100000 in
set_option maxHeartbeats 4000000 in
theorem c_X11_isCard {l : Launch} {D : va_G} {cA : Nat → ClassId} {ad : Nat → Nat} (hdj : Zdj ad) {z z1 : ZI} {x1 : Int} {r : Int} (hzz : Zok z) (hx1 : InR x1) (hF : F_X11_isCard z x1 = some (r, z1)) : YMi l D cA ad (0) yX11_isCard cX11_isCard 2 (some .boolean) [.ref (ad 68), .int (i32 x1)] z r z1 :=
  Zmet hdj (by decide) rfl (Nat.le_of_ble_eq_true rfl) (lv := [(0, .ref (ad 68)), (1, .int (i32 (x1)))]) rfl (fun p e s m args below meth c ls S hr hlk hw hl => by
    have hR : 0 ≤ (Zrm (0)).frames ∧ 60 * (0) ≤ (Zrm (0)).locals := ⟨Nat.le_refl _, Nat.le_refl _⟩
    unfold F_X11_isCard at hF
    revert hR
    generalize Zrm (0) = R
    intro hR
    refine lv_iload_n S.1 S.2.1 dX11_isCard_0 rfl (lv_at hl 1 rfl) ?_
    refine Yif_lt (tgt := 16) S hx1 dX11_isCard_1 (by decide) (fun c1_ => ?_) (fun c1_ => ?_)
    · replace hF := ZtP c1_ hF
      exact w_X11_isCard_b16 S hr hlk hR hdj _ _ _ _ hF hw hzz  (lv_sub hl [] rfl)
    · replace hF := ZtN c1_ hF
      refine lv_iload_n S.1 S.2.1 dX11_isCard_4 rfl (lv_at hl 1 rfl) ?_
      refine lv_aload_n S.1 S.2.1 dX11_isCard_5 rfl (lv_at hl 0 rfl) ?_
      refine gg_X11_320 S hw dX11_isCard_6 ?_
      refine Yicmp_ge (tgt := 16) S hx1 (hzz.1 68 34 (by decide)) dX11_isCard_9 (by decide) (fun c2_ => ?_) (fun c2_ => ?_)
      · replace hF := ZtP c2_ hF
        exact w_X11_isCard_b16 S hr hlk hR hdj _ _ _ _ hF hw hzz  (lv_sub hl [] rfl)
      · replace hF := ZtN c2_ hF
        refine lv_iconst (v := i32 1) S.1 S.2.1 dX11_isCard_12 ic_1 ?_
        refine lv_goto (tgt := 17) S.1 S.2.1 dX11_isCard_13 (by decide) ?_
        exact w_X11_isCard_b17 S hr hlk hR hdj _ _ _ _ _ hF hw hzz r_1 (lv_sub hl [] rfl))
set_option maxRecDepth 100000 in
set_option maxHeartbeats 4000000 in
theorem w_X11_notTwo_b49 {RR : Int × ZI} (S : CallFix p m c cX11_notTwo 3 s args Ztbl RX11) (hr : meth.sig.returnType = some .int) (hlk : meth.locks = false) (hR : 1 ≤ R.frames ∧ 60 * (1) ≤ R.locals) (hdj : Zdj ad) : ∀ (z : ZI) (y0 : Int) (H : Heap) (locs : List Loc) (ls : Array Slot), X11_notTwo_b49 z y0 = some RR → ZW D cA ad (ZA ad) (Zc z) s H locs → Zok z → InR y0 → lv_has ls 3 [] → W p l e R s m args below meth c H locs 0 0 (MQ below (YQi D cA ad RR.1 RR.2) args s 0 0 (ZA ad)) (F0 m 49 ls [.int (i32 (y0))]) := by
  intro z y0 H locs ls hF hw hzz hy0 hl
  unfold X11_notTwo_b49 at hF
  exact Yireti S hw hzz hy0 hr hlk hF dX11_notTwo_49
set_option maxRecDepth 100000 in
set_option maxHeartbeats 4000000 in
theorem w_X11_notTwo_b21 {RR : Int × ZI} (S : CallFix p m c cX11_notTwo 3 s args Ztbl RX11) (hr : meth.sig.returnType = some .int) (hlk : meth.locks = false) (hR : 1 ≤ R.frames ∧ 60 * (1) ≤ R.locals) (hdj : Zdj ad) : ∀ (z : ZI) (H : Heap) (locs : List Loc) (ls : Array Slot), X11_notTwo_b21 z  = some RR → ZW D cA ad (ZA ad) (Zc z) s H locs → Zok z → lv_has ls 3 [] → W p l e R s m args below meth c H locs 0 0 (MQ below (YQi D cA ad RR.1 RR.2) args s 0 0 (ZA ad)) (F0 m 21 ls []) := by
  intro z  H locs ls hF hw hzz  hl
  unfold X11_notTwo_b21 at hF
  refine lv_iconst (v := i32 (-1)) S.1 S.2.1 dX11_notTwo_21 ic_m1 ?_
  refine lv_goto (tgt := 49) S.1 S.2.1 dX11_notTwo_22 (by decide) ?_
  exact w_X11_notTwo_b49 S hr hlk hR hdj _ _ _ _ _ hF hw hzz r_m1 (lv_sub hl [] rfl)
set_option maxRecDepth 100000 in
set_option maxHeartbeats 4000000 in
theorem w_X11_notTwo_b43 {RR : Int × ZI} (S : CallFix p m c cX11_notTwo 3 s args Ztbl RX11) (hr : meth.sig.returnType = some .int) (hlk : meth.locks = false) (hR : 1 ≤ R.frames ∧ 60 * (1) ≤ R.locals) (hdj : Zdj ad) : ∀ (z : ZI) (H : Heap) (locs : List Loc) (ls : Array Slot), X11_notTwo_b43 z  = some RR → ZW D cA ad (ZA ad) (Zc z) s H locs → Zok z → lv_has ls 3 [] → W p l e R s m args below meth c H locs 0 0 (MQ below (YQi D cA ad RR.1 RR.2) args s 0 0 (ZA ad)) (F0 m 43 ls []) := by
  intro z  H locs ls hF hw hzz  hl
  unfold X11_notTwo_b43 at hF
  refine lv_bipush (v := i32 (-3)) S.1 S.2.1 dX11_notTwo_43 bp_m3 ?_
  refine lv_goto (tgt := 49) S.1 S.2.1 dX11_notTwo_45 (by decide) ?_
  exact w_X11_notTwo_b49 S hr hlk hR hdj _ _ _ _ _ hF hw hzz r_m3 (lv_sub hl [] rfl)
set_option maxRecDepth 100000 in
set_option maxHeartbeats 4000000 in
theorem c_X11_notTwo {l : Launch} {D : va_G} {cA : Nat → ClassId} {ad : Nat → Nat} (hdj : Zdj ad) {z z1 : ZI} {x1 : Int} {x2 : Int} {r : Int} (hzz : Zok z) (hx1 : InR x1) (hx2 : InR x2) (hF : F_X11_notTwo z x1 x2 = some (r, z1)) : YMi l D cA ad (1) yX11_notTwo cX11_notTwo 3 (some .int) [.ref (ad 68), .int (i32 x1), .int (i32 x2)] z r z1 :=
  Zmet hdj (by decide) rfl (Nat.le_of_ble_eq_true rfl) (lv := [(0, .ref (ad 68)), (1, .int (i32 (x1))), (2, .int (i32 (x2)))]) rfl (fun p e s m args below meth c ls S hr hlk hw hl => by
    have hR : 1 ≤ (Zrm (1)).frames ∧ 60 * (1) ≤ (Zrm (1)).locals := ⟨Nat.le_refl _, Nat.le_refl _⟩
    unfold F_X11_notTwo at hF
    revert hR
    generalize Zrm (1) = R
    intro hR
    refine lv_aload_n S.1 S.2.1 dX11_notTwo_0 rfl (lv_at hl 0 rfl) ?_
    refine lv_iload_n S.1 S.2.1 dX11_notTwo_1 rfl (lv_at hl 1 rfl) ?_
    obtain ⟨r3_, z1_, h2_, hF⟩ := Ybs hF
    refine YcallVi (rest := []) S hw (c_X11_isCard hdj hzz hx1 h2_) my_X11_isCard mi_X11_isCard ml_X11_323 zd_68 zc_X11 rfl (Zrr hR (by decide)) ⟨Nat.zero_le _, Nat.zero_le _⟩ hl.1 rfl rfl (Nat.le_of_ble_eq_true rfl) dX11_notTwo_2 (fun hrr3_ hzz1_ H locs hw => ?_)
    refine Yif_eq (tgt := 21) S hrr3_ dX11_notTwo_5 (by decide) (fun c4_ => ?_) (fun c4_ => ?_)
    · replace hF := ZtP c4_ hF
      exact w_X11_notTwo_b21 S hr hlk hR hdj _ _ _ _ hF hw hzz1_  (lv_sub hl [] rfl)
    · replace hF := ZtN c4_ hF
      refine lv_aload_n S.1 S.2.1 dX11_notTwo_8 rfl (lv_at hl 0 rfl) ?_
      refine lv_iload_n S.1 S.2.1 dX11_notTwo_9 rfl (lv_at hl 2 rfl) ?_
      obtain ⟨r7_, z5_, h6_, hF⟩ := Ybs hF
      refine YcallVi (rest := []) S hw (c_X11_isCard hdj hzz1_ hx2 h6_) my_X11_isCard mi_X11_isCard ml_X11_323 zd_68 zc_X11 rfl (Zrr hR (by decide)) ⟨Nat.zero_le _, Nat.zero_le _⟩ hl.1 rfl rfl (Nat.le_of_ble_eq_true rfl) dX11_notTwo_10 (fun hrr7_ hzz5_ H locs hw => ?_)
      refine Yif_eq (tgt := 21) S hrr7_ dX11_notTwo_13 (by decide) (fun c8_ => ?_) (fun c8_ => ?_)
      · replace hF := ZtP c8_ hF
        exact w_X11_notTwo_b21 S hr hlk hR hdj _ _ _ _ hF hw hzz5_  (lv_sub hl [] rfl)
      · replace hF := ZtN c8_ hF
        refine lv_iload_n S.1 S.2.1 dX11_notTwo_16 rfl (lv_at hl 1 rfl) ?_
        refine lv_iload_n S.1 S.2.1 dX11_notTwo_17 rfl (lv_at hl 2 rfl) ?_
        refine Yicmp_ne (tgt := 25) S hx1 hx2 dX11_notTwo_18 (by decide) (fun c9_ => ?_) (fun c9_ => ?_)
        · replace hF := ZtN c9_ hF
          refine lv_aload_n S.1 S.2.1 dX11_notTwo_25 rfl (lv_at hl 0 rfl) ?_
          refine gf_X11_74 S hw dX11_notTwo_26 ?_
          refine lv_iload_n S.1 S.2.1 dX11_notTwo_29 rfl (lv_at hl 1 rfl) ?_
          obtain ⟨b10_, hF⟩ := Zgs hF
          refine Yiald S hw zd_90 (by decide) hx1 b10_ dX11_notTwo_30 ?_
          refine Yif_ge (tgt := 43) S (hzz5_.1 _ _ (by decide)) dX11_notTwo_31 (by decide) (fun c11_ => ?_) (fun c11_ => ?_)
          · replace hF := ZtP c11_ hF
            exact w_X11_notTwo_b43 S hr hlk hR hdj _ _ _ _ hF hw hzz5_  (lv_sub hl [] rfl)
          · replace hF := ZtN c11_ hF
            refine lv_aload_n S.1 S.2.1 dX11_notTwo_34 rfl (lv_at hl 0 rfl) ?_
            refine gf_X11_74 S hw dX11_notTwo_35 ?_
            refine lv_iload_n S.1 S.2.1 dX11_notTwo_38 rfl (lv_at hl 2 rfl) ?_
            obtain ⟨b12_, hF⟩ := Zgs hF
            refine Yiald S hw zd_90 (by decide) hx2 b12_ dX11_notTwo_39 ?_
            refine Yif_lt (tgt := 48) S (hzz5_.1 _ _ (by decide)) dX11_notTwo_40 (by decide) (fun c13_ => ?_) (fun c13_ => ?_)
            · replace hF := ZtP c13_ hF
              refine lv_iconst (v := i32 0) S.1 S.2.1 dX11_notTwo_48 ic_0 ?_
              exact w_X11_notTwo_b49 S hr hlk hR hdj _ _ _ _ _ hF hw hzz5_ r_0 (lv_sub hl [] rfl)
            · replace hF := ZtN c13_ hF
              exact w_X11_notTwo_b43 S hr hlk hR hdj _ _ _ _ hF hw hzz5_  (lv_sub hl [] rfl)
        · replace hF := ZtP c9_ hF
          exact w_X11_notTwo_b21 S hr hlk hR hdj _ _ _ _ hF hw hzz5_  (lv_sub hl [] rfl))
set_option maxRecDepth 100000 in
set_option maxHeartbeats 4000000 in
theorem w_X11_isIn_b18 {RR : Int × ZI} (S : CallFix p m c cX11_isIn 6 s args Ztbl RX11) (hr : meth.sig.returnType = some .boolean) (hlk : meth.locks = false) (hR : 0 ≤ R.frames ∧ 60 * (0) ≤ R.locals) (hdj : Zdj ad) : ∀ (z : ZI) (y0 : Int) (H : Heap) (locs : List Loc) (ls : Array Slot), X11_isIn_b18 z y0 = some RR → ZW D cA ad (ZA ad) (Zc z) s H locs → Zok z → InR y0 → lv_has ls 6 [] → W p l e R s m args below meth c H locs 0 0 (MQ below (YQi D cA ad RR.1 RR.2) args s 0 0 (ZA ad)) (F0 m 18 ls [.int (i32 (y0))]) := by
  intro z y0 H locs ls hF hw hzz hy0 hl
  unfold X11_isIn_b18 at hF
  obtain ⟨b1_, hF⟩ := Zgs hF
  exact Yiretz S hw hzz hy0 hr hlk b1_ hF dX11_isIn_18
set_option maxRecDepth 100000 in
set_option maxHeartbeats 4000000 in
theorem w_X11_isIn_b17 {RR : Int × ZI} (S : CallFix p m c cX11_isIn 6 s args Ztbl RX11) (hr : meth.sig.returnType = some .boolean) (hlk : meth.locks = false) (hR : 0 ≤ R.frames ∧ 60 * (0) ≤ R.locals) (hdj : Zdj ad) : ∀ (z : ZI) (H : Heap) (locs : List Loc) (ls : Array Slot), X11_isIn_b17 z  = some RR → ZW D cA ad (ZA ad) (Zc z) s H locs → Zok z → lv_has ls 6 [] → W p l e R s m args below meth c H locs 0 0 (MQ below (YQi D cA ad RR.1 RR.2) args s 0 0 (ZA ad)) (F0 m 17 ls []) := by
  intro z  H locs ls hF hw hzz  hl
  unfold X11_isIn_b17 at hF
  refine lv_iconst (v := i32 0) S.1 S.2.1 dX11_isIn_17 ic_0 ?_
  exact w_X11_isIn_b18 S hr hlk hR hdj _ _ _ _ _ hF hw hzz r_0 (lv_sub hl [] rfl)
set_option maxRecDepth 100000 in
set_option maxHeartbeats 4000000 in
theorem c_X11_isIn {l : Launch} {D : va_G} {cA : Nat → ClassId} {ad : Nat → Nat} (hdj : Zdj ad) {z z1 : ZI} {x0 : Int} {x2 : Int} {x4 : Int} {r : Int} (hzz : Zok z) (hx0 : InL x0) (hx2 : InL x2) (hx4 : InL x4) (hF : F_X11_isIn z x0 x2 x4 = some (r, z1)) : YMi l D cA ad (0) yX11_isIn cX11_isIn 6 (some .boolean) [.long (i64 x0), .long (i64 x2), .long (i64 x4)] z r z1 :=
  Zmet hdj (by decide) rfl (Nat.le_of_ble_eq_true rfl) (lv := [(0, .long (i64 (x0))), (2, .long (i64 (x2))), (4, .long (i64 (x4)))]) rfl (fun p e s m args below meth c ls S hr hlk hw hl => by
    have hR : 0 ≤ (Zrm (0)).frames ∧ 60 * (0) ≤ (Zrm (0)).locals := ⟨Nat.le_refl _, Nat.le_refl _⟩
    unfold F_X11_isIn at hF
    revert hR
    generalize Zrm (0) = R
    intro hR
    refine lv_lload_n S.1 S.2.1 dX11_isIn_0 rfl (lv_at hl 0 rfl) ?_
    refine lv_lload_n S.1 S.2.1 dX11_isIn_1 rfl (lv_at hl 1 rfl) ?_
    refine Ylcmp S hx0 hx2 dX11_isIn_2 ?_
    refine Yif_lt (tgt := 17) S (jcmp_in _ _) dX11_isIn_3 (by decide) (fun c1_ => ?_) (fun c1_ => ?_)
    · replace hF := ZtP c1_ hF
      exact w_X11_isIn_b17 S hr hlk hR hdj _ _ _ _ hF hw hzz  (lv_sub hl [] rfl)
    · replace hF := ZtN c1_ hF
      refine lv_lload_n S.1 S.2.1 dX11_isIn_6 rfl (lv_at hl 0 rfl) ?_
      refine lv_lload S.1 S.2.1 dX11_isIn_7 (lv_at hl 2 rfl) ?_
      refine Ylcmp S hx0 hx4 dX11_isIn_9 ?_
      refine Yif_gt (tgt := 17) S (jcmp_in _ _) dX11_isIn_10 (by decide) (fun c2_ => ?_) (fun c2_ => ?_)
      · replace hF := ZtP c2_ hF
        exact w_X11_isIn_b17 S hr hlk hR hdj _ _ _ _ hF hw hzz  (lv_sub hl [] rfl)
      · replace hF := ZtN c2_ hF
        refine lv_iconst (v := i32 1) S.1 S.2.1 dX11_isIn_13 ic_1 ?_
        refine lv_goto (tgt := 18) S.1 S.2.1 dX11_isIn_14 (by decide) ?_
        exact w_X11_isIn_b18 S hr hlk hR hdj _ _ _ _ _ hF hw hzz r_1 (lv_sub hl [] rfl))
set_option maxRecDepth 100000 in
set_option maxHeartbeats 4000000 in
theorem w_X11_pairsOf_b199 {RR : Int × ZI} (S : CallFix p m c cX11_pairsOf 7 s args Ztbl RX11) (hr : meth.sig.returnType = some .int) (hlk : meth.locks = false) (hR : 2 ≤ R.frames ∧ 60 * (2) ≤ R.locals) (hdj : Zdj ad) {k31 : ZI → Int → Int → Int → Int → Option (Int × ZI)} (hk31 : ∀ (z : ZI) (x1 : Int) (x2 : Int) (x3 : Int) (x4 : Int) (H : Heap) (locs : List Loc) (ls : Array Slot), k31 z x1 x2 x3 x4 = some RR → ZW D cA ad (ZA ad) (Zc z) s H locs → Zok z → InR x1 → InR x2 → InR x3 → InR x4 → lv_has ls 7 [(0, .ref (ad 68)), (1, .int (i32 (x1))), (2, .int (i32 (x2))), (3, .int (i32 (x3))), (4, .int (i32 (x4)))] → W p l e R s m args below meth c H locs 0 0 (MQ below (YQi D cA ad RR.1 RR.2) args s 0 0 (ZA ad)) (F0 m 31 ls [])) : ∀ (z : ZI) (x1 : Int) (x2 : Int) (x3 : Int) (x4 : Int) (H : Heap) (locs : List Loc) (ls : Array Slot), X11_pairsOf_b199 k31 z x1 x2 x3 x4 = some RR → ZW D cA ad (ZA ad) (Zc z) s H locs → Zok z → InR x1 → InR x2 → InR x3 → InR x4 → lv_has ls 7 [(0, .ref (ad 68)), (1, .int (i32 (x1))), (2, .int (i32 (x2))), (3, .int (i32 (x3))), (4, .int (i32 (x4)))] → W p l e R s m args below meth c H locs 0 0 (MQ below (YQi D cA ad RR.1 RR.2) args s 0 0 (ZA ad)) (F0 m 199 ls []) := by
  intro z x1 x2 x3 x4 H locs ls hF hw hzz hx1 hx2 hx3 hx4 hl
  unfold X11_pairsOf_b199 at hF
  obtain ⟨g1_, hF⟩ := Zgs hF
  refine lv_iinc (v := i32 (x4 + 1)) (lv' := [(4, .int (i32 (x4 + 1))), (0, .ref (ad 68)), (1, .int (i32 (x1))), (2, .int (i32 (x2))), (3, .int (i32 (x3)))]) S.1 S.2.1 dX11_pairsOf_199 hl (k := 4) rfl Yiinc (by decide) rfl (fun ls hl => ?_)
  refine lv_goto (tgt := 31) S.1 S.2.1 dX11_pairsOf_202 (by decide) ?_
  exact hk31 _ _ _ _ _ _ _ _ hF hw hzz hx1 hx2 hx3 g1_ (lv_sub hl [1, 2, 3, 4, 0] rfl)
set_option maxRecDepth 100000 in
set_option maxHeartbeats 4000000 in
theorem w_X11_pairsOf_b193 {RR : Int × ZI} (S : CallFix p m c cX11_pairsOf 7 s args Ztbl RX11) (hr : meth.sig.returnType = some .int) (hlk : meth.locks = false) (hR : 2 ≤ R.frames ∧ 60 * (2) ≤ R.locals) (hdj : Zdj ad) {k31 : ZI → Int → Int → Int → Int → Option (Int × ZI)} (hk31 : ∀ (z : ZI) (x1 : Int) (x2 : Int) (x3 : Int) (x4 : Int) (H : Heap) (locs : List Loc) (ls : Array Slot), k31 z x1 x2 x3 x4 = some RR → ZW D cA ad (ZA ad) (Zc z) s H locs → Zok z → InR x1 → InR x2 → InR x3 → InR x4 → lv_has ls 7 [(0, .ref (ad 68)), (1, .int (i32 (x1))), (2, .int (i32 (x2))), (3, .int (i32 (x3))), (4, .int (i32 (x4)))] → W p l e R s m args below meth c H locs 0 0 (MQ below (YQi D cA ad RR.1 RR.2) args s 0 0 (ZA ad)) (F0 m 31 ls [])) {k78 : ZI → Int → Int → Int → Int → Int → Int → Option (Int × ZI)} (hk78 : ∀ (z : ZI) (x1 : Int) (x2 : Int) (x3 : Int) (x4 : Int) (x5 : Int) (x6 : Int) (H : Heap) (locs : List Loc) (ls : Array Slot), k78 z x1 x2 x3 x4 x5 x6 = some RR → ZW D cA ad (ZA ad) (Zc z) s H locs → Zok z → InR x1 → InR x2 → InR x3 → InR x4 → InR x5 → InR x6 → lv_has ls 7 [(0, .ref (ad 68)), (1, .int (i32 (x1))), (2, .int (i32 (x2))), (3, .int (i32 (x3))), (4, .int (i32 (x4))), (5, .int (i32 (x5))), (6, .int (i32 (x6)))] → W p l e R s m args below meth c H locs 0 0 (MQ below (YQi D cA ad RR.1 RR.2) args s 0 0 (ZA ad)) (F0 m 78 ls [])) : ∀ (z : ZI) (x1 : Int) (x2 : Int) (x3 : Int) (x4 : Int) (x5 : Int) (x6 : Int) (H : Heap) (locs : List Loc) (ls : Array Slot), X11_pairsOf_b193 k31 k78 z x1 x2 x3 x4 x5 x6 = some RR → ZW D cA ad (ZA ad) (Zc z) s H locs → Zok z → InR x1 → InR x2 → InR x3 → InR x4 → InR x5 → InR x6 → lv_has ls 7 [(0, .ref (ad 68)), (1, .int (i32 (x1))), (2, .int (i32 (x2))), (3, .int (i32 (x3))), (4, .int (i32 (x4))), (5, .int (i32 (x5))), (6, .int (i32 (x6)))] → W p l e R s m args below meth c H locs 0 0 (MQ below (YQi D cA ad RR.1 RR.2) args s 0 0 (ZA ad)) (F0 m 193 ls []) := by
  intro z x1 x2 x3 x4 x5 x6 H locs ls hF hw hzz hx1 hx2 hx3 hx4 hx5 hx6 hl
  unfold X11_pairsOf_b193 at hF
  obtain ⟨g1_, hF⟩ := Zgs hF
  refine lv_iinc (v := i32 (x6 + 1)) (lv' := [(6, .int (i32 (x6 + 1))), (0, .ref (ad 68)), (1, .int (i32 (x1))), (2, .int (i32 (x2))), (3, .int (i32 (x3))), (4, .int (i32 (x4))), (5, .int (i32 (x5)))]) S.1 S.2.1 dX11_pairsOf_193 hl (k := 6) rfl Yiinc (by decide) rfl (fun ls hl => ?_)
  refine lv_goto (tgt := 78) S.1 S.2.1 dX11_pairsOf_196 (by decide) ?_
  exact hk78 _ _ _ _ _ _ _ _ _ _ hF hw hzz hx1 hx2 hx3 hx4 hx5 g1_ (lv_sub hl [1, 2, 3, 4, 5, 6, 0] rfl)
set_option maxRecDepth 100000 in
set_option maxHeartbeats 4000000 in
theorem w_X11_pairsOf_L78 {RR : Int × ZI} (S : CallFix p m c cX11_pairsOf 7 s args Ztbl RX11) (hr : meth.sig.returnType = some .int) (hlk : meth.locks = false) (hR : 2 ≤ R.frames ∧ 60 * (2) ≤ R.locals) (hdj : Zdj ad) {k31 : ZI → Int → Int → Int → Int → Option (Int × ZI)} (hk31 : ∀ (z : ZI) (x1 : Int) (x2 : Int) (x3 : Int) (x4 : Int) (H : Heap) (locs : List Loc) (ls : Array Slot), k31 z x1 x2 x3 x4 = some RR → ZW D cA ad (ZA ad) (Zc z) s H locs → Zok z → InR x1 → InR x2 → InR x3 → InR x4 → lv_has ls 7 [(0, .ref (ad 68)), (1, .int (i32 (x1))), (2, .int (i32 (x2))), (3, .int (i32 (x3))), (4, .int (i32 (x4)))] → W p l e R s m args below meth c H locs 0 0 (MQ below (YQi D cA ad RR.1 RR.2) args s 0 0 (ZA ad)) (F0 m 31 ls [])) : ∀ (n : Nat) (z : ZI) (x1 : Int) (x2 : Int) (x3 : Int) (x4 : Int) (x5 : Int) (x6 : Int) (H : Heap) (locs : List Loc) (ls : Array Slot), X11_pairsOf_L78 k31 n z x1 x2 x3 x4 x5 x6 = some RR → ZW D cA ad (ZA ad) (Zc z) s H locs → Zok z → InR x1 → InR x2 → InR x3 → InR x4 → InR x5 → InR x6 → lv_has ls 7 [(0, .ref (ad 68)), (1, .int (i32 (x1))), (2, .int (i32 (x2))), (3, .int (i32 (x3))), (4, .int (i32 (x4))), (5, .int (i32 (x5))), (6, .int (i32 (x6)))] → W p l e R s m args below meth c H locs 0 0 (MQ below (YQi D cA ad RR.1 RR.2) args s 0 0 (ZA ad)) (F0 m 78 ls []) := by
  intro n
  induction n with
  | zero => intro z x1 x2 x3 x4 x5 x6 H locs ls hF; exact nomatch hF
  | succ n hk78 =>
    intro z x1 x2 x3 x4 x5 x6 H locs ls hF hw hzz hx1 hx2 hx3 hx4 hx5 hx6 hl
    replace hF : X11_pairsOf_L78b k31 (X11_pairsOf_L78 k31 n) z x1 x2 x3 x4 x5 x6 = some RR := hF
    unfold X11_pairsOf_L78b at hF
    refine lv_iload S.1 S.2.1 dX11_pairsOf_78 (lv_at hl 6 rfl) ?_
    refine lv_aload_n S.1 S.2.1 dX11_pairsOf_80 rfl (lv_at hl 0 rfl) ?_
    refine gg_X11_197 S hw dX11_pairsOf_81 ?_
    refine Yicmp_ge (tgt := 199) S hx6 (hzz.1 68 13 (by decide)) dX11_pairsOf_84 (by decide) (fun c1_ => ?_) (fun c1_ => ?_)
    · replace hF := ZtP c1_ hF
      exact w_X11_pairsOf_b199 S hr hlk hR hdj hk31 _ _ _ _ _ _ _ _ hF hw hzz hx1 hx2 hx3 hx4 (lv_sub hl [0, 1, 2, 3, 4] rfl)
    · replace hF := ZtN c1_ hF
      refine lv_iload S.1 S.2.1 dX11_pairsOf_87 (lv_at hl 5 rfl) ?_
      refine Yif_ne (tgt := 199) S hx5 dX11_pairsOf_89 (by decide) (fun c2_ => ?_) (fun c2_ => ?_)
      · replace hF := ZtN c2_ hF
        exact w_X11_pairsOf_b199 S hr hlk hR hdj hk31 _ _ _ _ _ _ _ _ hF hw hzz hx1 hx2 hx3 hx4 (lv_sub hl [0, 1, 2, 3, 4] rfl)
      · replace hF := ZtP c2_ hF
        refine lv_aload_n S.1 S.2.1 dX11_pairsOf_92 rfl (lv_at hl 0 rfl) ?_
        refine gf_X11_22 S hw dX11_pairsOf_93 ?_
        refine lv_iload S.1 S.2.1 dX11_pairsOf_96 (lv_at hl 6 rfl) ?_
        obtain ⟨b3_, hF⟩ := Zgs hF
        refine Yiald S hw zd_73 (by decide) hx6 b3_ dX11_pairsOf_98 ?_
        refine lv_aload_n S.1 S.2.1 dX11_pairsOf_99 rfl (lv_at hl 0 rfl) ?_
        refine gf_X11_68 S hw dX11_pairsOf_100 ?_
        refine lv_iload_n S.1 S.2.1 dX11_pairsOf_103 rfl (lv_at hl 2 rfl) ?_
        obtain ⟨b4_, hF⟩ := Zgs hF
        refine Yiald S hw zd_88 (by decide) hx2 b4_ dX11_pairsOf_104 ?_
        refine Yicmp_ne (tgt := 193) S (hzz.1 _ _ (by decide)) (hzz.1 _ _ (by decide)) dX11_pairsOf_105 (by decide) (fun c5_ => ?_) (fun c5_ => ?_)
        · replace hF := ZtN c5_ hF
          exact w_X11_pairsOf_b193 S hr hlk hR hdj hk31 hk78 _ _ _ _ _ _ _ _ _ _ hF hw hzz hx1 hx2 hx3 hx4 hx5 hx6 (lv_sub hl [0, 1, 2, 3, 4, 5, 6] rfl)
        · replace hF := ZtP c5_ hF
          refine lv_aload_n S.1 S.2.1 dX11_pairsOf_108 rfl (lv_at hl 0 rfl) ?_
          refine lv_iload S.1 S.2.1 dX11_pairsOf_109 (lv_at hl 6 rfl) ?_
          refine lv_aload_n S.1 S.2.1 dX11_pairsOf_111 rfl (lv_at hl 0 rfl) ?_
          refine gg_X11_200 S hw dX11_pairsOf_112 ?_
          obtain ⟨r8_, z6_, h7_, hF⟩ := Ybs hF
          refine YcallVi (rest := []) S hw (c_X11_isHere hdj hzz hx6 (hzz.1 68 11 (by decide)) h7_) my_X11_isHere mi_X11_isHere ml_X11_258 zd_68 zc_X11 rfl (Zrr hR (by decide)) ⟨Nat.zero_le _, Nat.zero_le _⟩ hl.1 rfl rfl (Nat.le_of_ble_eq_true rfl) dX11_pairsOf_115 (fun hrr8_ hzz6_ H locs hw => ?_)
          refine Yif_eq (tgt := 193) S hrr8_ dX11_pairsOf_118 (by decide) (fun c9_ => ?_) (fun c9_ => ?_)
          · replace hF := ZtP c9_ hF
            exact w_X11_pairsOf_b193 S hr hlk hR hdj hk31 hk78 _ _ _ _ _ _ _ _ _ _ hF hw hzz6_ hx1 hx2 hx3 hx4 hx5 hx6 (lv_sub hl [0, 1, 2, 3, 4, 5, 6] rfl)
          · replace hF := ZtN c9_ hF
            refine lv_aload_n S.1 S.2.1 dX11_pairsOf_121 rfl (lv_at hl 0 rfl) ?_
            refine gf_X11_86 S hw dX11_pairsOf_122 ?_
            refine lv_iload S.1 S.2.1 dX11_pairsOf_125 (lv_at hl 6 rfl) ?_
            obtain ⟨b10_, hF⟩ := Zgs hF
            refine Yzald S hw zd_94 (by decide) hx6 b10_ dX11_pairsOf_127 ?_
            refine Yif_eq (tgt := 193) S (hzz6_.1 _ _ (by decide)) dX11_pairsOf_128 (by decide) (fun c11_ => ?_) (fun c11_ => ?_)
            · replace hF := ZtP c11_ hF
              exact w_X11_pairsOf_b193 S hr hlk hR hdj hk31 hk78 _ _ _ _ _ _ _ _ _ _ hF hw hzz6_ hx1 hx2 hx3 hx4 hx5 hx6 (lv_sub hl [0, 1, 2, 3, 4, 5, 6] rfl)
            · replace hF := ZtN c11_ hF
              refine lv_aload_n S.1 S.2.1 dX11_pairsOf_131 rfl (lv_at hl 0 rfl) ?_
              refine gf_X11_25 S hw dX11_pairsOf_132 ?_
              refine lv_iload S.1 S.2.1 dX11_pairsOf_135 (lv_at hl 4 rfl) ?_
              obtain ⟨b12_, hF⟩ := Zgs hF
              refine Yiald S hw zd_74 (by decide) hx4 b12_ dX11_pairsOf_137 ?_
              refine lv_aload_n S.1 S.2.1 dX11_pairsOf_138 rfl (lv_at hl 0 rfl) ?_
              refine gf_X11_25 S hw dX11_pairsOf_139 ?_
              refine lv_iload S.1 S.2.1 dX11_pairsOf_142 (lv_at hl 6 rfl) ?_
              obtain ⟨b13_, hF⟩ := Zgs hF
              refine Yiald S hw zd_74 (by decide) hx6 b13_ dX11_pairsOf_144 ?_
              obtain ⟨g14_, hF⟩ := Zgs hF
              refine Yisub S dX11_pairsOf_145 ?_
              refine Yi2l S g14_ dX11_pairsOf_146 ?_
              refine lv_ldc2 (own := RX11) (v := i64 (-3)) S.1 S.2.1 S.2.2.2.1 (S.2.2.2.2 _ yl_X11_355) dX11_pairsOf_147 ?_
              refine lv_ldc2 (own := RX11) (v := i64 3) S.1 S.2.1 S.2.2.2.1 (S.2.2.2.2 _ yl_X11_224) dX11_pairsOf_150 ?_
              obtain ⟨r17_, z15_, h16_, hF⟩ := Ybs hF
              refine YcallSi (rest := []) S hw (c_X11_isIn hdj hzz6_ (InR_L g14_) (InR_L r_m3) (InR_L r_3) h16_) my_X11_isIn ms_X11_isIn ml_X11_226 (Zrr hR (by decide)) ⟨Nat.zero_le _, Nat.zero_le _⟩ hl.1 rfl rfl (Nat.le_of_ble_eq_true rfl) dX11_pairsOf_153 (fun hrr17_ hzz15_ H locs hw => ?_)
              refine Yif_eq (tgt := 193) S hrr17_ dX11_pairsOf_156 (by decide) (fun c18_ => ?_) (fun c18_ => ?_)
              · replace hF := ZtP c18_ hF
                exact w_X11_pairsOf_b193 S hr hlk hR hdj hk31 hk78 _ _ _ _ _ _ _ _ _ _ hF hw hzz15_ hx1 hx2 hx3 hx4 hx5 hx6 (lv_sub hl [0, 1, 2, 3, 4, 5, 6] rfl)
              · replace hF := ZtN c18_ hF
                refine lv_aload_n S.1 S.2.1 dX11_pairsOf_159 rfl (lv_at hl 0 rfl) ?_
                refine gf_X11_28 S hw dX11_pairsOf_160 ?_
                refine lv_iload S.1 S.2.1 dX11_pairsOf_163 (lv_at hl 4 rfl) ?_
                obtain ⟨b19_, hF⟩ := Zgs hF
                refine Yiald S hw zd_75 (by decide) hx4 b19_ dX11_pairsOf_165 ?_
                refine lv_aload_n S.1 S.2.1 dX11_pairsOf_166 rfl (lv_at hl 0 rfl) ?_
                refine gf_X11_28 S hw dX11_pairsOf_167 ?_
                refine lv_iload S.1 S.2.1 dX11_pairsOf_170 (lv_at hl 6 rfl) ?_
                obtain ⟨b20_, hF⟩ := Zgs hF
                refine Yiald S hw zd_75 (by decide) hx6 b20_ dX11_pairsOf_172 ?_
                refine Yicmp_eq (tgt := 179) S (hzz15_.1 _ _ (by decide)) (hzz15_.1 _ _ (by decide)) dX11_pairsOf_173 (by decide) (fun c21_ => ?_) (fun c21_ => ?_)
                · replace hF := ZtP c21_ hF
                  refine lv_aload_n S.1 S.2.1 dX11_pairsOf_179 rfl (lv_at hl 0 rfl) ?_
                  refine gf_X11_86 S hw dX11_pairsOf_180 ?_
                  refine lv_iload S.1 S.2.1 dX11_pairsOf_183 (lv_at hl 6 rfl) ?_
                  refine lv_iconst (v := i32 0) S.1 S.2.1 dX11_pairsOf_185 ic_0 ?_
                  obtain ⟨b22_, hF⟩ := Zgs hF
                  refine Yzast S hw hzz15_ zd_94 (by decide) hx6 r_0 (Or.inl rfl) b22_ dX11_pairsOf_186 (fun z23_ H locs ez hzz23_ hw => ?_)
                  replace hF := Zle ez hF; clear ez
                  refine lv_iconst (v := i32 1) S.1 S.2.1 dX11_pairsOf_187 ic_1 ?_
                  refine lv_istore (lv' := [(5, .int (i32 (1))), (0, .ref (ad 68)), (1, .int (i32 (x1))), (2, .int (i32 (x2))), (3, .int (i32 (x3))), (4, .int (i32 (x4))), (6, .int (i32 (x6)))]) S.1 S.2.1 dX11_pairsOf_188 hl (by decide) rfl (fun ls hl => ?_)
                  obtain ⟨g24_, hF⟩ := Zgs hF
                  refine lv_iinc (v := i32 (x3 + 1)) (lv' := [(3, .int (i32 (x3 + 1))), (5, .int (i32 (1))), (0, .ref (ad 68)), (1, .int (i32 (x1))), (2, .int (i32 (x2))), (4, .int (i32 (x4))), (6, .int (i32 (x6)))]) S.1 S.2.1 dX11_pairsOf_190 hl (k := 4) rfl Yiinc (by decide) rfl (fun ls hl => ?_)
                  exact w_X11_pairsOf_b193 S hr hlk hR hdj hk31 hk78 _ _ _ _ _ _ _ _ _ _ hF hw hzz23_ hx1 hx2 g24_ hx4 r_1 hx6 (lv_sub hl [2, 3, 4, 0, 5, 1, 6] rfl)
                · replace hF := ZtN c21_ hF
                  refine lv_goto (tgt := 193) S.1 S.2.1 dX11_pairsOf_176 (by decide) ?_
                  exact w_X11_pairsOf_b193 S hr hlk hR hdj hk31 hk78 _ _ _ _ _ _ _ _ _ _ hF hw hzz15_ hx1 hx2 hx3 hx4 hx5 hx6 (lv_sub hl [0, 1, 2, 3, 4, 5, 6] rfl)
set_option maxRecDepth 100000 in
set_option maxHeartbeats 4000000 in
theorem w_X11_pairsOf_L31 {RR : Int × ZI} (S : CallFix p m c cX11_pairsOf 7 s args Ztbl RX11) (hr : meth.sig.returnType = some .int) (hlk : meth.locks = false) (hR : 2 ≤ R.frames ∧ 60 * (2) ≤ R.locals) (hdj : Zdj ad) : ∀ (n : Nat) (z : ZI) (x1 : Int) (x2 : Int) (x3 : Int) (x4 : Int) (H : Heap) (locs : List Loc) (ls : Array Slot), X11_pairsOf_L31 n z x1 x2 x3 x4 = some RR → ZW D cA ad (ZA ad) (Zc z) s H locs → Zok z → InR x1 → InR x2 → InR x3 → InR x4 → lv_has ls 7 [(0, .ref (ad 68)), (1, .int (i32 (x1))), (2, .int (i32 (x2))), (3, .int (i32 (x3))), (4, .int (i32 (x4)))] → W p l e R s m args below meth c H locs 0 0 (MQ below (YQi D cA ad RR.1 RR.2) args s 0 0 (ZA ad)) (F0 m 31 ls []) := by
  intro n
  induction n with
  | zero => intro z x1 x2 x3 x4 H locs ls hF; exact nomatch hF
  | succ n hk31 =>
    intro z x1 x2 x3 x4 H locs ls hF hw hzz hx1 hx2 hx3 hx4 hl
    replace hF : X11_pairsOf_L31b (X11_pairsOf_L31 n) z x1 x2 x3 x4 = some RR := hF
    unfold X11_pairsOf_L31b at hF
    refine lv_iload S.1 S.2.1 dX11_pairsOf_31 (lv_at hl 4 rfl) ?_
    refine lv_aload_n S.1 S.2.1 dX11_pairsOf_33 rfl (lv_at hl 0 rfl) ?_
    refine gg_X11_197 S hw dX11_pairsOf_34 ?_
    refine Yicmp_ge (tgt := 205) S hx4 (hzz.1 68 13 (by decide)) dX11_pairsOf_37 (by decide) (fun c1_ => ?_) (fun c1_ => ?_)
    · replace hF := ZtP c1_ hF
      refine lv_iload_n S.1 S.2.1 dX11_pairsOf_205 rfl (lv_at hl 3 rfl) ?_
      exact Yireti S hw hzz hx3 hr hlk hF dX11_pairsOf_206
    · replace hF := ZtN c1_ hF
      refine lv_aload_n S.1 S.2.1 dX11_pairsOf_40 rfl (lv_at hl 0 rfl) ?_
      refine gf_X11_22 S hw dX11_pairsOf_41 ?_
      refine lv_iload S.1 S.2.1 dX11_pairsOf_44 (lv_at hl 4 rfl) ?_
      obtain ⟨b2_, hF⟩ := Zgs hF
      refine Yiald S hw zd_73 (by decide) hx4 b2_ dX11_pairsOf_46 ?_
      refine lv_aload_n S.1 S.2.1 dX11_pairsOf_47 rfl (lv_at hl 0 rfl) ?_
      refine gf_X11_68 S hw dX11_pairsOf_48 ?_
      refine lv_iload_n S.1 S.2.1 dX11_pairsOf_51 rfl (lv_at hl 1 rfl) ?_
      obtain ⟨b3_, hF⟩ := Zgs hF
      refine Yiald S hw zd_88 (by decide) hx1 b3_ dX11_pairsOf_52 ?_
      refine Yicmp_ne (tgt := 199) S (hzz.1 _ _ (by decide)) (hzz.1 _ _ (by decide)) dX11_pairsOf_53 (by decide) (fun c4_ => ?_) (fun c4_ => ?_)
      · replace hF := ZtN c4_ hF
        exact w_X11_pairsOf_b199 S hr hlk hR hdj hk31 _ _ _ _ _ _ _ _ hF hw hzz hx1 hx2 hx3 hx4 (lv_sub hl [0, 1, 2, 3, 4] rfl)
      · replace hF := ZtP c4_ hF
        refine lv_aload_n S.1 S.2.1 dX11_pairsOf_56 rfl (lv_at hl 0 rfl) ?_
        refine lv_iload S.1 S.2.1 dX11_pairsOf_57 (lv_at hl 4 rfl) ?_
        refine lv_aload_n S.1 S.2.1 dX11_pairsOf_59 rfl (lv_at hl 0 rfl) ?_
        refine gg_X11_200 S hw dX11_pairsOf_60 ?_
        obtain ⟨r7_, z5_, h6_, hF⟩ := Ybs hF
        refine YcallVi (rest := []) S hw (c_X11_isHere hdj hzz hx4 (hzz.1 68 11 (by decide)) h6_) my_X11_isHere mi_X11_isHere ml_X11_258 zd_68 zc_X11 rfl (Zrr hR (by decide)) ⟨Nat.zero_le _, Nat.zero_le _⟩ hl.1 rfl rfl (Nat.le_of_ble_eq_true rfl) dX11_pairsOf_63 (fun hrr7_ hzz5_ H locs hw => ?_)
        refine Yif_ne (tgt := 72) S hrr7_ dX11_pairsOf_66 (by decide) (fun c8_ => ?_) (fun c8_ => ?_)
        · replace hF := ZtN c8_ hF
          refine lv_iconst (v := i32 0) S.1 S.2.1 dX11_pairsOf_72 ic_0 ?_
          refine lv_istore (lv' := [(5, .int (i32 (0))), (0, .ref (ad 68)), (1, .int (i32 (x1))), (2, .int (i32 (x2))), (3, .int (i32 (x3))), (4, .int (i32 (x4)))]) S.1 S.2.1 dX11_pairsOf_73 hl (by decide) rfl (fun ls hl => ?_)
          refine lv_iconst (v := i32 0) S.1 S.2.1 dX11_pairsOf_75 ic_0 ?_
          refine lv_istore (lv' := [(6, .int (i32 (0))), (5, .int (i32 (0))), (0, .ref (ad 68)), (1, .int (i32 (x1))), (2, .int (i32 (x2))), (3, .int (i32 (x3))), (4, .int (i32 (x4)))]) S.1 S.2.1 dX11_pairsOf_76 hl (by decide) rfl (fun ls hl => ?_)
          exact w_X11_pairsOf_L78 S hr hlk hR hdj hk31 Zfuel _ _ _ _ _ _ _ _ _ _ hF hw hzz5_ hx1 hx2 hx3 hx4 r_0 r_0 (lv_sub hl [2, 3, 4, 5, 6, 1, 0] rfl)
        · replace hF := ZtP c8_ hF
          refine lv_goto (tgt := 199) S.1 S.2.1 dX11_pairsOf_69 (by decide) ?_
          exact w_X11_pairsOf_b199 S hr hlk hR hdj hk31 _ _ _ _ _ _ _ _ hF hw hzz5_ hx1 hx2 hx3 hx4 (lv_sub hl [0, 1, 2, 3, 4] rfl)
set_option maxRecDepth 100000 in
set_option maxHeartbeats 4000000 in
theorem w_X11_pairsOf_b28 {RR : Int × ZI} (S : CallFix p m c cX11_pairsOf 7 s args Ztbl RX11) (hr : meth.sig.returnType = some .int) (hlk : meth.locks = false) (hR : 2 ≤ R.frames ∧ 60 * (2) ≤ R.locals) (hdj : Zdj ad) : ∀ (z : ZI) (x1 : Int) (x2 : Int) (x3 : Int) (H : Heap) (locs : List Loc) (ls : Array Slot), X11_pairsOf_b28 z x1 x2 x3 = some RR → ZW D cA ad (ZA ad) (Zc z) s H locs → Zok z → InR x1 → InR x2 → InR x3 → lv_has ls 7 [(0, .ref (ad 68)), (1, .int (i32 (x1))), (2, .int (i32 (x2))), (3, .int (i32 (x3)))] → W p l e R s m args below meth c H locs 0 0 (MQ below (YQi D cA ad RR.1 RR.2) args s 0 0 (ZA ad)) (F0 m 28 ls []) := by
  intro z x1 x2 x3 H locs ls hF hw hzz hx1 hx2 hx3 hl
  unfold X11_pairsOf_b28 at hF
  refine lv_iconst (v := i32 0) S.1 S.2.1 dX11_pairsOf_28 ic_0 ?_
  refine lv_istore (lv' := [(4, .int (i32 (0))), (0, .ref (ad 68)), (1, .int (i32 (x1))), (2, .int (i32 (x2))), (3, .int (i32 (x3)))]) S.1 S.2.1 dX11_pairsOf_29 hl (by decide) rfl (fun ls hl => ?_)
  exact w_X11_pairsOf_L31 S hr hlk hR hdj Zfuel _ _ _ _ _ _ _ _ hF hw hzz hx1 hx2 hx3 r_0 (lv_sub hl [1, 2, 3, 4, 0] rfl)
set_option maxRecDepth 100000 in
set_option maxHeartbeats 4000000 in
theorem w_X11_pairsOf_L5 {RR : Int × ZI} (S : CallFix p m c cX11_pairsOf 7 s args Ztbl RX11) (hr : meth.sig.returnType = some .int) (hlk : meth.locks = false) (hR : 2 ≤ R.frames ∧ 60 * (2) ≤ R.locals) (hdj : Zdj ad) : ∀ (n : Nat) (z : ZI) (x1 : Int) (x2 : Int) (x3 : Int) (x4 : Int) (H : Heap) (locs : List Loc) (ls : Array Slot), X11_pairsOf_L5 n z x1 x2 x3 x4 = some RR → ZW D cA ad (ZA ad) (Zc z) s H locs → Zok z → InR x1 → InR x2 → InR x3 → InR x4 → lv_has ls 7 [(0, .ref (ad 68)), (1, .int (i32 (x1))), (2, .int (i32 (x2))), (3, .int (i32 (x3))), (4, .int (i32 (x4)))] → W p l e R s m args below meth c H locs 0 0 (MQ below (YQi D cA ad RR.1 RR.2) args s 0 0 (ZA ad)) (F0 m 5 ls []) := by
  intro n
  induction n with
  | zero => intro z x1 x2 x3 x4 H locs ls hF; exact nomatch hF
  | succ n hk5 =>
    intro z x1 x2 x3 x4 H locs ls hF hw hzz hx1 hx2 hx3 hx4 hl
    replace hF : X11_pairsOf_L5b (X11_pairsOf_L5 n) z x1 x2 x3 x4 = some RR := hF
    unfold X11_pairsOf_L5b at hF
    refine lv_iload S.1 S.2.1 dX11_pairsOf_5 (lv_at hl 4 rfl) ?_
    refine lv_aload_n S.1 S.2.1 dX11_pairsOf_7 rfl (lv_at hl 0 rfl) ?_
    refine gg_X11_197 S hw dX11_pairsOf_8 ?_
    refine Yicmp_ge (tgt := 28) S hx4 (hzz.1 68 13 (by decide)) dX11_pairsOf_11 (by decide) (fun c1_ => ?_) (fun c1_ => ?_)
    · replace hF := ZtP c1_ hF
      exact w_X11_pairsOf_b28 S hr hlk hR hdj _ _ _ _ _ _ _ hF hw hzz hx1 hx2 hx3 (lv_sub hl [0, 1, 2, 3] rfl)
    · replace hF := ZtN c1_ hF
      refine lv_aload_n S.1 S.2.1 dX11_pairsOf_14 rfl (lv_at hl 0 rfl) ?_
      refine gf_X11_86 S hw dX11_pairsOf_15 ?_
      refine lv_iload S.1 S.2.1 dX11_pairsOf_18 (lv_at hl 4 rfl) ?_
      refine lv_iconst (v := i32 1) S.1 S.2.1 dX11_pairsOf_20 ic_1 ?_
      obtain ⟨b2_, hF⟩ := Zgs hF
      refine Yzast S hw hzz zd_94 (by decide) hx4 r_1 (Or.inr rfl) b2_ dX11_pairsOf_21 (fun z3_ H locs ez hzz3_ hw => ?_)
      replace hF := Zle ez hF; clear ez
      obtain ⟨g4_, hF⟩ := Zgs hF
      refine lv_iinc (v := i32 (x4 + 1)) (lv' := [(4, .int (i32 (x4 + 1))), (0, .ref (ad 68)), (1, .int (i32 (x1))), (2, .int (i32 (x2))), (3, .int (i32 (x3)))]) S.1 S.2.1 dX11_pairsOf_22 hl (k := 4) rfl Yiinc (by decide) rfl (fun ls hl => ?_)
      refine lv_goto (tgt := 5) S.1 S.2.1 dX11_pairsOf_25 (by decide) ?_
      exact hk5 _ _ _ _ _ _ _ _ hF hw hzz3_ hx1 hx2 hx3 g4_ (lv_sub hl [1, 2, 3, 4, 0] rfl)
set_option maxRecDepth 100000 in
set_option maxHeartbeats 4000000 in
theorem c_X11_pairsOf {l : Launch} {D : va_G} {cA : Nat → ClassId} {ad : Nat → Nat} (hdj : Zdj ad) {z z1 : ZI} {x1 : Int} {x2 : Int} {r : Int} (hzz : Zok z) (hx1 : InR x1) (hx2 : InR x2) (hF : F_X11_pairsOf z x1 x2 = some (r, z1)) : YMi l D cA ad (2) yX11_pairsOf cX11_pairsOf 7 (some .int) [.ref (ad 68), .int (i32 x1), .int (i32 x2)] z r z1 :=
  Zmet hdj (by decide) rfl (Nat.le_of_ble_eq_true rfl) (lv := [(0, .ref (ad 68)), (1, .int (i32 (x1))), (2, .int (i32 (x2)))]) rfl (fun p e s m args below meth c ls S hr hlk hw hl => by
    have hR : 2 ≤ (Zrm (2)).frames ∧ 60 * (2) ≤ (Zrm (2)).locals := ⟨Nat.le_refl _, Nat.le_refl _⟩
    unfold F_X11_pairsOf at hF
    revert hR
    generalize Zrm (2) = R
    intro hR
    refine lv_iconst (v := i32 0) S.1 S.2.1 dX11_pairsOf_0 ic_0 ?_
    refine lv_istore_n (lv' := [(3, .int (i32 (0))), (0, .ref (ad 68)), (1, .int (i32 (x1))), (2, .int (i32 (x2)))]) S.1 S.2.1 dX11_pairsOf_1 rfl hl (by decide) rfl (fun ls hl => ?_)
    refine lv_iconst (v := i32 0) S.1 S.2.1 dX11_pairsOf_2 ic_0 ?_
    refine lv_istore (lv' := [(4, .int (i32 (0))), (3, .int (i32 (0))), (0, .ref (ad 68)), (1, .int (i32 (x1))), (2, .int (i32 (x2)))]) S.1 S.2.1 dX11_pairsOf_3 hl (by decide) rfl (fun ls hl => ?_)
    exact w_X11_pairsOf_L5 S hr hlk hR hdj Zfuel _ _ _ _ _ _ _ _ hF hw hzz hx1 hx2 r_0 r_0 (lv_sub hl [2, 3, 4, 1, 0] rfl))
set_option maxRecDepth 100000 in
set_option maxHeartbeats 4000000 in
theorem w_X11_alike_b134 {RR : Int × ZI} (S : CallFix p m c cX11_alike 9 s args Ztbl RX11) (hr : meth.sig.returnType = some .int) (hlk : meth.locks = false) (hR : 3 ≤ R.frames ∧ 60 * (3) ≤ R.locals) (hdj : Zdj ad) : ∀ (z : ZI) (y0 : Int) (H : Heap) (locs : List Loc) (ls : Array Slot), X11_alike_b134 z y0 = some RR → ZW D cA ad (ZA ad) (Zc z) s H locs → Zok z → InR y0 → lv_has ls 9 [] → W p l e R s m args below meth c H locs 0 0 (MQ below (YQi D cA ad RR.1 RR.2) args s 0 0 (ZA ad)) (F0 m 134 ls [.int (i32 (y0))]) := by
  intro z y0 H locs ls hF hw hzz hy0 hl
  unfold X11_alike_b134 at hF
  exact Yireti S hw hzz hy0 hr hlk hF dX11_alike_134
set_option maxRecDepth 100000 in
set_option maxHeartbeats 4000000 in
theorem w_X11_alike_b124 {RR : Int × ZI} (S : CallFix p m c cX11_alike 9 s args Ztbl RX11) (hr : meth.sig.returnType = some .int) (hlk : meth.locks = false) (hR : 3 ≤ R.frames ∧ 60 * (3) ≤ R.locals) (hdj : Zdj ad) : ∀ (z : ZI) (x6 : Int) (H : Heap) (locs : List Loc) (ls : Array Slot), X11_alike_b124 z x6 = some RR → ZW D cA ad (ZA ad) (Zc z) s H locs → Zok z → InR x6 → lv_has ls 9 [(6, .int (i32 (x6)))] → W p l e R s m args below meth c H locs 0 0 (MQ below (YQi D cA ad RR.1 RR.2) args s 0 0 (ZA ad)) (F0 m 124 ls []) := by
  intro z x6 H locs ls hF hw hzz hx6 hl
  unfold X11_alike_b124 at hF
  refine lv_iload S.1 S.2.1 dX11_alike_124 (lv_at hl 0 rfl) ?_
  refine Yif_le (tgt := 133) S hx6 dX11_alike_126 (by decide) (fun c1_ => ?_) (fun c1_ => ?_)
  · replace hF := ZtP c1_ hF
    refine lv_iconst (v := i32 0) S.1 S.2.1 dX11_alike_133 ic_0 ?_
    exact w_X11_alike_b134 S hr hlk hR hdj _ _ _ _ _ hF hw hzz r_0 (lv_sub hl [] rfl)
  · replace hF := ZtN c1_ hF
    refine lv_iconst (v := i32 1) S.1 S.2.1 dX11_alike_129 ic_1 ?_
    refine lv_goto (tgt := 134) S.1 S.2.1 dX11_alike_130 (by decide) ?_
    exact w_X11_alike_b134 S hr hlk hR hdj _ _ _ _ _ hF hw hzz r_1 (lv_sub hl [] rfl)
set_option maxRecDepth 100000 in
set_option maxHeartbeats 4000000 in
theorem w_X11_alike_b96 {RR : Int × ZI} (S : CallFix p m c cX11_alike 9 s args Ztbl RX11) (hr : meth.sig.returnType = some .int) (hlk : meth.locks = false) (hR : 3 ≤ R.frames ∧ 60 * (3) ≤ R.locals) (hdj : Zdj ad) : ∀ (z : ZI) (x4 : Int) (x5 : Int) (x6 : Int) (y0 : Int) (y1 : Int) (H : Heap) (locs : List Loc) (ls : Array Slot), X11_alike_b96 z x4 x5 x6 y0 y1 = some RR → ZW D cA ad (ZA ad) (Zc z) s H locs → Zok z → InR x4 → InR x5 → InR x6 → InR y0 → InR y1 → lv_has ls 9 [(0, .ref (ad 68)), (4, .int (i32 (x4))), (5, .int (i32 (x5))), (6, .int (i32 (x6)))] → W p l e R s m args below meth c H locs 0 0 (MQ below (YQi D cA ad RR.1 RR.2) args s 0 0 (ZA ad)) (F0 m 96 ls [.int (i32 (y1)), .int (i32 (y0))]) := by
  intro z x4 x5 x6 y0 y1 H locs ls hF hw hzz hx4 hx5 hx6 hy0 hy1 hl
  unfold X11_alike_b96 at hF
  refine Yicmp_ne (tgt := 124) S hy0 hy1 dX11_alike_96 (by decide) (fun c1_ => ?_) (fun c1_ => ?_)
  · replace hF := ZtN c1_ hF
    exact w_X11_alike_b124 S hr hlk hR hdj _ _ _ _ _ hF hw hzz hx6 (lv_sub hl [3] rfl)
  · replace hF := ZtP c1_ hF
    refine lv_aload_n S.1 S.2.1 dX11_alike_99 rfl (lv_at hl 0 rfl) ?_
    refine gf_X11_16 S hw dX11_alike_100 ?_
    refine lv_iload S.1 S.2.1 dX11_alike_103 (lv_at hl 1 rfl) ?_
    obtain ⟨b2_, hF⟩ := Zgs hF
    refine Yiald S hw zd_71 (by decide) hx4 b2_ dX11_alike_105 ?_
    refine lv_aload_n S.1 S.2.1 dX11_alike_106 rfl (lv_at hl 0 rfl) ?_
    refine gf_X11_16 S hw dX11_alike_107 ?_
    refine lv_iload S.1 S.2.1 dX11_alike_110 (lv_at hl 2 rfl) ?_
    obtain ⟨b3_, hF⟩ := Zgs hF
    refine Yiald S hw zd_71 (by decide) hx5 b3_ dX11_alike_112 ?_
    obtain ⟨r6_, z4_, h5_, hF⟩ := Ybs hF
    refine YcallSi (rest := []) S hw (c_X11_far hdj hzz (hzz.1 _ _ (by decide)) (hzz.1 _ _ (by decide)) h5_) my_X11_far ms_X11_far ml_X11_366 (Zrr hR (by decide)) ⟨Nat.zero_le _, Nat.zero_le _⟩ hl.1 rfl rfl (Nat.le_of_ble_eq_true rfl) dX11_alike_113 (fun hrr6_ hzz4_ H locs hw => ?_)
    refine lv_iconst (v := i32 3) S.1 S.2.1 dX11_alike_116 ic_3 ?_
    refine Yicmp_gt (tgt := 124) S hrr6_ r_3 dX11_alike_117 (by decide) (fun c7_ => ?_) (fun c7_ => ?_)
    · replace hF := ZtP c7_ hF
      exact w_X11_alike_b124 S hr hlk hR hdj _ _ _ _ _ hF hw hzz4_ hx6 (lv_sub hl [3] rfl)
    · replace hF := ZtN c7_ hF
      refine lv_iconst (v := i32 2) S.1 S.2.1 dX11_alike_120 ic_2 ?_
      refine lv_goto (tgt := 134) S.1 S.2.1 dX11_alike_121 (by decide) ?_
      exact w_X11_alike_b134 S hr hlk hR hdj _ _ _ _ _ hF hw hzz4_ r_2 (lv_sub hl [] rfl)
set_option maxRecDepth 100000 in
set_option maxHeartbeats 4000000 in
theorem c_X11_alike {l : Launch} {D : va_G} {cA : Nat → ClassId} {ad : Nat → Nat} (hdj : Zdj ad) {z z1 : ZI} {x1 : Int} {x2 : Int} {r : Int} (hzz : Zok z) (hx1 : InR x1) (hx2 : InR x2) (hF : F_X11_alike z x1 x2 = some (r, z1)) : YMi l D cA ad (3) yX11_alike cX11_alike 9 (some .int) [.ref (ad 68), .int (i32 x1), .int (i32 x2)] z r z1 :=
  Zmet hdj (by decide) rfl (Nat.le_of_ble_eq_true rfl) (lv := [(0, .ref (ad 68)), (1, .int (i32 (x1))), (2, .int (i32 (x2)))]) rfl (fun p e s m args below meth c ls S hr hlk hw hl => by
    have hR : 3 ≤ (Zrm (3)).frames ∧ 60 * (3) ≤ (Zrm (3)).locals := ⟨Nat.le_refl _, Nat.le_refl _⟩
    unfold F_X11_alike at hF
    revert hR
    generalize Zrm (3) = R
    intro hR
    refine lv_aload_n S.1 S.2.1 dX11_alike_0 rfl (lv_at hl 0 rfl) ?_
    refine lv_iload_n S.1 S.2.1 dX11_alike_1 rfl (lv_at hl 1 rfl) ?_
    refine lv_iload_n S.1 S.2.1 dX11_alike_2 rfl (lv_at hl 2 rfl) ?_
    obtain ⟨r3_, z1_, h2_, hF⟩ := Ybs hF
    refine YcallVi (rest := []) S hw (c_X11_notTwo hdj hzz hx1 hx2 h2_) my_X11_notTwo mi_X11_notTwo ml_X11_357 zd_68 zc_X11 rfl (Zrr hR (by decide)) ⟨Nat.zero_le _, Nat.zero_le _⟩ hl.1 rfl rfl (Nat.le_of_ble_eq_true rfl) dX11_alike_3 (fun hrr3_ hzz1_ H locs hw => ?_)
    refine lv_istore_n (lv' := [(3, .int (i32 (r3_))), (0, .ref (ad 68)), (1, .int (i32 (x1))), (2, .int (i32 (x2)))]) S.1 S.2.1 dX11_alike_6 rfl hl (by decide) rfl (fun ls hl => ?_)
    refine lv_iload_n S.1 S.2.1 dX11_alike_7 rfl (lv_at hl 0 rfl) ?_
    refine Yif_eq (tgt := 17) S hrr3_ dX11_alike_8 (by decide) (fun c4_ => ?_) (fun c4_ => ?_)
    · replace hF := ZtP c4_ hF
      refine lv_aload_n S.1 S.2.1 dX11_alike_17 rfl (lv_at hl 1 rfl) ?_
      refine gf_X11_68 S hw dX11_alike_18 ?_
      refine lv_iload_n S.1 S.2.1 dX11_alike_21 rfl (lv_at hl 2 rfl) ?_
      obtain ⟨b5_, hF⟩ := Zgs hF
      refine Yiald S hw zd_88 (by decide) hx1 b5_ dX11_alike_22 ?_
      refine lv_istore (lv' := [(4, .int (i32 (z1_ 88 x1))), (3, .int (i32 (r3_))), (0, .ref (ad 68)), (1, .int (i32 (x1))), (2, .int (i32 (x2)))]) S.1 S.2.1 dX11_alike_23 hl (by decide) rfl (fun ls hl => ?_)
      refine lv_aload_n S.1 S.2.1 dX11_alike_25 rfl (lv_at hl 2 rfl) ?_
      refine gf_X11_68 S hw dX11_alike_26 ?_
      refine lv_iload_n S.1 S.2.1 dX11_alike_29 rfl (lv_at hl 4 rfl) ?_
      obtain ⟨b6_, hF⟩ := Zgs hF
      refine Yiald S hw zd_88 (by decide) hx2 b6_ dX11_alike_30 ?_
      refine lv_istore (lv' := [(5, .int (i32 (z1_ 88 x2))), (4, .int (i32 (z1_ 88 x1))), (3, .int (i32 (r3_))), (0, .ref (ad 68)), (1, .int (i32 (x1))), (2, .int (i32 (x2)))]) S.1 S.2.1 dX11_alike_31 hl (by decide) rfl (fun ls hl => ?_)
      refine lv_iload S.1 S.2.1 dX11_alike_33 (lv_at hl 1 rfl) ?_
      refine lv_iload S.1 S.2.1 dX11_alike_35 (lv_at hl 0 rfl) ?_
      refine Yicmp_ne (tgt := 42) S (hzz1_.1 _ _ (by decide)) (hzz1_.1 _ _ (by decide)) dX11_alike_37 (by decide) (fun c7_ => ?_) (fun c7_ => ?_)
      · replace hF := ZtN c7_ hF
        refine lv_aload_n S.1 S.2.1 dX11_alike_42 rfl (lv_at hl 3 rfl) ?_
        refine lv_iload_n S.1 S.2.1 dX11_alike_43 rfl (lv_at hl 4 rfl) ?_
        refine lv_iload_n S.1 S.2.1 dX11_alike_44 rfl (lv_at hl 5 rfl) ?_
        obtain ⟨r10_, z8_, h9_, hF⟩ := Ybs hF
        refine YcallVi (rest := []) S hw (c_X11_pairsOf hdj hzz1_ hx1 hx2 h9_) my_X11_pairsOf mi_X11_pairsOf ml_X11_360 zd_68 zc_X11 rfl (Zrr hR (by decide)) ⟨Nat.zero_le _, Nat.zero_le _⟩ hl.1 rfl rfl (Nat.le_of_ble_eq_true rfl) dX11_alike_45 (fun hrr10_ hzz8_ H locs hw => ?_)
        refine lv_istore (lv' := [(6, .int (i32 (r10_))), (5, .int (i32 (z1_ 88 x2))), (4, .int (i32 (z1_ 88 x1))), (3, .int (i32 (r3_))), (0, .ref (ad 68)), (1, .int (i32 (x1))), (2, .int (i32 (x2)))]) S.1 S.2.1 dX11_alike_48 hl (by decide) rfl (fun ls hl => ?_)
        refine lv_aload_n S.1 S.2.1 dX11_alike_50 rfl (lv_at hl 4 rfl) ?_
        refine lv_iload S.1 S.2.1 dX11_alike_51 (lv_at hl 2 rfl) ?_
        refine lv_aload_n S.1 S.2.1 dX11_alike_53 rfl (lv_at hl 4 rfl) ?_
        refine gg_X11_200 S hw dX11_alike_54 ?_
        obtain ⟨r13_, z11_, h12_, hF⟩ := Ybs hF
        refine YcallVi (rest := []) S hw (c_X11_hereOf hdj hzz8_ (hzz1_.1 _ _ (by decide)) (hzz8_.1 68 11 (by decide)) h12_) my_X11_hereOf mi_X11_hereOf ml_X11_262 zd_68 zc_X11 rfl (Zrr hR (by decide)) ⟨Nat.zero_le _, Nat.zero_le _⟩ hl.1 rfl rfl (Nat.le_of_ble_eq_true rfl) dX11_alike_57 (fun hrr13_ hzz11_ H locs hw => ?_)
        refine lv_istore (lv' := [(7, .int (i32 (r13_))), (6, .int (i32 (r10_))), (5, .int (i32 (z1_ 88 x2))), (4, .int (i32 (z1_ 88 x1))), (3, .int (i32 (r3_))), (0, .ref (ad 68)), (1, .int (i32 (x1))), (2, .int (i32 (x2)))]) S.1 S.2.1 dX11_alike_60 hl (by decide) rfl (fun ls hl => ?_)
        refine lv_aload_n S.1 S.2.1 dX11_alike_62 rfl (lv_at hl 5 rfl) ?_
        refine lv_iload S.1 S.2.1 dX11_alike_63 (lv_at hl 2 rfl) ?_
        refine lv_aload_n S.1 S.2.1 dX11_alike_65 rfl (lv_at hl 5 rfl) ?_
        refine gg_X11_200 S hw dX11_alike_66 ?_
        obtain ⟨r16_, z14_, h15_, hF⟩ := Ybs hF
        refine YcallVi (rest := []) S hw (c_X11_hereOf hdj hzz11_ (hzz1_.1 _ _ (by decide)) (hzz11_.1 68 11 (by decide)) h15_) my_X11_hereOf mi_X11_hereOf ml_X11_262 zd_68 zc_X11 rfl (Zrr hR (by decide)) ⟨Nat.zero_le _, Nat.zero_le _⟩ hl.1 rfl rfl (Nat.le_of_ble_eq_true rfl) dX11_alike_69 (fun hrr16_ hzz14_ H locs hw => ?_)
        refine lv_istore (lv' := [(8, .int (i32 (r16_))), (7, .int (i32 (r13_))), (6, .int (i32 (r10_))), (5, .int (i32 (z1_ 88 x2))), (4, .int (i32 (z1_ 88 x1))), (3, .int (i32 (r3_))), (0, .ref (ad 68)), (1, .int (i32 (x1))), (2, .int (i32 (x2)))]) S.1 S.2.1 dX11_alike_72 hl (by decide) rfl (fun ls hl => ?_)
        refine lv_iload S.1 S.2.1 dX11_alike_74 (lv_at hl 2 rfl) ?_
        refine lv_iconst (v := i32 2) S.1 S.2.1 dX11_alike_76 ic_2 ?_
        refine Yicmp_lt (tgt := 124) S hrr10_ r_2 dX11_alike_77 (by decide) (fun c17_ => ?_) (fun c17_ => ?_)
        · replace hF := ZtP c17_ hF
          exact w_X11_alike_b124 S hr hlk hR hdj _ _ _ _ _ hF hw hzz14_ hrr10_ (lv_sub hl [2] rfl)
        · replace hF := ZtN c17_ hF
          refine lv_iload S.1 S.2.1 dX11_alike_80 (lv_at hl 2 rfl) ?_
          refine lv_iload S.1 S.2.1 dX11_alike_82 (lv_at hl 1 rfl) ?_
          refine lv_iload S.1 S.2.1 dX11_alike_84 (lv_at hl 0 rfl) ?_
          refine Yicmp_ge (tgt := 94) S hrr13_ hrr16_ dX11_alike_86 (by decide) (fun c18_ => ?_) (fun c18_ => ?_)
          · replace hF := ZtP c18_ hF
            refine lv_iload S.1 S.2.1 dX11_alike_94 (lv_at hl 0 rfl) ?_
            exact w_X11_alike_b96 S hr hlk hR hdj _ _ _ _ _ _ _ _ _ hF hw hzz14_ (hzz1_.1 _ _ (by decide)) (hzz1_.1 _ _ (by decide)) hrr10_ hrr10_ hrr16_ (lv_sub hl [6, 4, 3, 2] rfl)
          · replace hF := ZtN c18_ hF
            refine lv_iload S.1 S.2.1 dX11_alike_89 (lv_at hl 1 rfl) ?_
            refine lv_goto (tgt := 96) S.1 S.2.1 dX11_alike_91 (by decide) ?_
            exact w_X11_alike_b96 S hr hlk hR hdj _ _ _ _ _ _ _ _ _ hF hw hzz14_ (hzz1_.1 _ _ (by decide)) (hzz1_.1 _ _ (by decide)) hrr10_ hrr10_ hrr13_ (lv_sub hl [6, 4, 3, 2] rfl)
      · replace hF := ZtP c7_ hF
        refine lv_iconst (v := i32 2) S.1 S.2.1 dX11_alike_40 ic_2 ?_
        exact Yireti S hw hzz1_ r_2 hr hlk hF dX11_alike_41
    · replace hF := ZtN c4_ hF
      refine lv_aload_n S.1 S.2.1 dX11_alike_11 rfl (lv_at hl 1 rfl) ?_
      refine lv_iload_n S.1 S.2.1 dX11_alike_12 rfl (lv_at hl 0 rfl) ?_
      obtain ⟨r21_, z19_, h20_, hF⟩ := Ybs hF
      refine YcallVi (rest := []) S hw (c_X11_no hdj hzz1_ hrr3_ h20_) my_X11_no mi_X11_no ml_X11_207 zd_68 zc_X11 rfl (Zrr hR (by decide)) ⟨Nat.zero_le _, Nat.zero_le _⟩ hl.1 rfl rfl (Nat.le_of_ble_eq_true rfl) dX11_alike_13 (fun hrr21_ hzz19_ H locs hw => ?_)
      exact Yireti S hw hzz19_ hrr21_ hr hlk hF dX11_alike_16)
set_option maxRecDepth 100000 in
set_option maxHeartbeats 4000000 in
theorem c_X11_becomes {l : Launch} {D : va_G} {cA : Nat → ClassId} {ad : Nat → Nat} (hdj : Zdj ad) {z z1 : ZI} {x1 : Int} {x2 : Int} (hzz : Zok z) (hx1 : InR x1) (hx2 : InR x2) (hF : F_X11_becomes z x1 x2 = some ((), z1)) : YMv l D cA ad (0) yX11_becomes cX11_becomes 3 [.ref (ad 68), .int (i32 x1), .int (i32 x2)] z z1 :=
  Zmet hdj (by decide) rfl (Nat.le_of_ble_eq_true rfl) (lv := [(0, .ref (ad 68)), (1, .int (i32 (x1))), (2, .int (i32 (x2)))]) rfl (fun p e s m args below meth c ls S hr hlk hw hl => by
    have hR : 0 ≤ (Zrm (0)).frames ∧ 60 * (0) ≤ (Zrm (0)).locals := ⟨Nat.le_refl _, Nat.le_refl _⟩
    unfold F_X11_becomes at hF
    revert hR
    generalize Zrm (0) = R
    intro hR
    refine lv_aload_n S.1 S.2.1 dX11_becomes_0 rfl (lv_at hl 0 rfl) ?_
    refine gf_X11_34 S hw dX11_becomes_1 ?_
    refine lv_aload_n S.1 S.2.1 dX11_becomes_4 rfl (lv_at hl 0 rfl) ?_
    refine gg_X11_240 S hw dX11_becomes_5 ?_
    refine lv_iload_n S.1 S.2.1 dX11_becomes_8 rfl (lv_at hl 1 rfl) ?_
    obtain ⟨b1_, hF⟩ := Zgs hF
    refine Yiast S hw hzz zd_77 (by decide) (hzz.1 68 14 (by decide)) hx1 b1_ dX11_becomes_9 (fun z2_ H locs ez hzz2_ hw => ?_)
    replace hF := Zle ez hF; clear ez
    refine lv_aload_n S.1 S.2.1 dX11_becomes_10 rfl (lv_at hl 0 rfl) ?_
    refine gf_X11_37 S hw dX11_becomes_11 ?_
    refine lv_aload_n S.1 S.2.1 dX11_becomes_14 rfl (lv_at hl 0 rfl) ?_
    refine gg_X11_240 S hw dX11_becomes_15 ?_
    refine lv_iload_n S.1 S.2.1 dX11_becomes_18 rfl (lv_at hl 2 rfl) ?_
    obtain ⟨b3_, hF⟩ := Zgs hF
    refine Yiast S hw hzz2_ zd_78 (by decide) (hzz2_.1 68 14 (by decide)) hx2 b3_ dX11_becomes_19 (fun z4_ H locs ez hzz4_ hw => ?_)
    replace hF := Zle ez hF; clear ez
    refine lv_aload_n S.1 S.2.1 dX11_becomes_20 rfl (lv_at hl 0 rfl) ?_
    refine gf_X11_40 S hw dX11_becomes_21 ?_
    refine lv_aload_n S.1 S.2.1 dX11_becomes_24 rfl (lv_at hl 0 rfl) ?_
    refine gg_X11_240 S hw dX11_becomes_25 ?_
    refine lv_aload_n S.1 S.2.1 dX11_becomes_28 rfl (lv_at hl 0 rfl) ?_
    refine gg_X11_200 S hw dX11_becomes_29 ?_
    obtain ⟨b5_, hF⟩ := Zgs hF
    refine Yiast S hw hzz4_ zd_79 (by decide) (hzz4_.1 68 14 (by decide)) (hzz4_.1 68 11 (by decide)) b5_ dX11_becomes_32 (fun z6_ H locs ez hzz6_ hw => ?_)
    replace hF := Zle ez hF; clear ez
    refine lv_aload_n S.1 S.2.1 dX11_becomes_33 rfl (lv_at hl 0 rfl) ?_
    refine lv_dup S.1 S.2.1 dX11_becomes_34 rfl ?_
    refine gg_X11_240 S hw dX11_becomes_35 ?_
    refine lv_iconst (v := i32 1) S.1 S.2.1 dX11_becomes_38 ic_1 ?_
    obtain ⟨g7_, hF⟩ := Zgs hF
    refine Yiadd S dX11_becomes_39 ?_
    refine pp_X11_240 S hw hzz6_ g7_ dX11_becomes_40 (fun z8_ H locs ez hzz8_ hw => ?_)
    replace hF := Zle ez hF; clear ez
    exact Yvret S hw hzz8_ hr hlk hF dX11_becomes_43)
set_option maxRecDepth 100000 in
set_option maxHeartbeats 4000000 in
theorem w_X11_beside_b33 {RR : Int × ZI} (S : CallFix p m c cX11_beside 4 s args Ztbl RX11) (hr : meth.sig.returnType = some .int) (hlk : meth.locks = false) (hR : 0 ≤ R.frames ∧ 60 * (0) ≤ R.locals) (hdj : Zdj ad) : ∀ (z : ZI) (y0 : Int) (H : Heap) (locs : List Loc) (ls : Array Slot), X11_beside_b33 z y0 = some RR → ZW D cA ad (ZA ad) (Zc z) s H locs → Zok z → InR y0 → lv_has ls 4 [] → W p l e R s m args below meth c H locs 0 0 (MQ below (YQi D cA ad RR.1 RR.2) args s 0 0 (ZA ad)) (F0 m 33 ls [.int (i32 (y0))]) := by
  intro z y0 H locs ls hF hw hzz hy0 hl
  unfold X11_beside_b33 at hF
  exact Yireti S hw hzz hy0 hr hlk hF dX11_beside_33
set_option maxRecDepth 100000 in
set_option maxHeartbeats 4000000 in
theorem w_X11_beside_b60 {RR : Int × ZI} (S : CallFix p m c cX11_beside 4 s args Ztbl RX11) (hr : meth.sig.returnType = some .int) (hlk : meth.locks = false) (hR : 0 ≤ R.frames ∧ 60 * (0) ≤ R.locals) (hdj : Zdj ad) : ∀ (z : ZI) (y0 : Int) (H : Heap) (locs : List Loc) (ls : Array Slot), X11_beside_b60 z y0 = some RR → ZW D cA ad (ZA ad) (Zc z) s H locs → Zok z → InR y0 → lv_has ls 4 [] → W p l e R s m args below meth c H locs 0 0 (MQ below (YQi D cA ad RR.1 RR.2) args s 0 0 (ZA ad)) (F0 m 60 ls [.int (i32 (y0))]) := by
  intro z y0 H locs ls hF hw hzz hy0 hl
  unfold X11_beside_b60 at hF
  exact Yireti S hw hzz hy0 hr hlk hF dX11_beside_60
set_option maxRecDepth 100000 in
set_option maxHeartbeats 4000000 in
theorem w_X11_beside_b86 {RR : Int × ZI} (S : CallFix p m c cX11_beside 4 s args Ztbl RX11) (hr : meth.sig.returnType = some .int) (hlk : meth.locks = false) (hR : 0 ≤ R.frames ∧ 60 * (0) ≤ R.locals) (hdj : Zdj ad) : ∀ (z : ZI) (y0 : Int) (H : Heap) (locs : List Loc) (ls : Array Slot), X11_beside_b86 z y0 = some RR → ZW D cA ad (ZA ad) (Zc z) s H locs → Zok z → InR y0 → lv_has ls 4 [] → W p l e R s m args below meth c H locs 0 0 (MQ below (YQi D cA ad RR.1 RR.2) args s 0 0 (ZA ad)) (F0 m 86 ls [.int (i32 (y0))]) := by
  intro z y0 H locs ls hF hw hzz hy0 hl
  unfold X11_beside_b86 at hF
  exact Yireti S hw hzz hy0 hr hlk hF dX11_beside_86
set_option maxRecDepth 100000 in
set_option maxHeartbeats 4000000 in
theorem w_X11_beside_b107 {RR : Int × ZI} (S : CallFix p m c cX11_beside 4 s args Ztbl RX11) (hr : meth.sig.returnType = some .int) (hlk : meth.locks = false) (hR : 0 ≤ R.frames ∧ 60 * (0) ≤ R.locals) (hdj : Zdj ad) : ∀ (z : ZI) (y0 : Int) (H : Heap) (locs : List Loc) (ls : Array Slot), X11_beside_b107 z y0 = some RR → ZW D cA ad (ZA ad) (Zc z) s H locs → Zok z → InR y0 → lv_has ls 4 [] → W p l e R s m args below meth c H locs 0 0 (MQ below (YQi D cA ad RR.1 RR.2) args s 0 0 (ZA ad)) (F0 m 107 ls [.int (i32 (y0))]) := by
  intro z y0 H locs ls hF hw hzz hy0 hl
  unfold X11_beside_b107 at hF
  exact Yireti S hw hzz hy0 hr hlk hF dX11_beside_107
set_option maxRecDepth 100000 in
set_option maxHeartbeats 4000000 in
theorem c_X11_beside {l : Launch} {D : va_G} {cA : Nat → ClassId} {ad : Nat → Nat} (hdj : Zdj ad) {z z1 : ZI} {x1 : Int} {x2 : Int} {r : Int} (hzz : Zok z) (hx1 : InR x1) (hx2 : InR x2) (hF : F_X11_beside z x1 x2 = some (r, z1)) : YMi l D cA ad (0) yX11_beside cX11_beside 4 (some .int) [.ref (ad 68), .int (i32 x1), .int (i32 x2)] z r z1 :=
  Zmet hdj (by decide) rfl (Nat.le_of_ble_eq_true rfl) (lv := [(0, .ref (ad 68)), (1, .int (i32 (x1))), (2, .int (i32 (x2)))]) rfl (fun p e s m args below meth c ls S hr hlk hw hl => by
    have hR : 0 ≤ (Zrm (0)).frames ∧ 60 * (0) ≤ (Zrm (0)).locals := ⟨Nat.le_refl _, Nat.le_refl _⟩
    unfold F_X11_beside at hF
    revert hR
    generalize Zrm (0) = R
    intro hR
    refine lv_aload_n S.1 S.2.1 dX11_beside_0 rfl (lv_at hl 0 rfl) ?_
    refine gf_X11_16 S hw dX11_beside_1 ?_
    refine lv_iload_n S.1 S.2.1 dX11_beside_4 rfl (lv_at hl 1 rfl) ?_
    obtain ⟨b1_, hF⟩ := Zgs hF
    refine Yiald S hw zd_71 (by decide) hx1 b1_ dX11_beside_5 ?_
    refine lv_istore_n (lv' := [(3, .int (i32 (z 71 x1))), (0, .ref (ad 68)), (1, .int (i32 (x1))), (2, .int (i32 (x2)))]) S.1 S.2.1 dX11_beside_6 rfl hl (by decide) rfl (fun ls hl => ?_)
    refine lv_iload_n S.1 S.2.1 dX11_beside_7 rfl (lv_at hl 3 rfl) ?_
    refine Yif_ne (tgt := 34) S hx2 dX11_beside_8 (by decide) (fun c2_ => ?_) (fun c2_ => ?_)
    · replace hF := ZtN c2_ hF
      refine lv_iload_n S.1 S.2.1 dX11_beside_34 rfl (lv_at hl 3 rfl) ?_
      refine lv_iconst (v := i32 1) S.1 S.2.1 dX11_beside_35 ic_1 ?_
      refine Yicmp_ne (tgt := 61) S hx2 r_1 dX11_beside_36 (by decide) (fun c3_ => ?_) (fun c3_ => ?_)
      · replace hF := ZtN c3_ hF
        refine lv_iload_n S.1 S.2.1 dX11_beside_61 rfl (lv_at hl 3 rfl) ?_
        refine lv_iconst (v := i32 2) S.1 S.2.1 dX11_beside_62 ic_2 ?_
        refine Yicmp_ne (tgt := 87) S hx2 r_2 dX11_beside_63 (by decide) (fun c4_ => ?_) (fun c4_ => ?_)
        · replace hF := ZtN c4_ hF
          refine lv_iload_n S.1 S.2.1 dX11_beside_87 rfl (lv_at hl 0 rfl) ?_
          refine lv_bipush (v := i32 12) S.1 S.2.1 dX11_beside_88 bp_12 ?_
          refine Yicmp_lt (tgt := 105) S (hzz.1 _ _ (by decide)) r_12 dX11_beside_90 (by decide) (fun c5_ => ?_) (fun c5_ => ?_)
          · replace hF := ZtP c5_ hF
            refine lv_bipush (v := i32 (-9)) S.1 S.2.1 dX11_beside_105 bp_m9 ?_
            exact w_X11_beside_b107 S hr hlk hR hdj _ _ _ _ _ hF hw hzz r_m9 (lv_sub hl [] rfl)
          · replace hF := ZtN c5_ hF
            refine lv_aload_n S.1 S.2.1 dX11_beside_93 rfl (lv_at hl 1 rfl) ?_
            refine gf_X11_159 S hw dX11_beside_94 ?_
            refine lv_iload_n S.1 S.2.1 dX11_beside_97 rfl (lv_at hl 0 rfl) ?_
            refine lv_bipush (v := i32 12) S.1 S.2.1 dX11_beside_98 bp_12 ?_
            obtain ⟨g6_, hF⟩ := Zgs hF
            refine Yisub S dX11_beside_100 ?_
            obtain ⟨b7_, hF⟩ := Zgs hF
            refine Yiald S hw zd_118 (by decide) g6_ b7_ dX11_beside_101 ?_
            refine lv_goto (tgt := 107) S.1 S.2.1 dX11_beside_102 (by decide) ?_
            exact w_X11_beside_b107 S hr hlk hR hdj _ _ _ _ _ hF hw hzz (hzz.1 _ _ (by decide)) (lv_sub hl [] rfl)
        · replace hF := ZtP c4_ hF
          refine lv_iload_n S.1 S.2.1 dX11_beside_66 rfl (lv_at hl 0 rfl) ?_
          refine lv_bipush (v := i32 12) S.1 S.2.1 dX11_beside_67 bp_12 ?_
          refine Yirem S (hzz.1 _ _ (by decide)) r_12 (by decide) dX11_beside_69 ?_
          refine Yif_le (tgt := 84) S (InR_tmod (hzz.1 _ _ (by decide))) dX11_beside_70 (by decide) (fun c8_ => ?_) (fun c8_ => ?_)
          · replace hF := ZtP c8_ hF
            refine lv_bipush (v := i32 (-9)) S.1 S.2.1 dX11_beside_84 bp_m9 ?_
            exact w_X11_beside_b86 S hr hlk hR hdj _ _ _ _ _ hF hw hzz r_m9 (lv_sub hl [] rfl)
          · replace hF := ZtN c8_ hF
            refine lv_aload_n S.1 S.2.1 dX11_beside_73 rfl (lv_at hl 1 rfl) ?_
            refine gf_X11_159 S hw dX11_beside_74 ?_
            refine lv_iload_n S.1 S.2.1 dX11_beside_77 rfl (lv_at hl 0 rfl) ?_
            refine lv_iconst (v := i32 1) S.1 S.2.1 dX11_beside_78 ic_1 ?_
            obtain ⟨g9_, hF⟩ := Zgs hF
            refine Yisub S dX11_beside_79 ?_
            obtain ⟨b10_, hF⟩ := Zgs hF
            refine Yiald S hw zd_118 (by decide) g9_ b10_ dX11_beside_80 ?_
            refine lv_goto (tgt := 86) S.1 S.2.1 dX11_beside_81 (by decide) ?_
            exact w_X11_beside_b86 S hr hlk hR hdj _ _ _ _ _ hF hw hzz (hzz.1 _ _ (by decide)) (lv_sub hl [] rfl)
      · replace hF := ZtP c3_ hF
        refine lv_iload_n S.1 S.2.1 dX11_beside_39 rfl (lv_at hl 0 rfl) ?_
        refine lv_sipush (v := i32 132) S.1 S.2.1 dX11_beside_40 sp_132 ?_
        refine Yicmp_ge (tgt := 58) S (hzz.1 _ _ (by decide)) r_132 dX11_beside_43 (by decide) (fun c11_ => ?_) (fun c11_ => ?_)
        · replace hF := ZtP c11_ hF
          refine lv_bipush (v := i32 (-9)) S.1 S.2.1 dX11_beside_58 bp_m9 ?_
          exact w_X11_beside_b60 S hr hlk hR hdj _ _ _ _ _ hF hw hzz r_m9 (lv_sub hl [] rfl)
        · replace hF := ZtN c11_ hF
          refine lv_aload_n S.1 S.2.1 dX11_beside_46 rfl (lv_at hl 1 rfl) ?_
          refine gf_X11_159 S hw dX11_beside_47 ?_
          refine lv_iload_n S.1 S.2.1 dX11_beside_50 rfl (lv_at hl 0 rfl) ?_
          refine lv_bipush (v := i32 12) S.1 S.2.1 dX11_beside_51 bp_12 ?_
          obtain ⟨g12_, hF⟩ := Zgs hF
          refine Yiadd S dX11_beside_53 ?_
          obtain ⟨b13_, hF⟩ := Zgs hF
          refine Yiald S hw zd_118 (by decide) g12_ b13_ dX11_beside_54 ?_
          refine lv_goto (tgt := 60) S.1 S.2.1 dX11_beside_55 (by decide) ?_
          exact w_X11_beside_b60 S hr hlk hR hdj _ _ _ _ _ hF hw hzz (hzz.1 _ _ (by decide)) (lv_sub hl [] rfl)
    · replace hF := ZtP c2_ hF
      refine lv_iload_n S.1 S.2.1 dX11_beside_11 rfl (lv_at hl 0 rfl) ?_
      refine lv_bipush (v := i32 12) S.1 S.2.1 dX11_beside_12 bp_12 ?_
      refine Yirem S (hzz.1 _ _ (by decide)) r_12 (by decide) dX11_beside_14 ?_
      refine lv_bipush (v := i32 11) S.1 S.2.1 dX11_beside_15 bp_11 ?_
      refine Yicmp_ge (tgt := 31) S (InR_tmod (hzz.1 _ _ (by decide))) r_11 dX11_beside_17 (by decide) (fun c14_ => ?_) (fun c14_ => ?_)
      · replace hF := ZtP c14_ hF
        refine lv_bipush (v := i32 (-9)) S.1 S.2.1 dX11_beside_31 bp_m9 ?_
        exact w_X11_beside_b33 S hr hlk hR hdj _ _ _ _ _ hF hw hzz r_m9 (lv_sub hl [] rfl)
      · replace hF := ZtN c14_ hF
        refine lv_aload_n S.1 S.2.1 dX11_beside_20 rfl (lv_at hl 1 rfl) ?_
        refine gf_X11_159 S hw dX11_beside_21 ?_
        refine lv_iload_n S.1 S.2.1 dX11_beside_24 rfl (lv_at hl 0 rfl) ?_
        refine lv_iconst (v := i32 1) S.1 S.2.1 dX11_beside_25 ic_1 ?_
        obtain ⟨g15_, hF⟩ := Zgs hF
        refine Yiadd S dX11_beside_26 ?_
        obtain ⟨b16_, hF⟩ := Zgs hF
        refine Yiald S hw zd_118 (by decide) g15_ b16_ dX11_beside_27 ?_
        refine lv_goto (tgt := 33) S.1 S.2.1 dX11_beside_28 (by decide) ?_
        exact w_X11_beside_b33 S hr hlk hR hdj _ _ _ _ _ hF hw hzz (hzz.1 _ _ (by decide)) (lv_sub hl [] rfl))
set_option maxRecDepth 100000 in
set_option maxHeartbeats 4000000 in
theorem w_X11_drawsAt_b231 {a2 n2 : Nat} (ha2 : ZDS[a2]? = some (.inr (0, n2))) (na2 : a2 < 1000) (bn2 : InR (n2 : Int)) {RR : Unit × ZI} (S : CallFix p m c cX11_drawsAt 12 s args Ztbl RX11) (hr : meth.sig.returnType = none) (hlk : meth.locks = false) (hR : 0 ≤ R.frames ∧ 60 * (0) ≤ R.locals) (hdj : Zdj ad) : ∀ (z : ZI) (H : Heap) (locs : List Loc) (ls : Array Slot), X11_drawsAt_b231 a2 n2 z  = some RR → ZW D cA ad (ZA ad) (Zc z) s H locs → Zok z → lv_has ls 12 [] → W p l e R s m args below meth c H locs 0 0 (MQ below (YQv D cA ad RR.2) args s 0 0 (ZA ad)) (F0 m 231 ls []) := by
  intro z  H locs ls hF hw hzz  hl
  unfold X11_drawsAt_b231 at hF
  exact Yvret S hw hzz hr hlk hF dX11_drawsAt_231
set_option maxRecDepth 100000 in
set_option maxHeartbeats 4000000 in
theorem w_X11_drawsAt_b225 {a2 n2 : Nat} (ha2 : ZDS[a2]? = some (.inr (0, n2))) (na2 : a2 < 1000) (bn2 : InR (n2 : Int)) {RR : Unit × ZI} (S : CallFix p m c cX11_drawsAt 12 s args Ztbl RX11) (hr : meth.sig.returnType = none) (hlk : meth.locks = false) (hR : 0 ≤ R.frames ∧ 60 * (0) ≤ R.locals) (hdj : Zdj ad) {k39 : ZI → Int → Int → Int → Int → Int → Option (Unit × ZI)} (hk39 : ∀ (z : ZI) (x1 : Int) (x3 : Int) (x4 : Int) (x5 : Int) (x6 : Int) (H : Heap) (locs : List Loc) (ls : Array Slot), k39 z x1 x3 x4 x5 x6 = some RR → ZW D cA ad (ZA ad) (Zc z) s H locs → Zok z → InR x1 → InR x3 → InR x4 → InR x5 → InR x6 → lv_has ls 12 [(0, .ref (ad 68)), (1, .int (i32 (x1))), (2, .ref (ad a2)), (3, .int (i32 (x3))), (4, .int (i32 (x4))), (5, .int (i32 (x5))), (6, .int (i32 (x6)))] → W p l e R s m args below meth c H locs 0 0 (MQ below (YQv D cA ad RR.2) args s 0 0 (ZA ad)) (F0 m 39 ls [])) : ∀ (z : ZI) (x1 : Int) (x3 : Int) (x4 : Int) (x5 : Int) (x6 : Int) (H : Heap) (locs : List Loc) (ls : Array Slot), X11_drawsAt_b225 a2 n2 k39 z x1 x3 x4 x5 x6 = some RR → ZW D cA ad (ZA ad) (Zc z) s H locs → Zok z → InR x1 → InR x3 → InR x4 → InR x5 → InR x6 → lv_has ls 12 [(0, .ref (ad 68)), (1, .int (i32 (x1))), (2, .ref (ad a2)), (3, .int (i32 (x3))), (4, .int (i32 (x4))), (5, .int (i32 (x5))), (6, .int (i32 (x6)))] → W p l e R s m args below meth c H locs 0 0 (MQ below (YQv D cA ad RR.2) args s 0 0 (ZA ad)) (F0 m 225 ls []) := by
  intro z x1 x3 x4 x5 x6 H locs ls hF hw hzz hx1 hx3 hx4 hx5 hx6 hl
  unfold X11_drawsAt_b225 at hF
  obtain ⟨g1_, hF⟩ := Zgs hF
  refine lv_iinc (v := i32 (x6 + 1)) (lv' := [(6, .int (i32 (x6 + 1))), (0, .ref (ad 68)), (1, .int (i32 (x1))), (2, .ref (ad a2)), (3, .int (i32 (x3))), (4, .int (i32 (x4))), (5, .int (i32 (x5)))]) S.1 S.2.1 dX11_drawsAt_225 hl (k := 6) rfl Yiinc (by decide) rfl (fun ls hl => ?_)
  refine lv_goto (tgt := 39) S.1 S.2.1 dX11_drawsAt_228 (by decide) ?_
  exact hk39 _ _ _ _ _ _ _ _ _ hF hw hzz hx1 hx3 hx4 hx5 g1_ (lv_sub hl [1, 2, 3, 4, 5, 6, 0] rfl)
set_option maxRecDepth 100000 in
set_option maxHeartbeats 4000000 in
theorem w_X11_drawsAt_b219 {a2 n2 : Nat} (ha2 : ZDS[a2]? = some (.inr (0, n2))) (na2 : a2 < 1000) (bn2 : InR (n2 : Int)) {RR : Unit × ZI} (S : CallFix p m c cX11_drawsAt 12 s args Ztbl RX11) (hr : meth.sig.returnType = none) (hlk : meth.locks = false) (hR : 0 ≤ R.frames ∧ 60 * (0) ≤ R.locals) (hdj : Zdj ad) {k39 : ZI → Int → Int → Int → Int → Int → Option (Unit × ZI)} (hk39 : ∀ (z : ZI) (x1 : Int) (x3 : Int) (x4 : Int) (x5 : Int) (x6 : Int) (H : Heap) (locs : List Loc) (ls : Array Slot), k39 z x1 x3 x4 x5 x6 = some RR → ZW D cA ad (ZA ad) (Zc z) s H locs → Zok z → InR x1 → InR x3 → InR x4 → InR x5 → InR x6 → lv_has ls 12 [(0, .ref (ad 68)), (1, .int (i32 (x1))), (2, .ref (ad a2)), (3, .int (i32 (x3))), (4, .int (i32 (x4))), (5, .int (i32 (x5))), (6, .int (i32 (x6)))] → W p l e R s m args below meth c H locs 0 0 (MQ below (YQv D cA ad RR.2) args s 0 0 (ZA ad)) (F0 m 39 ls [])) {k81 : ZI → Int → Int → Int → Int → Int → Int → Int → Option (Unit × ZI)} (hk81 : ∀ (z : ZI) (x1 : Int) (x3 : Int) (x4 : Int) (x5 : Int) (x6 : Int) (x7 : Int) (x8 : Int) (H : Heap) (locs : List Loc) (ls : Array Slot), k81 z x1 x3 x4 x5 x6 x7 x8 = some RR → ZW D cA ad (ZA ad) (Zc z) s H locs → Zok z → InR x1 → InR x3 → InR x4 → InR x5 → InR x6 → InR x7 → InR x8 → lv_has ls 12 [(0, .ref (ad 68)), (1, .int (i32 (x1))), (2, .ref (ad a2)), (3, .int (i32 (x3))), (4, .int (i32 (x4))), (5, .int (i32 (x5))), (6, .int (i32 (x6))), (7, .int (i32 (x7))), (8, .int (i32 (x8)))] → W p l e R s m args below meth c H locs 0 0 (MQ below (YQv D cA ad RR.2) args s 0 0 (ZA ad)) (F0 m 81 ls [])) : ∀ (z : ZI) (x1 : Int) (x3 : Int) (x4 : Int) (x5 : Int) (x6 : Int) (x7 : Int) (x8 : Int) (H : Heap) (locs : List Loc) (ls : Array Slot), X11_drawsAt_b219 a2 n2 k39 k81 z x1 x3 x4 x5 x6 x7 x8 = some RR → ZW D cA ad (ZA ad) (Zc z) s H locs → Zok z → InR x1 → InR x3 → InR x4 → InR x5 → InR x6 → InR x7 → InR x8 → lv_has ls 12 [(0, .ref (ad 68)), (1, .int (i32 (x1))), (2, .ref (ad a2)), (3, .int (i32 (x3))), (4, .int (i32 (x4))), (5, .int (i32 (x5))), (6, .int (i32 (x6))), (7, .int (i32 (x7))), (8, .int (i32 (x8)))] → W p l e R s m args below meth c H locs 0 0 (MQ below (YQv D cA ad RR.2) args s 0 0 (ZA ad)) (F0 m 219 ls []) := by
  intro z x1 x3 x4 x5 x6 x7 x8 H locs ls hF hw hzz hx1 hx3 hx4 hx5 hx6 hx7 hx8 hl
  unfold X11_drawsAt_b219 at hF
  obtain ⟨g1_, hF⟩ := Zgs hF
  refine lv_iinc (v := i32 (x8 + 1)) (lv' := [(8, .int (i32 (x8 + 1))), (0, .ref (ad 68)), (1, .int (i32 (x1))), (2, .ref (ad a2)), (3, .int (i32 (x3))), (4, .int (i32 (x4))), (5, .int (i32 (x5))), (6, .int (i32 (x6))), (7, .int (i32 (x7)))]) S.1 S.2.1 dX11_drawsAt_219 hl (k := 8) rfl Yiinc (by decide) rfl (fun ls hl => ?_)
  refine lv_goto (tgt := 81) S.1 S.2.1 dX11_drawsAt_222 (by decide) ?_
  exact hk81 _ _ _ _ _ _ _ _ _ _ _ hF hw hzz hx1 hx3 hx4 hx5 hx6 hx7 g1_ (lv_sub hl [1, 2, 3, 4, 5, 6, 7, 8, 0] rfl)
set_option maxRecDepth 100000 in
set_option maxHeartbeats 4000000 in
theorem w_X11_drawsAt_b171 {a2 n2 : Nat} (ha2 : ZDS[a2]? = some (.inr (0, n2))) (na2 : a2 < 1000) (bn2 : InR (n2 : Int)) {RR : Unit × ZI} (S : CallFix p m c cX11_drawsAt 12 s args Ztbl RX11) (hr : meth.sig.returnType = none) (hlk : meth.locks = false) (hR : 0 ≤ R.frames ∧ 60 * (0) ≤ R.locals) (hdj : Zdj ad) {k39 : ZI → Int → Int → Int → Int → Int → Option (Unit × ZI)} (hk39 : ∀ (z : ZI) (x1 : Int) (x3 : Int) (x4 : Int) (x5 : Int) (x6 : Int) (H : Heap) (locs : List Loc) (ls : Array Slot), k39 z x1 x3 x4 x5 x6 = some RR → ZW D cA ad (ZA ad) (Zc z) s H locs → Zok z → InR x1 → InR x3 → InR x4 → InR x5 → InR x6 → lv_has ls 12 [(0, .ref (ad 68)), (1, .int (i32 (x1))), (2, .ref (ad a2)), (3, .int (i32 (x3))), (4, .int (i32 (x4))), (5, .int (i32 (x5))), (6, .int (i32 (x6)))] → W p l e R s m args below meth c H locs 0 0 (MQ below (YQv D cA ad RR.2) args s 0 0 (ZA ad)) (F0 m 39 ls [])) {k81 : ZI → Int → Int → Int → Int → Int → Int → Int → Option (Unit × ZI)} (hk81 : ∀ (z : ZI) (x1 : Int) (x3 : Int) (x4 : Int) (x5 : Int) (x6 : Int) (x7 : Int) (x8 : Int) (H : Heap) (locs : List Loc) (ls : Array Slot), k81 z x1 x3 x4 x5 x6 x7 x8 = some RR → ZW D cA ad (ZA ad) (Zc z) s H locs → Zok z → InR x1 → InR x3 → InR x4 → InR x5 → InR x6 → InR x7 → InR x8 → lv_has ls 12 [(0, .ref (ad 68)), (1, .int (i32 (x1))), (2, .ref (ad a2)), (3, .int (i32 (x3))), (4, .int (i32 (x4))), (5, .int (i32 (x5))), (6, .int (i32 (x6))), (7, .int (i32 (x7))), (8, .int (i32 (x8)))] → W p l e R s m args below meth c H locs 0 0 (MQ below (YQv D cA ad RR.2) args s 0 0 (ZA ad)) (F0 m 81 ls [])) : ∀ (z : ZI) (x1 : Int) (x3 : Int) (x4 : Int) (x5 : Int) (x6 : Int) (x7 : Int) (x8 : Int) (x9 : Int) (x10 : Int) (y0 : Int) (H : Heap) (locs : List Loc) (ls : Array Slot), X11_drawsAt_b171 a2 n2 k39 k81 z x1 x3 x4 x5 x6 x7 x8 x9 x10 y0 = some RR → ZW D cA ad (ZA ad) (Zc z) s H locs → Zok z → InR x1 → InR x3 → InR x4 → InR x5 → InR x6 → InR x7 → InR x8 → InR x9 → InR x10 → InR y0 → lv_has ls 12 [(0, .ref (ad 68)), (1, .int (i32 (x1))), (2, .ref (ad a2)), (3, .int (i32 (x3))), (4, .int (i32 (x4))), (5, .int (i32 (x5))), (6, .int (i32 (x6))), (7, .int (i32 (x7))), (8, .int (i32 (x8))), (9, .int (i32 (x9))), (10, .int (i32 (x10)))] → W p l e R s m args below meth c H locs 0 0 (MQ below (YQv D cA ad RR.2) args s 0 0 (ZA ad)) (F0 m 171 ls [.int (i32 (y0))]) := by
  intro z x1 x3 x4 x5 x6 x7 x8 x9 x10 y0 H locs ls hF hw hzz hx1 hx3 hx4 hx5 hx6 hx7 hx8 hx9 hx10 hy0 hl
  unfold X11_drawsAt_b171 at hF
  refine lv_istore (lv' := [(11, .int (i32 (y0))), (0, .ref (ad 68)), (1, .int (i32 (x1))), (2, .ref (ad a2)), (3, .int (i32 (x3))), (4, .int (i32 (x4))), (5, .int (i32 (x5))), (6, .int (i32 (x6))), (7, .int (i32 (x7))), (8, .int (i32 (x8))), (9, .int (i32 (x9))), (10, .int (i32 (x10)))]) S.1 S.2.1 dX11_drawsAt_171 hl (by decide) rfl (fun ls hl => ?_)
  refine lv_aload_n S.1 S.2.1 dX11_drawsAt_173 rfl (lv_at hl 1 rfl) ?_
  refine gf_X11_108 S hw dX11_drawsAt_174 ?_
  refine lv_iload S.1 S.2.1 dX11_drawsAt_177 (lv_at hl 10 rfl) ?_
  refine lv_dup2_11 S.1 S.2.1 dX11_drawsAt_179 rfl rfl ?_
  obtain ⟨b1_, hF⟩ := Zgs hF
  refine Yiald S hw zd_101 (by decide) hx9 b1_ dX11_drawsAt_180 ?_
  refine lv_iload S.1 S.2.1 dX11_drawsAt_181 (lv_at hl 0 rfl) ?_
  obtain ⟨g2_, hF⟩ := Zgs hF
  refine Yiadd S dX11_drawsAt_183 ?_
  obtain ⟨b3_, hF⟩ := Zgs hF
  refine Yiast S hw hzz zd_101 (by decide) hx9 g2_ b3_ dX11_drawsAt_184 (fun z4_ H locs ez hzz4_ hw => ?_)
  replace hF := Zle ez hF; clear ez
  refine lv_iload S.1 S.2.1 dX11_drawsAt_185 (lv_at hl 8 rfl) ?_
  refine lv_iload S.1 S.2.1 dX11_drawsAt_187 (lv_at hl 0 rfl) ?_
  obtain ⟨g5_, hF⟩ := Zgs hF
  refine Yisub S dX11_drawsAt_189 ?_
  refine lv_istore (lv' := [(7, .int (i32 (x7 - y0))), (11, .int (i32 (y0))), (0, .ref (ad 68)), (1, .int (i32 (x1))), (2, .ref (ad a2)), (3, .int (i32 (x3))), (4, .int (i32 (x4))), (5, .int (i32 (x5))), (6, .int (i32 (x6))), (8, .int (i32 (x8))), (9, .int (i32 (x9))), (10, .int (i32 (x10)))]) S.1 S.2.1 dX11_drawsAt_190 hl (by decide) rfl (fun ls hl => ?_)
  refine lv_iload_n S.1 S.2.1 dX11_drawsAt_192 rfl (lv_at hl 5 rfl) ?_
  refine lv_iload S.1 S.2.1 dX11_drawsAt_193 (lv_at hl 1 rfl) ?_
  obtain ⟨g6_, hF⟩ := Zgs hF
  refine Yisub S dX11_drawsAt_195 ?_
  refine lv_istore_n (lv' := [(3, .int (i32 (x3 - y0))), (7, .int (i32 (x7 - y0))), (11, .int (i32 (y0))), (0, .ref (ad 68)), (1, .int (i32 (x1))), (2, .ref (ad a2)), (4, .int (i32 (x4))), (5, .int (i32 (x5))), (6, .int (i32 (x6))), (8, .int (i32 (x8))), (9, .int (i32 (x9))), (10, .int (i32 (x10)))]) S.1 S.2.1 dX11_drawsAt_196 rfl hl (by decide) rfl (fun ls hl => ?_)
  refine lv_iload S.1 S.2.1 dX11_drawsAt_197 (lv_at hl 2 rfl) ?_
  refine lv_iload S.1 S.2.1 dX11_drawsAt_199 (lv_at hl 11 rfl) ?_
  refine Yicmp_ge (tgt := 207) S hy0 hx10 dX11_drawsAt_201 (by decide) (fun c7_ => ?_) (fun c7_ => ?_)
  · replace hF := ZtP c7_ hF
    refine lv_aload_n S.1 S.2.1 dX11_drawsAt_207 rfl (lv_at hl 3 rfl) ?_
    refine gf_X11_111 S hw dX11_drawsAt_208 ?_
    refine lv_iload S.1 S.2.1 dX11_drawsAt_211 (lv_at hl 10 rfl) ?_
    refine lv_iload S.1 S.2.1 dX11_drawsAt_213 (lv_at hl 8 rfl) ?_
    obtain ⟨b8_, hF⟩ := Zgs hF
    refine Yiast S hw hzz4_ zd_102 (by decide) hx9 hx6 b8_ dX11_drawsAt_215 (fun z9_ H locs ez hzz9_ hw => ?_)
    replace hF := Zle ez hF; clear ez
    obtain ⟨g10_, hF⟩ := Zgs hF
    refine lv_iinc (v := i32 (x5 + (-1))) (lv' := [(5, .int (i32 (x5 + (-1)))), (3, .int (i32 (x3 - y0))), (7, .int (i32 (x7 - y0))), (11, .int (i32 (y0))), (0, .ref (ad 68)), (1, .int (i32 (x1))), (2, .ref (ad a2)), (4, .int (i32 (x4))), (6, .int (i32 (x6))), (8, .int (i32 (x8))), (9, .int (i32 (x9))), (10, .int (i32 (x10)))]) S.1 S.2.1 dX11_drawsAt_216 hl (k := 7) rfl Yiinc (by decide) rfl (fun ls hl => ?_)
    exact w_X11_drawsAt_b219 ha2 na2 bn2 S hr hlk hR hdj hk39 hk81 _ _ _ _ _ _ _ _ _ _ _ hF hw hzz9_ hx1 g6_ hx4 g10_ hx6 g5_ hx8 (lv_sub hl [4, 5, 6, 1, 7, 0, 8, 2, 9] rfl)
  · replace hF := ZtN c7_ hF
    refine lv_goto (tgt := 219) S.1 S.2.1 dX11_drawsAt_204 (by decide) ?_
    exact w_X11_drawsAt_b219 ha2 na2 bn2 S hr hlk hR hdj hk39 hk81 _ _ _ _ _ _ _ _ _ _ _ hF hw hzz4_ hx1 g6_ hx4 hx5 hx6 g5_ hx8 (lv_sub hl [3, 4, 5, 0, 6, 7, 8, 1, 9] rfl)
set_option maxRecDepth 100000 in
set_option maxHeartbeats 4000000 in
theorem w_X11_drawsAt_L81 {a2 n2 : Nat} (ha2 : ZDS[a2]? = some (.inr (0, n2))) (na2 : a2 < 1000) (bn2 : InR (n2 : Int)) {RR : Unit × ZI} (S : CallFix p m c cX11_drawsAt 12 s args Ztbl RX11) (hr : meth.sig.returnType = none) (hlk : meth.locks = false) (hR : 0 ≤ R.frames ∧ 60 * (0) ≤ R.locals) (hdj : Zdj ad) {k39 : ZI → Int → Int → Int → Int → Int → Option (Unit × ZI)} (hk39 : ∀ (z : ZI) (x1 : Int) (x3 : Int) (x4 : Int) (x5 : Int) (x6 : Int) (H : Heap) (locs : List Loc) (ls : Array Slot), k39 z x1 x3 x4 x5 x6 = some RR → ZW D cA ad (ZA ad) (Zc z) s H locs → Zok z → InR x1 → InR x3 → InR x4 → InR x5 → InR x6 → lv_has ls 12 [(0, .ref (ad 68)), (1, .int (i32 (x1))), (2, .ref (ad a2)), (3, .int (i32 (x3))), (4, .int (i32 (x4))), (5, .int (i32 (x5))), (6, .int (i32 (x6)))] → W p l e R s m args below meth c H locs 0 0 (MQ below (YQv D cA ad RR.2) args s 0 0 (ZA ad)) (F0 m 39 ls [])) : ∀ (n : Nat) (z : ZI) (x1 : Int) (x3 : Int) (x4 : Int) (x5 : Int) (x6 : Int) (x7 : Int) (x8 : Int) (H : Heap) (locs : List Loc) (ls : Array Slot), X11_drawsAt_L81 a2 n2 k39 n z x1 x3 x4 x5 x6 x7 x8 = some RR → ZW D cA ad (ZA ad) (Zc z) s H locs → Zok z → InR x1 → InR x3 → InR x4 → InR x5 → InR x6 → InR x7 → InR x8 → lv_has ls 12 [(0, .ref (ad 68)), (1, .int (i32 (x1))), (2, .ref (ad a2)), (3, .int (i32 (x3))), (4, .int (i32 (x4))), (5, .int (i32 (x5))), (6, .int (i32 (x6))), (7, .int (i32 (x7))), (8, .int (i32 (x8)))] → W p l e R s m args below meth c H locs 0 0 (MQ below (YQv D cA ad RR.2) args s 0 0 (ZA ad)) (F0 m 81 ls []) := by
  intro n
  induction n with
  | zero => intro z x1 x3 x4 x5 x6 x7 x8 H locs ls hF; exact nomatch hF
  | succ n hk81 =>
    intro z x1 x3 x4 x5 x6 x7 x8 H locs ls hF hw hzz hx1 hx3 hx4 hx5 hx6 hx7 hx8 hl
    replace hF : X11_drawsAt_L81b a2 n2 k39 (X11_drawsAt_L81 a2 n2 k39 n) z x1 x3 x4 x5 x6 x7 x8 = some RR := hF
    unfold X11_drawsAt_L81b at hF
    refine lv_iload S.1 S.2.1 dX11_drawsAt_81 (lv_at hl 8 rfl) ?_
    refine lv_aload_n S.1 S.2.1 dX11_drawsAt_83 rfl (lv_at hl 0 rfl) ?_
    refine gf_X11_123 S hw dX11_drawsAt_84 ?_
    refine lv_iload_n S.1 S.2.1 dX11_drawsAt_87 rfl (lv_at hl 1 rfl) ?_
    obtain ⟨b1_, hF⟩ := Zgs hF
    refine Yiald S hw zd_106 (by decide) hx1 b1_ dX11_drawsAt_88 ?_
    refine Yicmp_ge (tgt := 225) S hx8 (hzz.1 _ _ (by decide)) dX11_drawsAt_89 (by decide) (fun c2_ => ?_) (fun c2_ => ?_)
    · replace hF := ZtP c2_ hF
      exact w_X11_drawsAt_b225 ha2 na2 bn2 S hr hlk hR hdj hk39 _ _ _ _ _ _ _ _ _ hF hw hzz hx1 hx3 hx4 hx5 hx6 (lv_sub hl [0, 1, 2, 3, 4, 5, 6] rfl)
    · replace hF := ZtN c2_ hF
      refine lv_iload S.1 S.2.1 dX11_drawsAt_92 (lv_at hl 7 rfl) ?_
      refine Yif_le (tgt := 225) S hx7 dX11_drawsAt_94 (by decide) (fun c3_ => ?_) (fun c3_ => ?_)
      · replace hF := ZtP c3_ hF
        exact w_X11_drawsAt_b225 ha2 na2 bn2 S hr hlk hR hdj hk39 _ _ _ _ _ _ _ _ _ hF hw hzz hx1 hx3 hx4 hx5 hx6 (lv_sub hl [0, 1, 2, 3, 4, 5, 6] rfl)
      · replace hF := ZtN c3_ hF
        refine lv_aload_n S.1 S.2.1 dX11_drawsAt_97 rfl (lv_at hl 0 rfl) ?_
        refine gf_X11_120 S hw dX11_drawsAt_98 ?_
        refine lv_iload S.1 S.2.1 dX11_drawsAt_101 (lv_at hl 8 rfl) ?_
        obtain ⟨b4_, hF⟩ := Zgs hF
        refine Yiald S hw zd_105 (by decide) hx8 b4_ dX11_drawsAt_103 ?_
        refine lv_istore (lv' := [(9, .int (i32 (z 105 x8))), (0, .ref (ad 68)), (1, .int (i32 (x1))), (2, .ref (ad a2)), (3, .int (i32 (x3))), (4, .int (i32 (x4))), (5, .int (i32 (x5))), (6, .int (i32 (x6))), (7, .int (i32 (x7))), (8, .int (i32 (x8)))]) S.1 S.2.1 dX11_drawsAt_104 hl (by decide) rfl (fun ls hl => ?_)
        refine lv_aload_n S.1 S.2.1 dX11_drawsAt_106 rfl (lv_at hl 3 rfl) ?_
        refine lv_aload_n S.1 S.2.1 dX11_drawsAt_107 rfl (lv_at hl 1 rfl) ?_
        refine gf_X11_19 S hw dX11_drawsAt_108 ?_
        refine lv_iload S.1 S.2.1 dX11_drawsAt_111 (lv_at hl 0 rfl) ?_
        obtain ⟨b5_, hF⟩ := Zgs hF
        refine Yiald S hw zd_72 (by decide) (hzz.1 _ _ (by decide)) b5_ dX11_drawsAt_113 ?_
        obtain ⟨b6_, hF⟩ := Zgs hF
        refine Yiald S hw ha2 na2 (hzz.1 _ _ (by decide)) b6_ dX11_drawsAt_114 ?_
        refine lv_iload S.1 S.2.1 dX11_drawsAt_115 (lv_at hl 7 rfl) ?_
        refine Yicmp_gt (tgt := 219) S (hzz.1 _ _ na2) hx6 dX11_drawsAt_117 (by decide) (fun c7_ => ?_) (fun c7_ => ?_)
        · replace hF := ZtP c7_ hF
          exact w_X11_drawsAt_b219 ha2 na2 bn2 S hr hlk hR hdj hk39 hk81 _ _ _ _ _ _ _ _ _ _ _ hF hw hzz hx1 hx3 hx4 hx5 hx6 hx7 hx8 (lv_sub hl [1, 2, 3, 4, 5, 6, 7, 8, 9] rfl)
        · replace hF := ZtN c7_ hF
          refine lv_aload_n S.1 S.2.1 dX11_drawsAt_120 rfl (lv_at hl 1 rfl) ?_
          refine gf_X11_108 S hw dX11_drawsAt_121 ?_
          refine lv_iload S.1 S.2.1 dX11_drawsAt_124 (lv_at hl 0 rfl) ?_
          obtain ⟨b8_, hF⟩ := Zgs hF
          refine Yiald S hw zd_101 (by decide) (hzz.1 _ _ (by decide)) b8_ dX11_drawsAt_126 ?_
          refine lv_aload_n S.1 S.2.1 dX11_drawsAt_127 rfl (lv_at hl 1 rfl) ?_
          refine gf_X11_102 S hw dX11_drawsAt_128 ?_
          refine lv_iload S.1 S.2.1 dX11_drawsAt_131 (lv_at hl 0 rfl) ?_
          obtain ⟨b9_, hF⟩ := Zgs hF
          refine Yiald S hw zd_99 (by decide) (hzz.1 _ _ (by decide)) b9_ dX11_drawsAt_133 ?_
          refine Yicmp_ne (tgt := 140) S (hzz.1 _ _ (by decide)) (hzz.1 _ _ (by decide)) dX11_drawsAt_134 (by decide) (fun c10_ => ?_) (fun c10_ => ?_)
          · replace hF := ZtN c10_ hF
            refine lv_aload_n S.1 S.2.1 dX11_drawsAt_140 rfl (lv_at hl 1 rfl) ?_
            refine gf_X11_102 S hw dX11_drawsAt_141 ?_
            refine lv_iload S.1 S.2.1 dX11_drawsAt_144 (lv_at hl 0 rfl) ?_
            obtain ⟨b11_, hF⟩ := Zgs hF
            refine Yiald S hw zd_99 (by decide) (hzz.1 _ _ (by decide)) b11_ dX11_drawsAt_146 ?_
            refine lv_aload_n S.1 S.2.1 dX11_drawsAt_147 rfl (lv_at hl 1 rfl) ?_
            refine gf_X11_108 S hw dX11_drawsAt_148 ?_
            refine lv_iload S.1 S.2.1 dX11_drawsAt_151 (lv_at hl 0 rfl) ?_
            obtain ⟨b12_, hF⟩ := Zgs hF
            refine Yiald S hw zd_101 (by decide) (hzz.1 _ _ (by decide)) b12_ dX11_drawsAt_153 ?_
            obtain ⟨g13_, hF⟩ := Zgs hF
            refine Yisub S dX11_drawsAt_154 ?_
            refine lv_istore (lv' := [(10, .int (i32 ((z 99 (z 105 x8)) - (z 101 (z 105 x8))))), (9, .int (i32 (z 105 x8))), (0, .ref (ad 68)), (1, .int (i32 (x1))), (2, .ref (ad a2)), (3, .int (i32 (x3))), (4, .int (i32 (x4))), (5, .int (i32 (x5))), (6, .int (i32 (x6))), (7, .int (i32 (x7))), (8, .int (i32 (x8)))]) S.1 S.2.1 dX11_drawsAt_155 hl (by decide) rfl (fun ls hl => ?_)
            refine lv_iload S.1 S.2.1 dX11_drawsAt_157 (lv_at hl 0 rfl) ?_
            refine lv_iload S.1 S.2.1 dX11_drawsAt_159 (lv_at hl 9 rfl) ?_
            refine Yicmp_ge (tgt := 169) S g13_ hx7 dX11_drawsAt_161 (by decide) (fun c14_ => ?_) (fun c14_ => ?_)
            · replace hF := ZtP c14_ hF
              refine lv_iload S.1 S.2.1 dX11_drawsAt_169 (lv_at hl 9 rfl) ?_
              exact w_X11_drawsAt_b171 ha2 na2 bn2 S hr hlk hR hdj hk39 hk81 _ _ _ _ _ _ _ _ _ _ _ _ _ _ hF hw hzz hx1 hx3 hx4 hx5 hx6 hx7 hx8 (hzz.1 _ _ (by decide)) g13_ hx7 (lv_sub hl [2, 3, 4, 5, 6, 7, 8, 9, 10, 1, 0] rfl)
            · replace hF := ZtN c14_ hF
              refine lv_iload S.1 S.2.1 dX11_drawsAt_164 (lv_at hl 0 rfl) ?_
              refine lv_goto (tgt := 171) S.1 S.2.1 dX11_drawsAt_166 (by decide) ?_
              exact w_X11_drawsAt_b171 ha2 na2 bn2 S hr hlk hR hdj hk39 hk81 _ _ _ _ _ _ _ _ _ _ _ _ _ _ hF hw hzz hx1 hx3 hx4 hx5 hx6 hx7 hx8 (hzz.1 _ _ (by decide)) g13_ g13_ (lv_sub hl [2, 3, 4, 5, 6, 7, 8, 9, 10, 1, 0] rfl)
          · replace hF := ZtP c10_ hF
            refine lv_goto (tgt := 219) S.1 S.2.1 dX11_drawsAt_137 (by decide) ?_
            exact w_X11_drawsAt_b219 ha2 na2 bn2 S hr hlk hR hdj hk39 hk81 _ _ _ _ _ _ _ _ _ _ _ hF hw hzz hx1 hx3 hx4 hx5 hx6 hx7 hx8 (lv_sub hl [1, 2, 3, 4, 5, 6, 7, 8, 9] rfl)
set_option maxRecDepth 100000 in
set_option maxHeartbeats 4000000 in
theorem w_X11_drawsAt_b75 {a2 n2 : Nat} (ha2 : ZDS[a2]? = some (.inr (0, n2))) (na2 : a2 < 1000) (bn2 : InR (n2 : Int)) {RR : Unit × ZI} (S : CallFix p m c cX11_drawsAt 12 s args Ztbl RX11) (hr : meth.sig.returnType = none) (hlk : meth.locks = false) (hR : 0 ≤ R.frames ∧ 60 * (0) ≤ R.locals) (hdj : Zdj ad) {k39 : ZI → Int → Int → Int → Int → Int → Option (Unit × ZI)} (hk39 : ∀ (z : ZI) (x1 : Int) (x3 : Int) (x4 : Int) (x5 : Int) (x6 : Int) (H : Heap) (locs : List Loc) (ls : Array Slot), k39 z x1 x3 x4 x5 x6 = some RR → ZW D cA ad (ZA ad) (Zc z) s H locs → Zok z → InR x1 → InR x3 → InR x4 → InR x5 → InR x6 → lv_has ls 12 [(0, .ref (ad 68)), (1, .int (i32 (x1))), (2, .ref (ad a2)), (3, .int (i32 (x3))), (4, .int (i32 (x4))), (5, .int (i32 (x5))), (6, .int (i32 (x6)))] → W p l e R s m args below meth c H locs 0 0 (MQ below (YQv D cA ad RR.2) args s 0 0 (ZA ad)) (F0 m 39 ls [])) : ∀ (z : ZI) (x1 : Int) (x3 : Int) (x4 : Int) (x5 : Int) (x6 : Int) (y0 : Int) (H : Heap) (locs : List Loc) (ls : Array Slot), X11_drawsAt_b75 a2 n2 k39 z x1 x3 x4 x5 x6 y0 = some RR → ZW D cA ad (ZA ad) (Zc z) s H locs → Zok z → InR x1 → InR x3 → InR x4 → InR x5 → InR x6 → InR y0 → lv_has ls 12 [(0, .ref (ad 68)), (1, .int (i32 (x1))), (2, .ref (ad a2)), (3, .int (i32 (x3))), (4, .int (i32 (x4))), (5, .int (i32 (x5))), (6, .int (i32 (x6)))] → W p l e R s m args below meth c H locs 0 0 (MQ below (YQv D cA ad RR.2) args s 0 0 (ZA ad)) (F0 m 75 ls [.int (i32 (y0))]) := by
  intro z x1 x3 x4 x5 x6 y0 H locs ls hF hw hzz hx1 hx3 hx4 hx5 hx6 hy0 hl
  unfold X11_drawsAt_b75 at hF
  refine lv_istore (lv' := [(7, .int (i32 (y0))), (0, .ref (ad 68)), (1, .int (i32 (x1))), (2, .ref (ad a2)), (3, .int (i32 (x3))), (4, .int (i32 (x4))), (5, .int (i32 (x5))), (6, .int (i32 (x6)))]) S.1 S.2.1 dX11_drawsAt_75 hl (by decide) rfl (fun ls hl => ?_)
  refine lv_iload S.1 S.2.1 dX11_drawsAt_77 (lv_at hl 5 rfl) ?_
  refine lv_istore (lv' := [(8, .int (i32 (x4))), (7, .int (i32 (y0))), (0, .ref (ad 68)), (1, .int (i32 (x1))), (2, .ref (ad a2)), (3, .int (i32 (x3))), (4, .int (i32 (x4))), (5, .int (i32 (x5))), (6, .int (i32 (x6)))]) S.1 S.2.1 dX11_drawsAt_79 hl (by decide) rfl (fun ls hl => ?_)
  exact w_X11_drawsAt_L81 ha2 na2 bn2 S hr hlk hR hdj hk39 Zfuel _ _ _ _ _ _ _ _ _ _ _ hF hw hzz hx1 hx3 hx4 hx5 hx6 hy0 hx4 (lv_sub hl [2, 3, 4, 5, 6, 7, 8, 1, 0] rfl)
set_option maxRecDepth 100000 in
set_option maxHeartbeats 4000000 in
theorem w_X11_drawsAt_L39 {a2 n2 : Nat} (ha2 : ZDS[a2]? = some (.inr (0, n2))) (na2 : a2 < 1000) (bn2 : InR (n2 : Int)) {RR : Unit × ZI} (S : CallFix p m c cX11_drawsAt 12 s args Ztbl RX11) (hr : meth.sig.returnType = none) (hlk : meth.locks = false) (hR : 0 ≤ R.frames ∧ 60 * (0) ≤ R.locals) (hdj : Zdj ad) : ∀ (n : Nat) (z : ZI) (x1 : Int) (x3 : Int) (x4 : Int) (x5 : Int) (x6 : Int) (H : Heap) (locs : List Loc) (ls : Array Slot), X11_drawsAt_L39 a2 n2 n z x1 x3 x4 x5 x6 = some RR → ZW D cA ad (ZA ad) (Zc z) s H locs → Zok z → InR x1 → InR x3 → InR x4 → InR x5 → InR x6 → lv_has ls 12 [(0, .ref (ad 68)), (1, .int (i32 (x1))), (2, .ref (ad a2)), (3, .int (i32 (x3))), (4, .int (i32 (x4))), (5, .int (i32 (x5))), (6, .int (i32 (x6)))] → W p l e R s m args below meth c H locs 0 0 (MQ below (YQv D cA ad RR.2) args s 0 0 (ZA ad)) (F0 m 39 ls []) := by
  intro n
  induction n with
  | zero => intro z x1 x3 x4 x5 x6 H locs ls hF; exact nomatch hF
  | succ n hk39 =>
    intro z x1 x3 x4 x5 x6 H locs ls hF hw hzz hx1 hx3 hx4 hx5 hx6 hl
    replace hF : X11_drawsAt_L39b a2 n2 (X11_drawsAt_L39 a2 n2 n) z x1 x3 x4 x5 x6 = some RR := hF
    unfold X11_drawsAt_L39b at hF
    refine lv_iload S.1 S.2.1 dX11_drawsAt_39 (lv_at hl 6 rfl) ?_
    refine lv_bipush (v := i32 24) S.1 S.2.1 dX11_drawsAt_41 bp_24 ?_
    refine Yicmp_ge (tgt := 231) S hx6 r_24 dX11_drawsAt_43 (by decide) (fun c1_ => ?_) (fun c1_ => ?_)
    · replace hF := ZtP c1_ hF
      exact w_X11_drawsAt_b231 ha2 na2 bn2 S hr hlk hR hdj _ _ _ _ hF hw hzz  (lv_sub hl [] rfl)
    · replace hF := ZtN c1_ hF
      refine lv_iload_n S.1 S.2.1 dX11_drawsAt_46 rfl (lv_at hl 3 rfl) ?_
      refine Yif_le (tgt := 231) S hx3 dX11_drawsAt_47 (by decide) (fun c2_ => ?_) (fun c2_ => ?_)
      · replace hF := ZtP c2_ hF
        exact w_X11_drawsAt_b231 ha2 na2 bn2 S hr hlk hR hdj _ _ _ _ hF hw hzz  (lv_sub hl [] rfl)
      · replace hF := ZtN c2_ hF
        refine lv_iload S.1 S.2.1 dX11_drawsAt_50 (lv_at hl 5 rfl) ?_
        refine Yif_le (tgt := 231) S hx5 dX11_drawsAt_52 (by decide) (fun c3_ => ?_) (fun c3_ => ?_)
        · replace hF := ZtP c3_ hF
          exact w_X11_drawsAt_b231 ha2 na2 bn2 S hr hlk hR hdj _ _ _ _ hF hw hzz  (lv_sub hl [] rfl)
        · replace hF := ZtN c3_ hF
          refine lv_aload_n S.1 S.2.1 dX11_drawsAt_55 rfl (lv_at hl 0 rfl) ?_
          refine gf_X11_93 S hw dX11_drawsAt_56 ?_
          refine lv_iload_n S.1 S.2.1 dX11_drawsAt_59 rfl (lv_at hl 1 rfl) ?_
          obtain ⟨b4_, hF⟩ := Zgs hF
          refine Yiald S hw zd_96 (by decide) hx1 b4_ dX11_drawsAt_60 ?_
          refine lv_iload_n S.1 S.2.1 dX11_drawsAt_61 rfl (lv_at hl 3 rfl) ?_
          refine Yicmp_ge (tgt := 74) S (hzz.1 _ _ (by decide)) hx3 dX11_drawsAt_62 (by decide) (fun c5_ => ?_) (fun c5_ => ?_)
          · replace hF := ZtP c5_ hF
            refine lv_iload_n S.1 S.2.1 dX11_drawsAt_74 rfl (lv_at hl 3 rfl) ?_
            exact w_X11_drawsAt_b75 ha2 na2 bn2 S hr hlk hR hdj hk39 _ _ _ _ _ _ _ _ _ _ hF hw hzz hx1 hx3 hx4 hx5 hx6 hx3 (lv_sub hl [0, 1, 2, 3, 4, 5, 6] rfl)
          · replace hF := ZtN c5_ hF
            refine lv_aload_n S.1 S.2.1 dX11_drawsAt_65 rfl (lv_at hl 0 rfl) ?_
            refine gf_X11_93 S hw dX11_drawsAt_66 ?_
            refine lv_iload_n S.1 S.2.1 dX11_drawsAt_69 rfl (lv_at hl 1 rfl) ?_
            obtain ⟨b6_, hF⟩ := Zgs hF
            refine Yiald S hw zd_96 (by decide) hx1 b6_ dX11_drawsAt_70 ?_
            refine lv_goto (tgt := 75) S.1 S.2.1 dX11_drawsAt_71 (by decide) ?_
            exact w_X11_drawsAt_b75 ha2 na2 bn2 S hr hlk hR hdj hk39 _ _ _ _ _ _ _ _ _ _ hF hw hzz hx1 hx3 hx4 hx5 hx6 (hzz.1 _ _ (by decide)) (lv_sub hl [0, 1, 2, 3, 4, 5, 6] rfl)
set_option maxRecDepth 100000 in
set_option maxHeartbeats 4000000 in
theorem w_X11_drawsAt_b23 {a2 n2 : Nat} (ha2 : ZDS[a2]? = some (.inr (0, n2))) (na2 : a2 < 1000) (bn2 : InR (n2 : Int)) {RR : Unit × ZI} (S : CallFix p m c cX11_drawsAt 12 s args Ztbl RX11) (hr : meth.sig.returnType = none) (hlk : meth.locks = false) (hR : 0 ≤ R.frames ∧ 60 * (0) ≤ R.locals) (hdj : Zdj ad) : ∀ (z : ZI) (x1 : Int) (x3 : Int) (y0 : Int) (H : Heap) (locs : List Loc) (ls : Array Slot), X11_drawsAt_b23 a2 n2 z x1 x3 y0 = some RR → ZW D cA ad (ZA ad) (Zc z) s H locs → Zok z → InR x1 → InR x3 → InR y0 → lv_has ls 12 [(0, .ref (ad 68)), (1, .int (i32 (x1))), (2, .ref (ad a2)), (3, .int (i32 (x3)))] → W p l e R s m args below meth c H locs 0 0 (MQ below (YQv D cA ad RR.2) args s 0 0 (ZA ad)) (F0 m 23 ls [.int (i32 (y0))]) := by
  intro z x1 x3 y0 H locs ls hF hw hzz hx1 hx3 hy0 hl
  unfold X11_drawsAt_b23 at hF
  refine lv_istore (lv' := [(4, .int (i32 (y0))), (0, .ref (ad 68)), (1, .int (i32 (x1))), (2, .ref (ad a2)), (3, .int (i32 (x3)))]) S.1 S.2.1 dX11_drawsAt_23 hl (by decide) rfl (fun ls hl => ?_)
  refine lv_aload_n S.1 S.2.1 dX11_drawsAt_25 rfl (lv_at hl 1 rfl) ?_
  refine gf_X11_123 S hw dX11_drawsAt_26 ?_
  refine lv_iload_n S.1 S.2.1 dX11_drawsAt_29 rfl (lv_at hl 2 rfl) ?_
  obtain ⟨b1_, hF⟩ := Zgs hF
  refine Yiald S hw zd_106 (by decide) hx1 b1_ dX11_drawsAt_30 ?_
  refine lv_iload S.1 S.2.1 dX11_drawsAt_31 (lv_at hl 0 rfl) ?_
  obtain ⟨g2_, hF⟩ := Zgs hF
  refine Yisub S dX11_drawsAt_33 ?_
  refine lv_istore (lv' := [(5, .int (i32 ((z 106 x1) - y0))), (4, .int (i32 (y0))), (0, .ref (ad 68)), (1, .int (i32 (x1))), (2, .ref (ad a2)), (3, .int (i32 (x3)))]) S.1 S.2.1 dX11_drawsAt_34 hl (by decide) rfl (fun ls hl => ?_)
  refine lv_iconst (v := i32 4) S.1 S.2.1 dX11_drawsAt_36 ic_4 ?_
  refine lv_istore (lv' := [(6, .int (i32 (4))), (5, .int (i32 ((z 106 x1) - y0))), (4, .int (i32 (y0))), (0, .ref (ad 68)), (1, .int (i32 (x1))), (2, .ref (ad a2)), (3, .int (i32 (x3)))]) S.1 S.2.1 dX11_drawsAt_37 hl (by decide) rfl (fun ls hl => ?_)
  exact w_X11_drawsAt_L39 ha2 na2 bn2 S hr hlk hR hdj Zfuel _ _ _ _ _ _ _ _ _ hF hw hzz hx1 hx3 hy0 g2_ r_4 (lv_sub hl [3, 4, 5, 6, 2, 1, 0] rfl)
set_option maxRecDepth 100000 in
set_option maxHeartbeats 4000000 in
theorem c_X11_drawsAt {l : Launch} {D : va_G} {cA : Nat → ClassId} {ad : Nat → Nat} (hdj : Zdj ad) {a2 n2 : Nat} (ha2 : ZDS[a2]? = some (.inr (0, n2))) (na2 : a2 < 1000) (bn2 : InR (n2 : Int)) {z z1 : ZI} {x1 : Int} (hzz : Zok z) (hx1 : InR x1) (hF : F_X11_drawsAt a2 n2 z x1 = some ((), z1)) : YMv l D cA ad (0) yX11_drawsAt cX11_drawsAt 12 [.ref (ad 68), .int (i32 x1), .ref (ad a2)] z z1 :=
  Zmet hdj (by decide) rfl (Nat.le_of_ble_eq_true rfl) (lv := [(0, .ref (ad 68)), (1, .int (i32 (x1))), (2, .ref (ad a2))]) rfl (fun p e s m args below meth c ls S hr hlk hw hl => by
    have hR : 0 ≤ (Zrm (0)).frames ∧ 60 * (0) ≤ (Zrm (0)).locals := ⟨Nat.le_refl _, Nat.le_refl _⟩
    unfold F_X11_drawsAt at hF
    revert hR
    generalize Zrm (0) = R
    intro hR
    refine lv_aload_n S.1 S.2.1 dX11_drawsAt_0 rfl (lv_at hl 0 rfl) ?_
    refine gf_X11_96 S hw dX11_drawsAt_1 ?_
    refine lv_iload_n S.1 S.2.1 dX11_drawsAt_4 rfl (lv_at hl 1 rfl) ?_
    obtain ⟨b1_, hF⟩ := Zgs hF
    refine Yiald S hw zd_97 (by decide) hx1 b1_ dX11_drawsAt_5 ?_
    refine lv_istore_n (lv' := [(3, .int (i32 (z 97 x1))), (0, .ref (ad 68)), (1, .int (i32 (x1))), (2, .ref (ad a2))]) S.1 S.2.1 dX11_drawsAt_6 rfl hl (by decide) rfl (fun ls hl => ?_)
    refine lv_iload_n S.1 S.2.1 dX11_drawsAt_7 rfl (lv_at hl 2 rfl) ?_
    refine Yif_ne (tgt := 15) S hx1 dX11_drawsAt_8 (by decide) (fun c2_ => ?_) (fun c2_ => ?_)
    · replace hF := ZtN c2_ hF
      refine lv_aload_n S.1 S.2.1 dX11_drawsAt_15 rfl (lv_at hl 1 rfl) ?_
      refine gf_X11_123 S hw dX11_drawsAt_16 ?_
      refine lv_iload_n S.1 S.2.1 dX11_drawsAt_19 rfl (lv_at hl 2 rfl) ?_
      refine lv_iconst (v := i32 1) S.1 S.2.1 dX11_drawsAt_20 ic_1 ?_
      obtain ⟨g3_, hF⟩ := Zgs hF
      refine Yisub S dX11_drawsAt_21 ?_
      obtain ⟨b4_, hF⟩ := Zgs hF
      refine Yiald S hw zd_106 (by decide) g3_ b4_ dX11_drawsAt_22 ?_
      exact w_X11_drawsAt_b23 ha2 na2 bn2 S hr hlk hR hdj _ _ _ _ _ _ _ hF hw hzz hx1 (hzz.1 _ _ (by decide)) (hzz.1 _ _ (by decide)) (lv_sub hl [1, 2, 3, 0] rfl)
    · replace hF := ZtP c2_ hF
      refine lv_iconst (v := i32 0) S.1 S.2.1 dX11_drawsAt_11 ic_0 ?_
      refine lv_goto (tgt := 23) S.1 S.2.1 dX11_drawsAt_12 (by decide) ?_
      exact w_X11_drawsAt_b23 ha2 na2 bn2 S hr hlk hR hdj _ _ _ _ _ _ _ hF hw hzz hx1 (hzz.1 _ _ (by decide)) r_0 (lv_sub hl [1, 2, 3, 0] rfl))
end ZWALK
