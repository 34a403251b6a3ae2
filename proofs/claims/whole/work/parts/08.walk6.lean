section ZWALK
variable {p : Program} {l : Launch} {e : Env} {R : Room} {s : State} {m : MethodId} {args : Array Value} {below : List Frame} {meth : Method} {c : Code}
variable {D : va_G} {cA : Nat → ClassId} {ad : Nat → Nat}
set_option maxRecDepth 100000 in
set_option maxHeartbeats 4000000 in
theorem w_X11_houseAt_L2 {RR : Int × ZI} (S : CallFix p m c cX11_houseAt 3 s args Ztbl RX11) (hr : meth.sig.returnType = some .int) (hlk : meth.locks = false) (hR : 0 ≤ R.frames ∧ 60 * (0) ≤ R.locals) (hdj : Zdj ad) : ∀ (n : Nat) (z : ZI) (x1 : Int) (x2 : Int) (H : Heap) (locs : List Loc) (ls : Array Slot), X11_houseAt_L2 n z x1 x2 = some RR → ZW D cA ad (ZA ad) (Zc z) s H locs → Zok z → InR x1 → InR x2 → lv_has ls 3 [(0, .ref (ad 68)), (1, .int (i32 (x1))), (2, .int (i32 (x2)))] → W p l e R s m args below meth c H locs 0 0 (MQ below (YQi D cA ad RR.1 RR.2) args s 0 0 (ZA ad)) (F0 m 2 ls []) := by
  intro n
  induction n with
  | zero => intro z x1 x2 H locs ls hF; exact nomatch hF
  | succ n hk2 =>
    intro z x1 x2 H locs ls hF hw hzz hx1 hx2 hl
    replace hF : X11_houseAt_L2b (X11_houseAt_L2 n) z x1 x2 = some RR := hF
    unfold X11_houseAt_L2b at hF
    refine lv_iload_n S.1 S.2.1 dX11_houseAt_2 rfl (lv_at hl 2 rfl) ?_
    refine lv_aload_n S.1 S.2.1 dX11_houseAt_3 rfl (lv_at hl 0 rfl) ?_
    refine gg_X11_193 S hw dX11_houseAt_4 ?_
    refine Yicmp_ge (tgt := 28) S hx2 (hzz.1 68 12 (by decide)) dX11_houseAt_7 (by decide) (fun c1_ => ?_) (fun c1_ => ?_)
    · replace hF := ZtP c1_ hF
      refine lv_bipush (v := i32 (-9)) S.1 S.2.1 dX11_houseAt_28 bp_m9 ?_
      exact Yireti S hw hzz r_m9 hr hlk hF dX11_houseAt_30
    · replace hF := ZtN c1_ hF
      refine lv_aload_n S.1 S.2.1 dX11_houseAt_10 rfl (lv_at hl 0 rfl) ?_
      refine gf_X11_16 S hw dX11_houseAt_11 ?_
      refine lv_iload_n S.1 S.2.1 dX11_houseAt_14 rfl (lv_at hl 2 rfl) ?_
      obtain ⟨b2_, hF⟩ := Zgs hF
      refine Yiald S hw zd_71 (by decide) hx2 b2_ dX11_houseAt_15 ?_
      refine lv_iload_n S.1 S.2.1 dX11_houseAt_16 rfl (lv_at hl 1 rfl) ?_
      refine Yicmp_ne (tgt := 22) S (hzz.1 _ _ (by decide)) hx1 dX11_houseAt_17 (by decide) (fun c3_ => ?_) (fun c3_ => ?_)
      · replace hF := ZtN c3_ hF
        obtain ⟨g4_, hF⟩ := Zgs hF
        refine lv_iinc (v := i32 (x2 + 1)) (lv' := [(2, .int (i32 (x2 + 1))), (0, .ref (ad 68)), (1, .int (i32 (x1)))]) S.1 S.2.1 dX11_houseAt_22 hl (k := 2) rfl Yiinc (by decide) rfl (fun ls hl => ?_)
        refine lv_goto (tgt := 2) S.1 S.2.1 dX11_houseAt_25 (by decide) ?_
        exact hk2 _ _ _ _ _ _ hF hw hzz hx1 g4_ (lv_sub hl [1, 2, 0] rfl)
      · replace hF := ZtP c3_ hF
        refine lv_iload_n S.1 S.2.1 dX11_houseAt_20 rfl (lv_at hl 2 rfl) ?_
        exact Yireti S hw hzz hx2 hr hlk hF dX11_houseAt_21
set_option maxRecDepth 100000 in
set_option maxHeartbeats 4000000 in
theorem c_X11_houseAt {l : Launch} {D : va_G} {cA : Nat → ClassId} {ad : Nat → Nat} (hdj : Zdj ad) {z z1 : ZI} {x1 : Int} {r : Int} (hzz : Zok z) (hx1 : InR x1) (hF : F_X11_houseAt z x1 = some (r, z1)) : YMi l D cA ad (0) yX11_houseAt cX11_houseAt 3 (some .int) [.ref (ad 68), .int (i32 x1)] z r z1 :=
  Zmet hdj (by decide) rfl (Nat.le_of_ble_eq_true rfl) (lv := [(0, .ref (ad 68)), (1, .int (i32 (x1)))]) rfl (fun p e s m args below meth c ls S hr hlk hw hl => by
    have hR : 0 ≤ (Zrm (0)).frames ∧ 60 * (0) ≤ (Zrm (0)).locals := ⟨Nat.le_refl _, Nat.le_refl _⟩
    unfold F_X11_houseAt at hF
    revert hR
    generalize Zrm (0) = R
    intro hR
    refine lv_iconst (v := i32 0) S.1 S.2.1 dX11_houseAt_0 ic_0 ?_
    refine lv_istore_n (lv' := [(2, .int (i32 (0))), (0, .ref (ad 68)), (1, .int (i32 (x1)))]) S.1 S.2.1 dX11_houseAt_1 rfl hl (by decide) rfl (fun ls hl => ?_)
    exact w_X11_houseAt_L2 S hr hlk hR hdj Zfuel _ _ _ _ _ _ hF hw hzz hx1 r_0 (lv_sub hl [1, 2, 0] rfl))
set_option maxRecDepth 100000 in
set_option maxHeartbeats 4000000 in
theorem w_X11_house_b19 {RR : Int × ZI} (S : CallFix p m c cX11_house 3 s args Ztbl RX11) (hr : meth.sig.returnType = some .int) (hlk : meth.locks = false) (hR : 1 ≤ R.frames ∧ 60 * (1) ≤ R.locals) (hdj : Zdj ad) : ∀ (z : ZI) (H : Heap) (locs : List Loc) (ls : Array Slot), X11_house_b19 z  = some RR → ZW D cA ad (ZA ad) (Zc z) s H locs → Zok z → lv_has ls 3 [(0, .ref (ad 68))] → W p l e R s m args below meth c H locs 0 0 (MQ below (YQi D cA ad RR.1 RR.2) args s 0 0 (ZA ad)) (F0 m 19 ls []) := by
  intro z  H locs ls hF hw hzz  hl
  unfold X11_house_b19 at hF
  refine lv_aload_n S.1 S.2.1 dX11_house_19 rfl (lv_at hl 0 rfl) ?_
  refine lv_iconst (v := i32 (-1)) S.1 S.2.1 dX11_house_20 ic_m1 ?_
  obtain ⟨r3_, z1_, h2_, hF⟩ := Ybs hF
  refine YcallVi (rest := []) S hw (c_X11_no hdj hzz r_m1 h2_) my_X11_no mi_X11_no ml_X11_207 zd_68 zc_X11 rfl (Zrr hR (by decide)) ⟨Nat.zero_le _, Nat.zero_le _⟩ hl.1 rfl rfl (Nat.le_of_ble_eq_true rfl) dX11_house_21 (fun hrr3_ hzz1_ H locs hw => ?_)
  exact Yireti S hw hzz1_ hrr3_ hr hlk hF dX11_house_24
set_option maxRecDepth 100000 in
set_option maxHeartbeats 4000000 in
theorem c_X11_house {l : Launch} {D : va_G} {cA : Nat → ClassId} {ad : Nat → Nat} (hdj : Zdj ad) {z z1 : ZI} {x1 : Int} {x2 : Int} {r : Int} (hzz : Zok z) (hx1 : InR x1) (hx2 : InR x2) (hF : F_X11_house z x1 x2 = some (r, z1)) : YMi l D cA ad (1) yX11_house cX11_house 3 (some .int) [.ref (ad 68), .int (i32 x1), .int (i32 x2)] z r z1 :=
  Zmet hdj (by decide) rfl (Nat.le_of_ble_eq_true rfl) (lv := [(0, .ref (ad 68)), (1, .int (i32 (x1))), (2, .int (i32 (x2)))]) rfl (fun p e s m args below meth c ls S hr hlk hw hl => by
    have hR : 1 ≤ (Zrm (1)).frames ∧ 60 * (1) ≤ (Zrm (1)).locals := ⟨Nat.le_refl _, Nat.le_refl _⟩
    unfold F_X11_house at hF
    revert hR
    generalize Zrm (1) = R
    intro hR
    refine lv_iload_n S.1 S.2.1 dX11_house_0 rfl (lv_at hl 1 rfl) ?_
    obtain ⟨r3_, z1_, h2_, hF⟩ := Ybs hF
    refine YcallSi (rest := []) S hw (c_X11_isCell hdj hzz hx1 h2_) my_X11_isCell ms_X11_isCell ml_X11_211 (Zrr hR (by decide)) ⟨Nat.zero_le _, Nat.zero_le _⟩ hl.1 rfl rfl (Nat.le_of_ble_eq_true rfl) dX11_house_1 (fun hrr3_ hzz1_ H locs hw => ?_)
    refine Yif_eq (tgt := 19) S hrr3_ dX11_house_4 (by decide) (fun c4_ => ?_) (fun c4_ => ?_)
    · replace hF := ZtP c4_ hF
      exact w_X11_house_b19 S hr hlk hR hdj _ _ _ _ hF hw hzz1_  (lv_sub hl [0] rfl)
    · replace hF := ZtN c4_ hF
      refine lv_iload_n S.1 S.2.1 dX11_house_7 rfl (lv_at hl 2 rfl) ?_
      refine Yi2l S hx2 dX11_house_8 ?_
      refine lv_lconst (v := i64 0) S.1 S.2.1 dX11_house_9 lc_0 ?_
      refine lv_ldc2 (own := RX11) (v := i64 3) S.1 S.2.1 S.2.2.2.1 (S.2.2.2.2 _ yl_X11_224) dX11_house_10 ?_
      obtain ⟨r7_, z5_, h6_, hF⟩ := Ybs hF
      refine YcallSi (rest := []) S hw (c_X11_isIn hdj hzz1_ (InR_L hx2) (InR_L r_0) (InR_L r_3) h6_) my_X11_isIn ms_X11_isIn ml_X11_226 (Zrr hR (by decide)) ⟨Nat.zero_le _, Nat.zero_le _⟩ hl.1 rfl rfl (Nat.le_of_ble_eq_true rfl) dX11_house_13 (fun hrr7_ hzz5_ H locs hw => ?_)
      refine Yif_ne (tgt := 25) S hrr7_ dX11_house_16 (by decide) (fun c8_ => ?_) (fun c8_ => ?_)
      · replace hF := ZtN c8_ hF
        refine lv_aload_n S.1 S.2.1 dX11_house_25 rfl (lv_at hl 0 rfl) ?_
        refine lv_iload_n S.1 S.2.1 dX11_house_26 rfl (lv_at hl 1 rfl) ?_
        obtain ⟨r11_, z9_, h10_, hF⟩ := Ybs hF
        refine YcallVi (rest := []) S hw (c_X11_houseAt hdj hzz5_ hx1 h10_) my_X11_houseAt mi_X11_houseAt ml_X11_230 zd_68 zc_X11 rfl (Zrr hR (by decide)) ⟨Nat.zero_le _, Nat.zero_le _⟩ hl.1 rfl rfl (Nat.le_of_ble_eq_true rfl) dX11_house_27 (fun hrr11_ hzz9_ H locs hw => ?_)
        refine Yif_lt (tgt := 40) S hrr11_ dX11_house_30 (by decide) (fun c12_ => ?_) (fun c12_ => ?_)
        · replace hF := ZtP c12_ hF
          refine lv_aload_n S.1 S.2.1 dX11_house_40 rfl (lv_at hl 0 rfl) ?_
          refine gg_X11_193 S hw dX11_house_41 ?_
          refine lv_bipush (v := i32 30) S.1 S.2.1 dX11_house_44 bp_30 ?_
          refine Yicmp_ne (tgt := 56) S (hzz9_.1 68 12 (by decide)) r_30 dX11_house_46 (by decide) (fun c13_ => ?_) (fun c13_ => ?_)
          · replace hF := ZtN c13_ hF
            refine lv_aload_n S.1 S.2.1 dX11_house_56 rfl (lv_at hl 0 rfl) ?_
            refine gf_X11_16 S hw dX11_house_57 ?_
            refine lv_aload_n S.1 S.2.1 dX11_house_60 rfl (lv_at hl 0 rfl) ?_
            refine gg_X11_193 S hw dX11_house_61 ?_
            refine lv_iload_n S.1 S.2.1 dX11_house_64 rfl (lv_at hl 1 rfl) ?_
            obtain ⟨b14_, hF⟩ := Zgs hF
            refine Yiast S hw hzz9_ zd_71 (by decide) (hzz9_.1 68 12 (by decide)) hx1 b14_ dX11_house_65 (fun z15_ H locs ez hzz15_ hw => ?_)
            replace hF := Zle ez hF; clear ez
            refine lv_aload_n S.1 S.2.1 dX11_house_66 rfl (lv_at hl 0 rfl) ?_
            refine gf_X11_19 S hw dX11_house_67 ?_
            refine lv_aload_n S.1 S.2.1 dX11_house_70 rfl (lv_at hl 0 rfl) ?_
            refine gg_X11_193 S hw dX11_house_71 ?_
            refine lv_iload_n S.1 S.2.1 dX11_house_74 rfl (lv_at hl 2 rfl) ?_
            obtain ⟨b16_, hF⟩ := Zgs hF
            refine Yiast S hw hzz15_ zd_72 (by decide) (hzz15_.1 68 12 (by decide)) hx2 b16_ dX11_house_75 (fun z17_ H locs ez hzz17_ hw => ?_)
            replace hF := Zle ez hF; clear ez
            refine lv_aload_n S.1 S.2.1 dX11_house_76 rfl (lv_at hl 0 rfl) ?_
            refine lv_dup S.1 S.2.1 dX11_house_77 rfl ?_
            refine gg_X11_193 S hw dX11_house_78 ?_
            refine lv_iconst (v := i32 1) S.1 S.2.1 dX11_house_81 ic_1 ?_
            obtain ⟨g18_, hF⟩ := Zgs hF
            refine Yiadd S dX11_house_82 ?_
            refine pp_X11_193 S hw hzz17_ g18_ dX11_house_83 (fun z19_ H locs ez hzz19_ hw => ?_)
            replace hF := Zle ez hF; clear ez
            refine lv_aload_n S.1 S.2.1 dX11_house_86 rfl (lv_at hl 0 rfl) ?_
            refine gg_X11_193 S hw dX11_house_87 ?_
            refine lv_iconst (v := i32 1) S.1 S.2.1 dX11_house_90 ic_1 ?_
            obtain ⟨g20_, hF⟩ := Zgs hF
            refine Yisub S dX11_house_91 ?_
            exact Yireti S hw hzz19_ g20_ hr hlk hF dX11_house_92
          · replace hF := ZtP c13_ hF
            refine lv_aload_n S.1 S.2.1 dX11_house_49 rfl (lv_at hl 0 rfl) ?_
            refine lv_bipush (v := i32 (-6)) S.1 S.2.1 dX11_house_50 bp_m6 ?_
            obtain ⟨r23_, z21_, h22_, hF⟩ := Ybs hF
            refine YcallVi (rest := []) S hw (c_X11_no hdj hzz9_ r_m6 h22_) my_X11_no mi_X11_no ml_X11_207 zd_68 zc_X11 rfl (Zrr hR (by decide)) ⟨Nat.zero_le _, Nat.zero_le _⟩ hl.1 rfl rfl (Nat.le_of_ble_eq_true rfl) dX11_house_52 (fun hrr23_ hzz21_ H locs hw => ?_)
            exact Yireti S hw hzz21_ hrr23_ hr hlk hF dX11_house_55
        · replace hF := ZtN c12_ hF
          refine lv_aload_n S.1 S.2.1 dX11_house_33 rfl (lv_at hl 0 rfl) ?_
          refine lv_bipush (v := i32 (-3)) S.1 S.2.1 dX11_house_34 bp_m3 ?_
          obtain ⟨r26_, z24_, h25_, hF⟩ := Ybs hF
          refine YcallVi (rest := []) S hw (c_X11_no hdj hzz9_ r_m3 h25_) my_X11_no mi_X11_no ml_X11_207 zd_68 zc_X11 rfl (Zrr hR (by decide)) ⟨Nat.zero_le _, Nat.zero_le _⟩ hl.1 rfl rfl (Nat.le_of_ble_eq_true rfl) dX11_house_36 (fun hrr26_ hzz24_ H locs hw => ?_)
          exact Yireti S hw hzz24_ hrr26_ hr hlk hF dX11_house_39
      · replace hF := ZtP c8_ hF
        exact w_X11_house_b19 S hr hlk hR hdj _ _ _ _ hF hw hzz5_  (lv_sub hl [0] rfl))
set_option maxRecDepth 100000 in
set_option maxHeartbeats 4000000 in
theorem w_X11_isCompare_b23 {RR : Int × ZI} (S : CallFix p m c cX11_isCompare 1 s args Ztbl RX11) (hr : meth.sig.returnType = some .boolean) (hlk : meth.locks = false) (hR : 0 ≤ R.frames ∧ 60 * (0) ≤ R.locals) (hdj : Zdj ad) : ∀ (z : ZI) (y0 : Int) (H : Heap) (locs : List Loc) (ls : Array Slot), X11_isCompare_b23 z y0 = some RR → ZW D cA ad (ZA ad) (Zc z) s H locs → Zok z → InR y0 → lv_has ls 1 [] → W p l e R s m args below meth c H locs 0 0 (MQ below (YQi D cA ad RR.1 RR.2) args s 0 0 (ZA ad)) (F0 m 23 ls [.int (i32 (y0))]) := by
  intro z y0 H locs ls hF hw hzz hy0 hl
  unfold X11_isCompare_b23 at hF
  obtain ⟨b1_, hF⟩ := Zgs hF
  exact Yiretz S hw hzz hy0 hr hlk b1_ hF dX11_isCompare_23
set_option maxRecDepth 100000 in
set_option maxHeartbeats 4000000 in
theorem w_X11_isCompare_b18 {RR : Int × ZI} (S : CallFix p m c cX11_isCompare 1 s args Ztbl RX11) (hr : meth.sig.returnType = some .boolean) (hlk : meth.locks = false) (hR : 0 ≤ R.frames ∧ 60 * (0) ≤ R.locals) (hdj : Zdj ad) : ∀ (z : ZI) (H : Heap) (locs : List Loc) (ls : Array Slot), X11_isCompare_b18 z  = some RR → ZW D cA ad (ZA ad) (Zc z) s H locs → Zok z → lv_has ls 1 [] → W p l e R s m args below meth c H locs 0 0 (MQ below (YQi D cA ad RR.1 RR.2) args s 0 0 (ZA ad)) (F0 m 18 ls []) := by
  intro z  H locs ls hF hw hzz  hl
  unfold X11_isCompare_b18 at hF
  refine lv_iconst (v := i32 1) S.1 S.2.1 dX11_isCompare_18 ic_1 ?_
  refine lv_goto (tgt := 23) S.1 S.2.1 dX11_isCompare_19 (by decide) ?_
  exact w_X11_isCompare_b23 S hr hlk hR hdj _ _ _ _ _ hF hw hzz r_1 (lv_sub hl [] rfl)
set_option maxRecDepth 100000 in
set_option maxHeartbeats 4000000 in
theorem c_X11_isCompare {l : Launch} {D : va_G} {cA : Nat → ClassId} {ad : Nat → Nat} (hdj : Zdj ad) {z z1 : ZI} {x0 : Int} {r : Int} (hzz : Zok z) (hx0 : InR x0) (hF : F_X11_isCompare z x0 = some (r, z1)) : YMi l D cA ad (0) yX11_isCompare cX11_isCompare 1 (some .boolean) [.int (i32 x0)] z r z1 :=
  Zmet hdj (by decide) rfl (Nat.le_of_ble_eq_true rfl) (lv := [(0, .int (i32 (x0)))]) rfl (fun p e s m args below meth c ls S hr hlk hw hl => by
    have hR : 0 ≤ (Zrm (0)).frames ∧ 60 * (0) ≤ (Zrm (0)).locals := ⟨Nat.le_refl _, Nat.le_refl _⟩
    unfold F_X11_isCompare at hF
    revert hR
    generalize Zrm (0) = R
    intro hR
    refine lv_iload_n S.1 S.2.1 dX11_isCompare_0 rfl (lv_at hl 0 rfl) ?_
    refine lv_bipush (v := i32 60) S.1 S.2.1 dX11_isCompare_1 bp_60 ?_
    refine Yicmp_eq (tgt := 18) S hx0 r_60 dX11_isCompare_3 (by decide) (fun c1_ => ?_) (fun c1_ => ?_)
    · replace hF := ZtP c1_ hF
      exact w_X11_isCompare_b18 S hr hlk hR hdj _ _ _ _ hF hw hzz  (lv_sub hl [] rfl)
    · replace hF := ZtN c1_ hF
      refine lv_iload_n S.1 S.2.1 dX11_isCompare_6 rfl (lv_at hl 0 rfl) ?_
      refine lv_bipush (v := i32 61) S.1 S.2.1 dX11_isCompare_7 bp_61 ?_
      refine Yicmp_eq (tgt := 18) S hx0 r_61 dX11_isCompare_9 (by decide) (fun c2_ => ?_) (fun c2_ => ?_)
      · replace hF := ZtP c2_ hF
        exact w_X11_isCompare_b18 S hr hlk hR hdj _ _ _ _ hF hw hzz  (lv_sub hl [] rfl)
      · replace hF := ZtN c2_ hF
        refine lv_iload_n S.1 S.2.1 dX11_isCompare_12 rfl (lv_at hl 0 rfl) ?_
        refine lv_bipush (v := i32 62) S.1 S.2.1 dX11_isCompare_13 bp_62 ?_
        refine Yicmp_ne (tgt := 22) S hx0 r_62 dX11_isCompare_15 (by decide) (fun c3_ => ?_) (fun c3_ => ?_)
        · replace hF := ZtN c3_ hF
          refine lv_iconst (v := i32 0) S.1 S.2.1 dX11_isCompare_22 ic_0 ?_
          exact w_X11_isCompare_b23 S hr hlk hR hdj _ _ _ _ _ hF hw hzz r_0 (lv_sub hl [] rfl)
        · replace hF := ZtP c3_ hF
          exact w_X11_isCompare_b18 S hr hlk hR hdj _ _ _ _ hF hw hzz  (lv_sub hl [] rfl))
set_option maxRecDepth 100000 in
set_option maxHeartbeats 4000000 in
theorem w_X11_isPerson_b17 {RR : Int × ZI} (S : CallFix p m c cX11_isPerson 2 s args Ztbl RX11) (hr : meth.sig.returnType = some .boolean) (hlk : meth.locks = false) (hR : 0 ≤ R.frames ∧ 60 * (0) ≤ R.locals) (hdj : Zdj ad) : ∀ (z : ZI) (y0 : Int) (H : Heap) (locs : List Loc) (ls : Array Slot), X11_isPerson_b17 z y0 = some RR → ZW D cA ad (ZA ad) (Zc z) s H locs → Zok z → InR y0 → lv_has ls 2 [] → W p l e R s m args below meth c H locs 0 0 (MQ below (YQi D cA ad RR.1 RR.2) args s 0 0 (ZA ad)) (F0 m 17 ls [.int (i32 (y0))]) := by
  intro z y0 H locs ls hF hw hzz hy0 hl
  unfold X11_isPerson_b17 at hF
  obtain ⟨b1_, hF⟩ := Zgs hF
  exact Yiretz S hw hzz hy0 hr hlk b1_ hF dX11_isPerson_17
set_option maxRecDepth 100000 in
set_option maxHeartbeats 4000000 in
theorem w_X11_isPerson_b16 {RR : Int × ZI} (S : CallFix p m c cX11_isPerson 2 s args Ztbl RX11) (hr : meth.sig.returnType = some .boolean) (hlk : meth.locks = false) (hR : 0 ≤ R.frames ∧ 60 * (0) ≤ R.locals) (hdj : Zdj ad) : ∀ (z : ZI) (H : Heap) (locs : List Loc) (ls : Array Slot), X11_isPerson_b16 z  = some RR → ZW D cA ad (ZA ad) (Zc z) s H locs → Zok z → lv_has ls 2 [] → W p l e R s m args below meth c H locs 0 0 (MQ below (YQi D cA ad RR.1 RR.2) args s 0 0 (ZA ad)) (F0 m 16 ls []) := by
  intro z  H locs ls hF hw hzz  hl
  unfold X11_isPerson_b16 at hF
  refine lv_iconst (v := i32 0) S.1 S.2.1 dX11_isPerson_16 ic_0 ?_
  exact w_X11_isPerson_b17 S hr hlk hR hdj _ _ _ _ _ hF hw hzz r_0 (lv_sub hl [] rfl)
set_option maxRecDepth 100000 in
set_option maxHeartbeats 4000000 in
theorem c_X11_isPerson {l : Launch} {D : va_G} {cA : Nat → ClassId} {ad : Nat → Nat} (hdj : Zdj ad) {z z1 : ZI} {x1 : Int} {r : Int} (hzz : Zok z) (hx1 : InR x1) (hF : F_X11_isPerson z x1 = some (r, z1)) : YMi l D cA ad (0) yX11_isPerson cX11_isPerson 2 (some .boolean) [.ref (ad 68), .int (i32 x1)] z r z1 :=
  Zmet hdj (by decide) rfl (Nat.le_of_ble_eq_true rfl) (lv := [(0, .ref (ad 68)), (1, .int (i32 (x1)))]) rfl (fun p e s m args below meth c ls S hr hlk hw hl => by
    have hR : 0 ≤ (Zrm (0)).frames ∧ 60 * (0) ≤ (Zrm (0)).locals := ⟨Nat.le_refl _, Nat.le_refl _⟩
    unfold F_X11_isPerson at hF
    revert hR
    generalize Zrm (0) = R
    intro hR
    refine lv_iload_n S.1 S.2.1 dX11_isPerson_0 rfl (lv_at hl 1 rfl) ?_
    refine Yif_lt (tgt := 16) S hx1 dX11_isPerson_1 (by decide) (fun c1_ => ?_) (fun c1_ => ?_)
    · replace hF := ZtP c1_ hF
      exact w_X11_isPerson_b16 S hr hlk hR hdj _ _ _ _ hF hw hzz  (lv_sub hl [] rfl)
    · replace hF := ZtN c1_ hF
      refine lv_iload_n S.1 S.2.1 dX11_isPerson_4 rfl (lv_at hl 1 rfl) ?_
      refine lv_aload_n S.1 S.2.1 dX11_isPerson_5 rfl (lv_at hl 0 rfl) ?_
      refine gg_X11_197 S hw dX11_isPerson_6 ?_
      refine Yicmp_ge (tgt := 16) S hx1 (hzz.1 68 13 (by decide)) dX11_isPerson_9 (by decide) (fun c2_ => ?_) (fun c2_ => ?_)
      · replace hF := ZtP c2_ hF
        exact w_X11_isPerson_b16 S hr hlk hR hdj _ _ _ _ hF hw hzz  (lv_sub hl [] rfl)
      · replace hF := ZtN c2_ hF
        refine lv_iconst (v := i32 1) S.1 S.2.1 dX11_isPerson_12 ic_1 ?_
        refine lv_goto (tgt := 17) S.1 S.2.1 dX11_isPerson_13 (by decide) ?_
        exact w_X11_isPerson_b17 S hr hlk hR hdj _ _ _ _ _ hF hw hzz r_1 (lv_sub hl [] rfl))
set_option maxRecDepth 100000 in
set_option maxHeartbeats 4000000 in
theorem w_X11_lane_b47 {RR : Int × ZI} (S : CallFix p m c cX11_lane 3 s args Ztbl RX11) (hr : meth.sig.returnType = some .int) (hlk : meth.locks = false) (hR : 1 ≤ R.frames ∧ 60 * (1) ≤ R.locals) (hdj : Zdj ad) : ∀ (z : ZI) (x1 : Int) (H : Heap) (locs : List Loc) (ls : Array Slot), X11_lane_b47 z x1 = some RR → ZW D cA ad (ZA ad) (Zc z) s H locs → Zok z → InR x1 → lv_has ls 3 [(0, .ref (ad 68)), (1, .int (i32 (x1)))] → W p l e R s m args below meth c H locs 0 0 (MQ below (YQi D cA ad RR.1 RR.2) args s 0 0 (ZA ad)) (F0 m 47 ls []) := by
  intro z x1 H locs ls hF hw hzz hx1 hl
  unfold X11_lane_b47 at hF
  refine lv_aload_n S.1 S.2.1 dX11_lane_47 rfl (lv_at hl 0 rfl) ?_
  refine gg_X11_427 S hw dX11_lane_48 ?_
  refine lv_bipush (v := i32 8) S.1 S.2.1 dX11_lane_51 bp_8 ?_
  refine Yicmp_ne (tgt := 63) S (hzz.1 68 70 (by decide)) r_8 dX11_lane_53 (by decide) (fun c1_ => ?_) (fun c1_ => ?_)
  · replace hF := ZtN c1_ hF
    refine lv_aload_n S.1 S.2.1 dX11_lane_63 rfl (lv_at hl 0 rfl) ?_
    refine gf_X11_153 S hw dX11_lane_64 ?_
    refine lv_aload_n S.1 S.2.1 dX11_lane_67 rfl (lv_at hl 0 rfl) ?_
    refine gg_X11_427 S hw dX11_lane_68 ?_
    refine lv_iload_n S.1 S.2.1 dX11_lane_71 rfl (lv_at hl 1 rfl) ?_
    obtain ⟨b2_, hF⟩ := Zgs hF
    refine Yiast S hw hzz zd_116 (by decide) (hzz.1 68 70 (by decide)) hx1 b2_ dX11_lane_72 (fun z3_ H locs ez hzz3_ hw => ?_)
    replace hF := Zle ez hF; clear ez
    refine lv_aload_n S.1 S.2.1 dX11_lane_73 rfl (lv_at hl 0 rfl) ?_
    refine lv_dup S.1 S.2.1 dX11_lane_74 rfl ?_
    refine gg_X11_427 S hw dX11_lane_75 ?_
    refine lv_iconst (v := i32 1) S.1 S.2.1 dX11_lane_78 ic_1 ?_
    obtain ⟨g4_, hF⟩ := Zgs hF
    refine Yiadd S dX11_lane_79 ?_
    refine pp_X11_427 S hw hzz3_ g4_ dX11_lane_80 (fun z5_ H locs ez hzz5_ hw => ?_)
    replace hF := Zle ez hF; clear ez
    refine lv_aload_n S.1 S.2.1 dX11_lane_83 rfl (lv_at hl 0 rfl) ?_
    refine gg_X11_427 S hw dX11_lane_84 ?_
    refine lv_iconst (v := i32 1) S.1 S.2.1 dX11_lane_87 ic_1 ?_
    obtain ⟨g6_, hF⟩ := Zgs hF
    refine Yisub S dX11_lane_88 ?_
    exact Yireti S hw hzz5_ g6_ hr hlk hF dX11_lane_89
  · replace hF := ZtP c1_ hF
    refine lv_aload_n S.1 S.2.1 dX11_lane_56 rfl (lv_at hl 0 rfl) ?_
    refine lv_bipush (v := i32 (-6)) S.1 S.2.1 dX11_lane_57 bp_m6 ?_
    obtain ⟨r9_, z7_, h8_, hF⟩ := Ybs hF
    refine YcallVi (rest := []) S hw (c_X11_no hdj hzz r_m6 h8_) my_X11_no mi_X11_no ml_X11_207 zd_68 zc_X11 rfl (Zrr hR (by decide)) ⟨Nat.zero_le _, Nat.zero_le _⟩ hl.1 rfl rfl (Nat.le_of_ble_eq_true rfl) dX11_lane_59 (fun hrr9_ hzz7_ H locs hw => ?_)
    exact Yireti S hw hzz7_ hrr9_ hr hlk hF dX11_lane_62
set_option maxRecDepth 100000 in
set_option maxHeartbeats 4000000 in
theorem w_X11_lane_b34 {RR : Int × ZI} (S : CallFix p m c cX11_lane 3 s args Ztbl RX11) (hr : meth.sig.returnType = some .int) (hlk : meth.locks = false) (hR : 1 ≤ R.frames ∧ 60 * (1) ≤ R.locals) (hdj : Zdj ad) : ∀ (z : ZI) (H : Heap) (locs : List Loc) (ls : Array Slot), X11_lane_b34 z  = some RR → ZW D cA ad (ZA ad) (Zc z) s H locs → Zok z → lv_has ls 3 [(0, .ref (ad 68))] → W p l e R s m args below meth c H locs 0 0 (MQ below (YQi D cA ad RR.1 RR.2) args s 0 0 (ZA ad)) (F0 m 34 ls []) := by
  intro z  H locs ls hF hw hzz  hl
  unfold X11_lane_b34 at hF
  refine lv_aload_n S.1 S.2.1 dX11_lane_34 rfl (lv_at hl 0 rfl) ?_
  refine lv_bipush (v := i32 (-3)) S.1 S.2.1 dX11_lane_35 bp_m3 ?_
  obtain ⟨r3_, z1_, h2_, hF⟩ := Ybs hF
  refine YcallVi (rest := []) S hw (c_X11_no hdj hzz r_m3 h2_) my_X11_no mi_X11_no ml_X11_207 zd_68 zc_X11 rfl (Zrr hR (by decide)) ⟨Nat.zero_le _, Nat.zero_le _⟩ hl.1 rfl rfl (Nat.le_of_ble_eq_true rfl) dX11_lane_37 (fun hrr3_ hzz1_ H locs hw => ?_)
  exact Yireti S hw hzz1_ hrr3_ hr hlk hF dX11_lane_40
set_option maxRecDepth 100000 in
set_option maxHeartbeats 4000000 in
theorem w_X11_lane_L16 {RR : Int × ZI} (S : CallFix p m c cX11_lane 3 s args Ztbl RX11) (hr : meth.sig.returnType = some .int) (hlk : meth.locks = false) (hR : 1 ≤ R.frames ∧ 60 * (1) ≤ R.locals) (hdj : Zdj ad) : ∀ (n : Nat) (z : ZI) (x1 : Int) (x2 : Int) (H : Heap) (locs : List Loc) (ls : Array Slot), X11_lane_L16 n z x1 x2 = some RR → ZW D cA ad (ZA ad) (Zc z) s H locs → Zok z → InR x1 → InR x2 → lv_has ls 3 [(0, .ref (ad 68)), (1, .int (i32 (x1))), (2, .int (i32 (x2)))] → W p l e R s m args below meth c H locs 0 0 (MQ below (YQi D cA ad RR.1 RR.2) args s 0 0 (ZA ad)) (F0 m 16 ls []) := by
  intro n
  induction n with
  | zero => intro z x1 x2 H locs ls hF; exact nomatch hF
  | succ n hk16 =>
    intro z x1 x2 H locs ls hF hw hzz hx1 hx2 hl
    replace hF : X11_lane_L16b (X11_lane_L16 n) z x1 x2 = some RR := hF
    unfold X11_lane_L16b at hF
    refine lv_iload_n S.1 S.2.1 dX11_lane_16 rfl (lv_at hl 2 rfl) ?_
    refine lv_aload_n S.1 S.2.1 dX11_lane_17 rfl (lv_at hl 0 rfl) ?_
    refine gg_X11_427 S hw dX11_lane_18 ?_
    refine Yicmp_ge (tgt := 47) S hx2 (hzz.1 68 70 (by decide)) dX11_lane_21 (by decide) (fun c1_ => ?_) (fun c1_ => ?_)
    · replace hF := ZtP c1_ hF
      exact w_X11_lane_b47 S hr hlk hR hdj _ _ _ _ _ hF hw hzz hx1 (lv_sub hl [0, 1] rfl)
    · replace hF := ZtN c1_ hF
      refine lv_aload_n S.1 S.2.1 dX11_lane_24 rfl (lv_at hl 0 rfl) ?_
      refine gf_X11_153 S hw dX11_lane_25 ?_
      refine lv_iload_n S.1 S.2.1 dX11_lane_28 rfl (lv_at hl 2 rfl) ?_
      obtain ⟨b2_, hF⟩ := Zgs hF
      refine Yiald S hw zd_116 (by decide) hx2 b2_ dX11_lane_29 ?_
      refine lv_iload_n S.1 S.2.1 dX11_lane_30 rfl (lv_at hl 1 rfl) ?_
      refine Yicmp_ne (tgt := 41) S (hzz.1 _ _ (by decide)) hx1 dX11_lane_31 (by decide) (fun c3_ => ?_) (fun c3_ => ?_)
      · replace hF := ZtN c3_ hF
        obtain ⟨g4_, hF⟩ := Zgs hF
        refine lv_iinc (v := i32 (x2 + 1)) (lv' := [(2, .int (i32 (x2 + 1))), (0, .ref (ad 68)), (1, .int (i32 (x1)))]) S.1 S.2.1 dX11_lane_41 hl (k := 2) rfl Yiinc (by decide) rfl (fun ls hl => ?_)
        refine lv_goto (tgt := 16) S.1 S.2.1 dX11_lane_44 (by decide) ?_
        exact hk16 _ _ _ _ _ _ hF hw hzz hx1 g4_ (lv_sub hl [1, 2, 0] rfl)
      · replace hF := ZtP c3_ hF
        exact w_X11_lane_b34 S hr hlk hR hdj _ _ _ _ hF hw hzz  (lv_sub hl [0] rfl)
set_option maxRecDepth 100000 in
set_option maxHeartbeats 4000000 in
theorem c_X11_lane {l : Launch} {D : va_G} {cA : Nat → ClassId} {ad : Nat → Nat} (hdj : Zdj ad) {z z1 : ZI} {x1 : Int} {r : Int} (hzz : Zok z) (hx1 : InR x1) (hF : F_X11_lane z x1 = some (r, z1)) : YMi l D cA ad (1) yX11_lane cX11_lane 3 (some .int) [.ref (ad 68), .int (i32 x1)] z r z1 :=
  Zmet hdj (by decide) rfl (Nat.le_of_ble_eq_true rfl) (lv := [(0, .ref (ad 68)), (1, .int (i32 (x1)))]) rfl (fun p e s m args below meth c ls S hr hlk hw hl => by
    have hR : 1 ≤ (Zrm (1)).frames ∧ 60 * (1) ≤ (Zrm (1)).locals := ⟨Nat.le_refl _, Nat.le_refl _⟩
    unfold F_X11_lane at hF
    revert hR
    generalize Zrm (1) = R
    intro hR
    refine lv_aload_n S.1 S.2.1 dX11_lane_0 rfl (lv_at hl 0 rfl) ?_
    refine lv_iload_n S.1 S.2.1 dX11_lane_1 rfl (lv_at hl 1 rfl) ?_
    obtain ⟨r3_, z1_, h2_, hF⟩ := Ybs hF
    refine YcallVi (rest := []) S hw (c_X11_isHouse hdj hzz hx1 h2_) my_X11_isHouse mi_X11_isHouse ml_X11_233 zd_68 zc_X11 rfl (Zrr hR (by decide)) ⟨Nat.zero_le _, Nat.zero_le _⟩ hl.1 rfl rfl (Nat.le_of_ble_eq_true rfl) dX11_lane_2 (fun hrr3_ hzz1_ H locs hw => ?_)
    refine Yif_ne (tgt := 14) S hrr3_ dX11_lane_5 (by decide) (fun c4_ => ?_) (fun c4_ => ?_)
    · replace hF := ZtN c4_ hF
      refine lv_iconst (v := i32 0) S.1 S.2.1 dX11_lane_14 ic_0 ?_
      refine lv_istore_n (lv' := [(2, .int (i32 (0))), (0, .ref (ad 68)), (1, .int (i32 (x1)))]) S.1 S.2.1 dX11_lane_15 rfl hl (by decide) rfl (fun ls hl => ?_)
      exact w_X11_lane_L16 S hr hlk hR hdj Zfuel _ _ _ _ _ _ hF hw hzz1_ hx1 r_0 (lv_sub hl [1, 2, 0] rfl)
    · replace hF := ZtP c4_ hF
      refine lv_aload_n S.1 S.2.1 dX11_lane_8 rfl (lv_at hl 0 rfl) ?_
      refine lv_iconst (v := i32 (-1)) S.1 S.2.1 dX11_lane_9 ic_m1 ?_
      obtain ⟨r7_, z5_, h6_, hF⟩ := Ybs hF
      refine YcallVi (rest := []) S hw (c_X11_no hdj hzz1_ r_m1 h6_) my_X11_no mi_X11_no ml_X11_207 zd_68 zc_X11 rfl (Zrr hR (by decide)) ⟨Nat.zero_le _, Nat.zero_le _⟩ hl.1 rfl rfl (Nat.le_of_ble_eq_true rfl) dX11_lane_10 (fun hrr7_ hzz5_ H locs hw => ?_)
      exact Yireti S hw hzz5_ hrr7_ hr hlk hF dX11_lane_13)
set_option maxRecDepth 100000 in
set_option maxHeartbeats 4000000 in
theorem w_X11_lanes_b89 {RR : Int × ZI} (S : CallFix p m c cX11_lanes 6 s args Ztbl RX11) (hr : meth.sig.returnType = some .int) (hlk : meth.locks = false) (hR : 2 ≤ R.frames ∧ 60 * (2) ≤ R.locals) (hdj : Zdj ad) {k46 : ZI → Int → Int → Int → Option (Int × ZI)} (hk46 : ∀ (z : ZI) (x2 : Int) (x4 : Int) (x5 : Int) (H : Heap) (locs : List Loc) (ls : Array Slot), k46 z x2 x4 x5 = some RR → ZW D cA ad (ZA ad) (Zc z) s H locs → Zok z → InR x2 → InR x4 → InR x5 → lv_has ls 6 [(0, .ref (ad 68)), (2, .int (i32 (x2))), (4, .int (i32 (x4))), (5, .int (i32 (x5)))] → W p l e R s m args below meth c H locs 0 0 (MQ below (YQi D cA ad RR.1 RR.2) args s 0 0 (ZA ad)) (F0 m 46 ls [])) : ∀ (z : ZI) (x2 : Int) (x4 : Int) (x5 : Int) (H : Heap) (locs : List Loc) (ls : Array Slot), X11_lanes_b89 k46 z x2 x4 x5 = some RR → ZW D cA ad (ZA ad) (Zc z) s H locs → Zok z → InR x2 → InR x4 → InR x5 → lv_has ls 6 [(0, .ref (ad 68)), (2, .int (i32 (x2))), (4, .int (i32 (x4))), (5, .int (i32 (x5)))] → W p l e R s m args below meth c H locs 0 0 (MQ below (YQi D cA ad RR.1 RR.2) args s 0 0 (ZA ad)) (F0 m 89 ls []) := by
  intro z x2 x4 x5 H locs ls hF hw hzz hx2 hx4 hx5 hl
  unfold X11_lanes_b89 at hF
  obtain ⟨g1_, hF⟩ := Zgs hF
  refine lv_iinc (v := i32 (x5 + 1)) (lv' := [(5, .int (i32 (x5 + 1))), (0, .ref (ad 68)), (2, .int (i32 (x2))), (4, .int (i32 (x4)))]) S.1 S.2.1 dX11_lanes_89 hl (k := 3) rfl Yiinc (by decide) rfl (fun ls hl => ?_)
  refine lv_goto (tgt := 46) S.1 S.2.1 dX11_lanes_92 (by decide) ?_
  exact hk46 _ _ _ _ _ _ _ hF hw hzz hx2 hx4 g1_ (lv_sub hl [1, 2, 3, 0] rfl)
set_option maxRecDepth 100000 in
set_option maxHeartbeats 4000000 in
theorem w_X11_lanes_b75 {RR : Int × ZI} (S : CallFix p m c cX11_lanes 6 s args Ztbl RX11) (hr : meth.sig.returnType = some .int) (hlk : meth.locks = false) (hR : 2 ≤ R.frames ∧ 60 * (2) ≤ R.locals) (hdj : Zdj ad) {k46 : ZI → Int → Int → Int → Option (Int × ZI)} (hk46 : ∀ (z : ZI) (x2 : Int) (x4 : Int) (x5 : Int) (H : Heap) (locs : List Loc) (ls : Array Slot), k46 z x2 x4 x5 = some RR → ZW D cA ad (ZA ad) (Zc z) s H locs → Zok z → InR x2 → InR x4 → InR x5 → lv_has ls 6 [(0, .ref (ad 68)), (2, .int (i32 (x2))), (4, .int (i32 (x4))), (5, .int (i32 (x5)))] → W p l e R s m args below meth c H locs 0 0 (MQ below (YQi D cA ad RR.1 RR.2) args s 0 0 (ZA ad)) (F0 m 46 ls [])) : ∀ (z : ZI) (x2 : Int) (x4 : Int) (x5 : Int) (H : Heap) (locs : List Loc) (ls : Array Slot), X11_lanes_b75 k46 z x2 x4 x5 = some RR → ZW D cA ad (ZA ad) (Zc z) s H locs → Zok z → InR x2 → InR x4 → InR x5 → lv_has ls 6 [(0, .ref (ad 68)), (2, .int (i32 (x2))), (4, .int (i32 (x4))), (5, .int (i32 (x5)))] → W p l e R s m args below meth c H locs 0 0 (MQ below (YQi D cA ad RR.1 RR.2) args s 0 0 (ZA ad)) (F0 m 75 ls []) := by
  intro z x2 x4 x5 H locs ls hF hw hzz hx2 hx4 hx5 hl
  unfold X11_lanes_b75 at hF
  refine lv_aload_n S.1 S.2.1 dX11_lanes_75 rfl (lv_at hl 0 rfl) ?_
  refine lv_iload S.1 S.2.1 dX11_lanes_76 (lv_at hl 3 rfl) ?_
  refine lv_iload_n S.1 S.2.1 dX11_lanes_78 rfl (lv_at hl 1 rfl) ?_
  obtain ⟨r3_, z1_, h2_, hF⟩ := Ybs hF
  refine YcallVi (rest := []) S hw (c_X11_holdsFire hdj hzz hx5 hx2 h2_) my_X11_holdsFire mi_X11_holdsFire ml_X11_439 zd_68 zc_X11 rfl (Zrr hR (by decide)) ⟨Nat.zero_le _, Nat.zero_le _⟩ hl.1 rfl rfl (Nat.le_of_ble_eq_true rfl) dX11_lanes_79 (fun hrr3_ hzz1_ H locs hw => ?_)
  refine Yif_eq (tgt := 89) S hrr3_ dX11_lanes_82 (by decide) (fun c4_ => ?_) (fun c4_ => ?_)
  · replace hF := ZtP c4_ hF
    exact w_X11_lanes_b89 S hr hlk hR hdj hk46 _ _ _ _ _ _ _ hF hw hzz1_ hx2 hx4 hx5 (lv_sub hl [0, 1, 2, 3] rfl)
  · replace hF := ZtN c4_ hF
    refine lv_iload S.1 S.2.1 dX11_lanes_85 (lv_at hl 3 rfl) ?_
    refine lv_istore (lv' := [(4, .int (i32 (x5))), (0, .ref (ad 68)), (2, .int (i32 (x2))), (5, .int (i32 (x5)))]) S.1 S.2.1 dX11_lanes_87 hl (by decide) rfl (fun ls hl => ?_)
    exact w_X11_lanes_b89 S hr hlk hR hdj hk46 _ _ _ _ _ _ _ hF hw hzz1_ hx2 hx5 hx5 (lv_sub hl [1, 2, 0, 3] rfl)
set_option maxRecDepth 100000 in
set_option maxHeartbeats 4000000 in
theorem w_X11_lanes_L46 {RR : Int × ZI} (S : CallFix p m c cX11_lanes 6 s args Ztbl RX11) (hr : meth.sig.returnType = some .int) (hlk : meth.locks = false) (hR : 2 ≤ R.frames ∧ 60 * (2) ≤ R.locals) (hdj : Zdj ad) : ∀ (n : Nat) (z : ZI) (x2 : Int) (x4 : Int) (x5 : Int) (H : Heap) (locs : List Loc) (ls : Array Slot), X11_lanes_L46 n z x2 x4 x5 = some RR → ZW D cA ad (ZA ad) (Zc z) s H locs → Zok z → InR x2 → InR x4 → InR x5 → lv_has ls 6 [(0, .ref (ad 68)), (2, .int (i32 (x2))), (4, .int (i32 (x4))), (5, .int (i32 (x5)))] → W p l e R s m args below meth c H locs 0 0 (MQ below (YQi D cA ad RR.1 RR.2) args s 0 0 (ZA ad)) (F0 m 46 ls []) := by
  intro n
  induction n with
  | zero => intro z x2 x4 x5 H locs ls hF; exact nomatch hF
  | succ n hk46 =>
    intro z x2 x4 x5 H locs ls hF hw hzz hx2 hx4 hx5 hl
    replace hF : X11_lanes_L46b (X11_lanes_L46 n) z x2 x4 x5 = some RR := hF
    unfold X11_lanes_L46b at hF
    refine lv_iload S.1 S.2.1 dX11_lanes_46 (lv_at hl 3 rfl) ?_
    refine lv_iconst (v := i32 1) S.1 S.2.1 dX11_lanes_48 ic_1 ?_
    refine lv_aload_n S.1 S.2.1 dX11_lanes_49 rfl (lv_at hl 0 rfl) ?_
    refine gg_X11_427 S hw dX11_lanes_50 ?_
    refine Yishl S dX11_lanes_53 ?_
    refine Yicmp_ge (tgt := 95) S hx5 (InR_of _) dX11_lanes_54 (by decide) (fun c1_ => ?_) (fun c1_ => ?_)
    · replace hF := ZtP c1_ hF
      refine lv_iload S.1 S.2.1 dX11_lanes_95 (lv_at hl 2 rfl) ?_
      exact Yireti S hw hzz hx4 hr hlk hF dX11_lanes_97
    · replace hF := ZtN c1_ hF
      refine lv_iload S.1 S.2.1 dX11_lanes_57 (lv_at hl 2 rfl) ?_
      refine Yif_lt (tgt := 75) S hx4 dX11_lanes_59 (by decide) (fun c2_ => ?_) (fun c2_ => ?_)
      · replace hF := ZtP c2_ hF
        exact w_X11_lanes_b75 S hr hlk hR hdj hk46 _ _ _ _ _ _ _ hF hw hzz hx2 hx4 hx5 (lv_sub hl [0, 1, 2, 3] rfl)
      · replace hF := ZtN c2_ hF
        refine lv_iload S.1 S.2.1 dX11_lanes_62 (lv_at hl 3 rfl) ?_
        obtain ⟨r5_, z3_, h4_, hF⟩ := Ybs hF
        refine YcallSi (rest := []) S hw (c_X11_bits hdj hzz hx5 h4_) my_X11_bits ms_X11_bits ml_X11_424 (Zrr hR (by decide)) ⟨Nat.zero_le _, Nat.zero_le _⟩ hl.1 rfl rfl (Nat.le_of_ble_eq_true rfl) dX11_lanes_64 (fun hrr5_ hzz3_ H locs hw => ?_)
        refine lv_iload S.1 S.2.1 dX11_lanes_67 (lv_at hl 2 rfl) ?_
        obtain ⟨r8_, z6_, h7_, hF⟩ := Ybs hF
        refine YcallSi (rest := [.int (i32 (r5_))]) S hw (c_X11_bits hdj hzz3_ hx4 h7_) my_X11_bits ms_X11_bits ml_X11_424 (Zrr hR (by decide)) ⟨Nat.zero_le _, Nat.zero_le _⟩ hl.1 rfl rfl (Nat.le_of_ble_eq_true rfl) dX11_lanes_69 (fun hrr8_ hzz6_ H locs hw => ?_)
        refine Yicmp_ge (tgt := 89) S hrr5_ hrr8_ dX11_lanes_72 (by decide) (fun c9_ => ?_) (fun c9_ => ?_)
        · replace hF := ZtP c9_ hF
          exact w_X11_lanes_b89 S hr hlk hR hdj hk46 _ _ _ _ _ _ _ hF hw hzz6_ hx2 hx4 hx5 (lv_sub hl [0, 1, 2, 3] rfl)
        · replace hF := ZtN c9_ hF
          exact w_X11_lanes_b75 S hr hlk hR hdj hk46 _ _ _ _ _ _ _ hF hw hzz6_ hx2 hx4 hx5 (lv_sub hl [0, 1, 2, 3] rfl)
set_option maxRecDepth 100000 in
set_option maxHeartbeats 4000000 in
theorem c_X11_lanes {l : Launch} {D : va_G} {cA : Nat → ClassId} {ad : Nat → Nat} (hdj : Zdj ad) {z z1 : ZI} {x1 : Int} {x2 : Int} {r : Int} (hzz : Zok z) (hx1 : InR x1) (hx2 : InR x2) (hF : F_X11_lanes z x1 x2 = some (r, z1)) : YMi l D cA ad (2) yX11_lanes cX11_lanes 6 (some .int) [.ref (ad 68), .int (i32 x1), .int (i32 x2)] z r z1 :=
  Zmet hdj (by decide) rfl (Nat.le_of_ble_eq_true rfl) (lv := [(0, .ref (ad 68)), (1, .int (i32 (x1))), (2, .int (i32 (x2)))]) rfl (fun p e s m args below meth c ls S hr hlk hw hl => by
    have hR : 2 ≤ (Zrm (2)).frames ∧ 60 * (2) ≤ (Zrm (2)).locals := ⟨Nat.le_refl _, Nat.le_refl _⟩
    unfold F_X11_lanes at hF
    revert hR
    generalize Zrm (2) = R
    intro hR
    refine lv_iload_n S.1 S.2.1 dX11_lanes_0 rfl (lv_at hl 1 rfl) ?_
    refine Yi2l S hx1 dX11_lanes_1 ?_
    refine lv_lconst (v := i64 0) S.1 S.2.1 dX11_lanes_2 lc_0 ?_
    refine lv_ldc2 (own := RX11) (v := i64 3) S.1 S.2.1 S.2.2.2.1 (S.2.2.2.2 _ yl_X11_224) dX11_lanes_3 ?_
    obtain ⟨r3_, z1_, h2_, hF⟩ := Ybs hF
    refine YcallSi (rest := []) S hw (c_X11_isIn hdj hzz (InR_L hx1) (InR_L r_0) (InR_L r_3) h2_) my_X11_isIn ms_X11_isIn ml_X11_226 (Zrr hR (by decide)) ⟨Nat.zero_le _, Nat.zero_le _⟩ hl.1 rfl rfl (Nat.le_of_ble_eq_true rfl) dX11_lanes_6 (fun hrr3_ hzz1_ H locs hw => ?_)
    refine Yif_ne (tgt := 19) S hrr3_ dX11_lanes_9 (by decide) (fun c4_ => ?_) (fun c4_ => ?_)
    · replace hF := ZtN c4_ hF
      refine lv_iload_n S.1 S.2.1 dX11_lanes_19 rfl (lv_at hl 2 rfl) ?_
      refine Yi2l S hx2 dX11_lanes_20 ?_
      refine lv_lconst (v := i64 1) S.1 S.2.1 dX11_lanes_21 lc_1 ?_
      refine lv_ldc2 (own := RX11) (v := i64 30) S.1 S.2.1 S.2.2.2.1 (S.2.2.2.2 _ yl_X11_437) dX11_lanes_22 ?_
      obtain ⟨r7_, z5_, h6_, hF⟩ := Ybs hF
      refine YcallSi (rest := []) S hw (c_X11_out hdj hzz1_ (InR_L hx2) (InR_L r_1) (InR_L r_30) h6_) my_X11_out ms_X11_out ml_X11_203 (Zrr hR (by decide)) ⟨Nat.zero_le _, Nat.zero_le _⟩ hl.1 rfl rfl (Nat.le_of_ble_eq_true rfl) dX11_lanes_25 (fun hrr7_ hzz5_ H locs hw => ?_)
      refine lv_istore_n (lv' := [(3, .int (i32 (r7_))), (0, .ref (ad 68)), (1, .int (i32 (x1))), (2, .int (i32 (x2)))]) S.1 S.2.1 dX11_lanes_28 rfl hl (by decide) rfl (fun ls hl => ?_)
      refine lv_iload_n S.1 S.2.1 dX11_lanes_29 rfl (lv_at hl 0 rfl) ?_
      refine Yif_eq (tgt := 39) S hrr7_ dX11_lanes_30 (by decide) (fun c8_ => ?_) (fun c8_ => ?_)
      · replace hF := ZtP c8_ hF
        refine lv_bipush (v := i32 (-9)) S.1 S.2.1 dX11_lanes_39 bp_m9 ?_
        refine lv_istore (lv' := [(4, .int (i32 ((-9)))), (3, .int (i32 (r7_))), (0, .ref (ad 68)), (1, .int (i32 (x1))), (2, .int (i32 (x2)))]) S.1 S.2.1 dX11_lanes_41 hl (by decide) rfl (fun ls hl => ?_)
        refine lv_iconst (v := i32 0) S.1 S.2.1 dX11_lanes_43 ic_0 ?_
        refine lv_istore (lv' := [(5, .int (i32 (0))), (4, .int (i32 ((-9)))), (3, .int (i32 (r7_))), (0, .ref (ad 68)), (1, .int (i32 (x1))), (2, .int (i32 (x2)))]) S.1 S.2.1 dX11_lanes_44 hl (by decide) rfl (fun ls hl => ?_)
        exact w_X11_lanes_L46 S hr hlk hR hdj Zfuel _ _ _ _ _ _ _ hF hw hzz5_ hx2 r_m9 r_0 (lv_sub hl [3, 5, 1, 0] rfl)
      · replace hF := ZtN c8_ hF
        refine lv_aload_n S.1 S.2.1 dX11_lanes_33 rfl (lv_at hl 1 rfl) ?_
        refine lv_iload_n S.1 S.2.1 dX11_lanes_34 rfl (lv_at hl 0 rfl) ?_
        obtain ⟨r11_, z9_, h10_, hF⟩ := Ybs hF
        refine YcallVi (rest := []) S hw (c_X11_no hdj hzz5_ hrr7_ h10_) my_X11_no mi_X11_no ml_X11_207 zd_68 zc_X11 rfl (Zrr hR (by decide)) ⟨Nat.zero_le _, Nat.zero_le _⟩ hl.1 rfl rfl (Nat.le_of_ble_eq_true rfl) dX11_lanes_35 (fun hrr11_ hzz9_ H locs hw => ?_)
        exact Yireti S hw hzz9_ hrr11_ hr hlk hF dX11_lanes_38
    · replace hF := ZtP c4_ hF
      refine lv_aload_n S.1 S.2.1 dX11_lanes_12 rfl (lv_at hl 0 rfl) ?_
      refine lv_bipush (v := i32 (-2)) S.1 S.2.1 dX11_lanes_13 bp_m2 ?_
      obtain ⟨r14_, z12_, h13_, hF⟩ := Ybs hF
      refine YcallVi (rest := []) S hw (c_X11_no hdj hzz1_ r_m2 h13_) my_X11_no mi_X11_no ml_X11_207 zd_68 zc_X11 rfl (Zrr hR (by decide)) ⟨Nat.zero_le _, Nat.zero_le _⟩ hl.1 rfl rfl (Nat.le_of_ble_eq_true rfl) dX11_lanes_15 (fun hrr14_ hzz12_ H locs hw => ?_)
      exact Yireti S hw hzz12_ hrr14_ hr hlk hF dX11_lanes_18)
set_option maxRecDepth 100000 in
set_option maxHeartbeats 4000000 in
theorem w_X11_latrine_b39 {RR : Int × ZI} (S : CallFix p m c cX11_latrine 4 s args Ztbl RX11) (hr : meth.sig.returnType = some .int) (hlk : meth.locks = false) (hR : 1 ≤ R.frames ∧ 60 * (1) ≤ R.locals) (hdj : Zdj ad) : ∀ (z : ZI) (x1 : Int) (x2 : Int) (x3 : Int) (H : Heap) (locs : List Loc) (ls : Array Slot), X11_latrine_b39 z x1 x2 x3 = some RR → ZW D cA ad (ZA ad) (Zc z) s H locs → Zok z → InR x1 → InR x2 → InR x3 → lv_has ls 4 [(0, .ref (ad 68)), (1, .int (i32 (x1))), (2, .int (i32 (x2))), (3, .int (i32 (x3)))] → W p l e R s m args below meth c H locs 0 0 (MQ below (YQi D cA ad RR.1 RR.2) args s 0 0 (ZA ad)) (F0 m 39 ls []) := by
  intro z x1 x2 x3 H locs ls hF hw hzz hx1 hx2 hx3 hl
  unfold X11_latrine_b39 at hF
  refine lv_iload_n S.1 S.2.1 dX11_latrine_39 rfl (lv_at hl 3 rfl) ?_
  refine Yif_eq (tgt := 49) S hx3 dX11_latrine_40 (by decide) (fun c1_ => ?_) (fun c1_ => ?_)
  · replace hF := ZtP c1_ hF
    refine lv_aload_n S.1 S.2.1 dX11_latrine_49 rfl (lv_at hl 0 rfl) ?_
    refine gf_X11_129 S hw dX11_latrine_50 ?_
    refine lv_aload_n S.1 S.2.1 dX11_latrine_53 rfl (lv_at hl 0 rfl) ?_
    refine gg_X11_409 S hw dX11_latrine_54 ?_
    refine lv_iload_n S.1 S.2.1 dX11_latrine_57 rfl (lv_at hl 1 rfl) ?_
    obtain ⟨b2_, hF⟩ := Zgs hF
    refine Yiast S hw hzz zd_108 (by decide) (hzz.1 68 61 (by decide)) hx1 b2_ dX11_latrine_58 (fun z3_ H locs ez hzz3_ hw => ?_)
    replace hF := Zle ez hF; clear ez
    refine lv_aload_n S.1 S.2.1 dX11_latrine_59 rfl (lv_at hl 0 rfl) ?_
    refine gf_X11_132 S hw dX11_latrine_60 ?_
    refine lv_aload_n S.1 S.2.1 dX11_latrine_63 rfl (lv_at hl 0 rfl) ?_
    refine gg_X11_409 S hw dX11_latrine_64 ?_
    refine lv_iload_n S.1 S.2.1 dX11_latrine_67 rfl (lv_at hl 2 rfl) ?_
    obtain ⟨b4_, hF⟩ := Zgs hF
    refine Yiast S hw hzz3_ zd_109 (by decide) (hzz3_.1 68 61 (by decide)) hx2 b4_ dX11_latrine_68 (fun z5_ H locs ez hzz5_ hw => ?_)
    replace hF := Zle ez hF; clear ez
    refine lv_aload_n S.1 S.2.1 dX11_latrine_69 rfl (lv_at hl 0 rfl) ?_
    refine lv_dup S.1 S.2.1 dX11_latrine_70 rfl ?_
    refine gg_X11_409 S hw dX11_latrine_71 ?_
    refine lv_iconst (v := i32 1) S.1 S.2.1 dX11_latrine_74 ic_1 ?_
    obtain ⟨g6_, hF⟩ := Zgs hF
    refine Yiadd S dX11_latrine_75 ?_
    refine pp_X11_409 S hw hzz5_ g6_ dX11_latrine_76 (fun z7_ H locs ez hzz7_ hw => ?_)
    replace hF := Zle ez hF; clear ez
    refine lv_aload_n S.1 S.2.1 dX11_latrine_79 rfl (lv_at hl 0 rfl) ?_
    refine gg_X11_409 S hw dX11_latrine_80 ?_
    refine lv_iconst (v := i32 1) S.1 S.2.1 dX11_latrine_83 ic_1 ?_
    obtain ⟨g8_, hF⟩ := Zgs hF
    refine Yisub S dX11_latrine_84 ?_
    exact Yireti S hw hzz7_ g8_ hr hlk hF dX11_latrine_85
  · replace hF := ZtN c1_ hF
    refine lv_aload_n S.1 S.2.1 dX11_latrine_43 rfl (lv_at hl 0 rfl) ?_
    refine lv_iload_n S.1 S.2.1 dX11_latrine_44 rfl (lv_at hl 3 rfl) ?_
    obtain ⟨r11_, z9_, h10_, hF⟩ := Ybs hF
    refine YcallVi (rest := []) S hw (c_X11_no hdj hzz hx3 h10_) my_X11_no mi_X11_no ml_X11_207 zd_68 zc_X11 rfl (Zrr hR (by decide)) ⟨Nat.zero_le _, Nat.zero_le _⟩ hl.1 rfl rfl (Nat.le_of_ble_eq_true rfl) dX11_latrine_45 (fun hrr11_ hzz9_ H locs hw => ?_)
    exact Yireti S hw hzz9_ hrr11_ hr hlk hF dX11_latrine_48
set_option maxRecDepth 100000 in
set_option maxHeartbeats 4000000 in
theorem c_X11_latrine {l : Launch} {D : va_G} {cA : Nat → ClassId} {ad : Nat → Nat} (hdj : Zdj ad) {z z1 : ZI} {x1 : Int} {x2 : Int} {r : Int} (hzz : Zok z) (hx1 : InR x1) (hx2 : InR x2) (hF : F_X11_latrine z x1 x2 = some (r, z1)) : YMi l D cA ad (1) yX11_latrine cX11_latrine 4 (some .int) [.ref (ad 68), .int (i32 x1), .int (i32 x2)] z r z1 :=
  Zmet hdj (by decide) rfl (Nat.le_of_ble_eq_true rfl) (lv := [(0, .ref (ad 68)), (1, .int (i32 (x1))), (2, .int (i32 (x2)))]) rfl (fun p e s m args below meth c ls S hr hlk hw hl => by
    have hR : 1 ≤ (Zrm (1)).frames ∧ 60 * (1) ≤ (Zrm (1)).locals := ⟨Nat.le_refl _, Nat.le_refl _⟩
    unfold F_X11_latrine at hF
    revert hR
    generalize Zrm (1) = R
    intro hR
    refine lv_iload_n S.1 S.2.1 dX11_latrine_0 rfl (lv_at hl 1 rfl) ?_
    obtain ⟨r3_, z1_, h2_, hF⟩ := Ybs hF
    refine YcallSi (rest := []) S hw (c_X11_isCell hdj hzz hx1 h2_) my_X11_isCell ms_X11_isCell ml_X11_211 (Zrr hR (by decide)) ⟨Nat.zero_le _, Nat.zero_le _⟩ hl.1 rfl rfl (Nat.le_of_ble_eq_true rfl) dX11_latrine_1 (fun hrr3_ hzz1_ H locs hw => ?_)
    refine Yif_ne (tgt := 13) S hrr3_ dX11_latrine_4 (by decide) (fun c4_ => ?_) (fun c4_ => ?_)
    · replace hF := ZtN c4_ hF
      refine lv_iload_n S.1 S.2.1 dX11_latrine_13 rfl (lv_at hl 2 rfl) ?_
      refine Yi2l S hx2 dX11_latrine_14 ?_
      refine lv_lconst (v := i64 1) S.1 S.2.1 dX11_latrine_15 lc_1 ?_
      refine lv_ldc2 (own := RX11) (v := i64 99999) S.1 S.2.1 S.2.2.2.1 (S.2.2.2.2 _ yl_X11_407) dX11_latrine_16 ?_
      obtain ⟨r7_, z5_, h6_, hF⟩ := Ybs hF
      refine YcallSi (rest := []) S hw (c_X11_out hdj hzz1_ (InR_L hx2) (InR_L r_1) (InR_L r_99999) h6_) my_X11_out ms_X11_out ml_X11_203 (Zrr hR (by decide)) ⟨Nat.zero_le _, Nat.zero_le _⟩ hl.1 rfl rfl (Nat.le_of_ble_eq_true rfl) dX11_latrine_19 (fun hrr7_ hzz5_ H locs hw => ?_)
      refine lv_istore_n (lv' := [(3, .int (i32 (r7_))), (0, .ref (ad 68)), (1, .int (i32 (x1))), (2, .int (i32 (x2)))]) S.1 S.2.1 dX11_latrine_22 rfl hl (by decide) rfl (fun ls hl => ?_)
      refine lv_iload_n S.1 S.2.1 dX11_latrine_23 rfl (lv_at hl 0 rfl) ?_
      refine Yif_ne (tgt := 39) S hrr7_ dX11_latrine_24 (by decide) (fun c8_ => ?_) (fun c8_ => ?_)
      · replace hF := ZtN c8_ hF
        exact w_X11_latrine_b39 S hr hlk hR hdj _ _ _ _ _ _ _ hF hw hzz5_ hx1 hx2 hrr7_ (lv_sub hl [1, 2, 3, 0] rfl)
      · replace hF := ZtP c8_ hF
        refine lv_aload_n S.1 S.2.1 dX11_latrine_27 rfl (lv_at hl 1 rfl) ?_
        refine gg_X11_409 S hw dX11_latrine_28 ?_
        refine lv_bipush (v := i32 14) S.1 S.2.1 dX11_latrine_31 bp_14 ?_
        refine Yicmp_ne (tgt := 39) S (hzz5_.1 68 61 (by decide)) r_14 dX11_latrine_33 (by decide) (fun c9_ => ?_) (fun c9_ => ?_)
        · replace hF := ZtN c9_ hF
          exact w_X11_latrine_b39 S hr hlk hR hdj _ _ _ _ _ _ _ hF hw hzz5_ hx1 hx2 hrr7_ (lv_sub hl [1, 2, 3, 0] rfl)
        · replace hF := ZtP c9_ hF
          refine lv_bipush (v := i32 (-6)) S.1 S.2.1 dX11_latrine_36 bp_m6 ?_
          refine lv_istore_n (lv' := [(3, .int (i32 ((-6)))), (0, .ref (ad 68)), (1, .int (i32 (x1))), (2, .int (i32 (x2)))]) S.1 S.2.1 dX11_latrine_38 rfl hl (by decide) rfl (fun ls hl => ?_)
          exact w_X11_latrine_b39 S hr hlk hR hdj _ _ _ _ _ _ _ hF hw hzz5_ hx1 hx2 r_m6 (lv_sub hl [1, 2, 3, 0] rfl)
    · replace hF := ZtP c4_ hF
      refine lv_aload_n S.1 S.2.1 dX11_latrine_7 rfl (lv_at hl 0 rfl) ?_
      refine lv_iconst (v := i32 (-1)) S.1 S.2.1 dX11_latrine_8 ic_m1 ?_
      obtain ⟨r12_, z10_, h11_, hF⟩ := Ybs hF
      refine YcallVi (rest := []) S hw (c_X11_no hdj hzz1_ r_m1 h11_) my_X11_no mi_X11_no ml_X11_207 zd_68 zc_X11 rfl (Zrr hR (by decide)) ⟨Nat.zero_le _, Nat.zero_le _⟩ hl.1 rfl rfl (Nat.le_of_ble_eq_true rfl) dX11_latrine_9 (fun hrr12_ hzz10_ H locs hw => ?_)
      exact Yireti S hw hzz10_ hrr12_ hr hlk hF dX11_latrine_12)
set_option maxRecDepth 100000 in
set_option maxHeartbeats 4000000 in
theorem c_X11_lets {l : Launch} {D : va_G} {cA : Nat → ClassId} {ad : Nat → Nat} (hdj : Zdj ad) {z z1 : ZI} {x1 : Int} {x2 : Int} {r : Int} (hzz : Zok z) (hx1 : InR x1) (hx2 : InR x2) (hF : F_X11_lets z x1 x2 = some (r, z1)) : YMi l D cA ad (1) yX11_lets cX11_lets 3 (some .boolean) [.ref (ad 68), .int (i32 x1), .int (i32 x2)] z r z1 :=
  Zmet hdj (by decide) rfl (Nat.le_of_ble_eq_true rfl) (lv := [(0, .ref (ad 68)), (1, .int (i32 (x1))), (2, .int (i32 (x2)))]) rfl (fun p e s m args below meth c ls S hr hlk hw hl => by
    have hR : 1 ≤ (Zrm (1)).frames ∧ 60 * (1) ≤ (Zrm (1)).locals := ⟨Nat.le_refl _, Nat.le_refl _⟩
    unfold F_X11_lets at hF
    revert hR
    generalize Zrm (1) = R
    intro hR
    refine lv_aload_n S.1 S.2.1 dX11_lets_0 rfl (lv_at hl 0 rfl) ?_
    refine gf_X11_80 S hw dX11_lets_1 ?_
    refine lv_iload_n S.1 S.2.1 dX11_lets_4 rfl (lv_at hl 1 rfl) ?_
    obtain ⟨b1_, hF⟩ := Zgs hF
    refine Yiald S hw zd_92 (by decide) hx1 b1_ dX11_lets_5 ?_
    refine lv_sipush (v := i32 1000) S.1 S.2.1 dX11_lets_6 sp_1000 ?_
    refine lv_iload_n S.1 S.2.1 dX11_lets_9 rfl (lv_at hl 2 rfl) ?_
    obtain ⟨g2_, hF⟩ := Zgs hF
    refine Yisub S dX11_lets_10 ?_
    obtain ⟨g3_, hF⟩ := Zgs hF
    refine Yimul S dX11_lets_11 ?_
    refine lv_sipush (v := i32 1000) S.1 S.2.1 dX11_lets_12 sp_1000 ?_
    refine Yidiv S g3_ r_1000 (by decide) dX11_lets_15 ?_
    refine lv_aload_n S.1 S.2.1 dX11_lets_16 rfl (lv_at hl 0 rfl) ?_
    refine gf_X11_83 S hw dX11_lets_17 ?_
    refine lv_iload_n S.1 S.2.1 dX11_lets_20 rfl (lv_at hl 1 rfl) ?_
    obtain ⟨b4_, hF⟩ := Zgs hF
    refine Yiald S hw zd_93 (by decide) hx1 b4_ dX11_lets_21 ?_
    obtain ⟨g5_, hF⟩ := Zgs hF
    refine Yisub S dX11_lets_22 ?_
    refine Yi2l S g5_ dX11_lets_23 ?_
    refine lv_ldc2 (own := RX11) (v := i64 (-1)) S.1 S.2.1 S.2.2.2.1 (S.2.2.2.2 _ yl_X11_347) dX11_lets_24 ?_
    refine lv_lconst (v := i64 1) S.1 S.2.1 dX11_lets_27 lc_1 ?_
    obtain ⟨r8_, z6_, h7_, hF⟩ := Ybs hF
    refine YcallSi (rest := []) S hw (c_X11_isIn hdj hzz (InR_L g5_) (InR_L r_m1) (InR_L r_1) h7_) my_X11_isIn ms_X11_isIn ml_X11_226 (Zrr hR (by decide)) ⟨Nat.zero_le _, Nat.zero_le _⟩ hl.1 rfl rfl (Nat.le_of_ble_eq_true rfl) dX11_lets_28 (fun hrr8_ hzz6_ H locs hw => ?_)
    obtain ⟨b9_, hF⟩ := Zgs hF
    exact Yiretz S hw hzz6_ hrr8_ hr hlk b9_ hF dX11_lets_31)
set_option maxRecDepth 100000 in
set_option maxHeartbeats 4000000 in
theorem w_X11_leaned_b98 {RR : Int × ZI} (S : CallFix p m c cX11_leaned 5 s args Ztbl RX11) (hr : meth.sig.returnType = some .int) (hlk : meth.locks = false) (hR : 2 ≤ R.frames ∧ 60 * (2) ≤ R.locals) (hdj : Zdj ad) {k40 : ZI → Int → Int → Option (Int × ZI)} (hk40 : ∀ (z : ZI) (x1 : Int) (x2 : Int) (H : Heap) (locs : List Loc) (ls : Array Slot), k40 z x1 x2 = some RR → ZW D cA ad (ZA ad) (Zc z) s H locs → Zok z → InR x1 → InR x2 → lv_has ls 5 [(0, .ref (ad 68)), (1, .int (i32 (x1))), (2, .int (i32 (x2)))] → W p l e R s m args below meth c H locs 0 0 (MQ below (YQi D cA ad RR.1 RR.2) args s 0 0 (ZA ad)) (F0 m 40 ls [])) : ∀ (z : ZI) (x1 : Int) (x2 : Int) (x3 : Int) (H : Heap) (locs : List Loc) (ls : Array Slot), X11_leaned_b98 k40 z x1 x2 x3 = some RR → ZW D cA ad (ZA ad) (Zc z) s H locs → Zok z → InR x1 → InR x2 → InR x3 → lv_has ls 5 [(0, .ref (ad 68)), (1, .int (i32 (x1))), (2, .int (i32 (x2))), (3, .int (i32 (x3)))] → W p l e R s m args below meth c H locs 0 0 (MQ below (YQi D cA ad RR.1 RR.2) args s 0 0 (ZA ad)) (F0 m 98 ls []) := by
  intro z x1 x2 x3 H locs ls hF hw hzz hx1 hx2 hx3 hl
  unfold X11_leaned_b98 at hF
  refine lv_iload_n S.1 S.2.1 dX11_leaned_98 rfl (lv_at hl 3 rfl) ?_
  refine Yif_eq (tgt := 104) S hx3 dX11_leaned_99 (by decide) (fun c1_ => ?_) (fun c1_ => ?_)
  · replace hF := ZtP c1_ hF
    obtain ⟨g2_, hF⟩ := Zgs hF
    refine lv_iinc (v := i32 (x2 + 1)) (lv' := [(2, .int (i32 (x2 + 1))), (0, .ref (ad 68)), (1, .int (i32 (x1))), (3, .int (i32 (x3)))]) S.1 S.2.1 dX11_leaned_104 hl (k := 2) rfl Yiinc (by decide) rfl (fun ls hl => ?_)
    refine lv_goto (tgt := 40) S.1 S.2.1 dX11_leaned_107 (by decide) ?_
    exact hk40 _ _ _ _ _ _ hF hw hzz hx1 g2_ (lv_sub hl [1, 2, 0] rfl)
  · replace hF := ZtN c1_ hF
    refine lv_iload_n S.1 S.2.1 dX11_leaned_102 rfl (lv_at hl 2 rfl) ?_
    exact Yireti S hw hzz hx2 hr hlk hF dX11_leaned_103
set_option maxRecDepth 100000 in
set_option maxHeartbeats 4000000 in
theorem w_X11_leaned_b91 {RR : Int × ZI} (S : CallFix p m c cX11_leaned 5 s args Ztbl RX11) (hr : meth.sig.returnType = some .int) (hlk : meth.locks = false) (hR : 2 ≤ R.frames ∧ 60 * (2) ≤ R.locals) (hdj : Zdj ad) {k40 : ZI → Int → Int → Option (Int × ZI)} (hk40 : ∀ (z : ZI) (x1 : Int) (x2 : Int) (H : Heap) (locs : List Loc) (ls : Array Slot), k40 z x1 x2 = some RR → ZW D cA ad (ZA ad) (Zc z) s H locs → Zok z → InR x1 → InR x2 → lv_has ls 5 [(0, .ref (ad 68)), (1, .int (i32 (x1))), (2, .int (i32 (x2)))] → W p l e R s m args below meth c H locs 0 0 (MQ below (YQi D cA ad RR.1 RR.2) args s 0 0 (ZA ad)) (F0 m 40 ls [])) {k52 : ZI → Int → Int → Int → Int → Option (Int × ZI)} (hk52 : ∀ (z : ZI) (x1 : Int) (x2 : Int) (x3 : Int) (x4 : Int) (H : Heap) (locs : List Loc) (ls : Array Slot), k52 z x1 x2 x3 x4 = some RR → ZW D cA ad (ZA ad) (Zc z) s H locs → Zok z → InR x1 → InR x2 → InR x3 → InR x4 → lv_has ls 5 [(0, .ref (ad 68)), (1, .int (i32 (x1))), (2, .int (i32 (x2))), (3, .int (i32 (x3))), (4, .int (i32 (x4)))] → W p l e R s m args below meth c H locs 0 0 (MQ below (YQi D cA ad RR.1 RR.2) args s 0 0 (ZA ad)) (F0 m 52 ls [])) : ∀ (z : ZI) (x1 : Int) (x2 : Int) (x4 : Int) (y0 : Int) (H : Heap) (locs : List Loc) (ls : Array Slot), X11_leaned_b91 k40 k52 z x1 x2 x4 y0 = some RR → ZW D cA ad (ZA ad) (Zc z) s H locs → Zok z → InR x1 → InR x2 → InR x4 → InR y0 → lv_has ls 5 [(0, .ref (ad 68)), (1, .int (i32 (x1))), (2, .int (i32 (x2))), (4, .int (i32 (x4)))] → W p l e R s m args below meth c H locs 0 0 (MQ below (YQi D cA ad RR.1 RR.2) args s 0 0 (ZA ad)) (F0 m 91 ls [.int (i32 (y0))]) := by
  intro z x1 x2 x4 y0 H locs ls hF hw hzz hx1 hx2 hx4 hy0 hl
  unfold X11_leaned_b91 at hF
  refine lv_istore_n (lv' := [(3, .int (i32 (y0))), (0, .ref (ad 68)), (1, .int (i32 (x1))), (2, .int (i32 (x2))), (4, .int (i32 (x4)))]) S.1 S.2.1 dX11_leaned_91 rfl hl (by decide) rfl (fun ls hl => ?_)
  obtain ⟨g1_, hF⟩ := Zgs hF
  refine lv_iinc (v := i32 (x4 + 1)) (lv' := [(4, .int (i32 (x4 + 1))), (3, .int (i32 (y0))), (0, .ref (ad 68)), (1, .int (i32 (x1))), (2, .int (i32 (x2)))]) S.1 S.2.1 dX11_leaned_92 hl (k := 4) rfl Yiinc (by decide) rfl (fun ls hl => ?_)
  refine lv_goto (tgt := 52) S.1 S.2.1 dX11_leaned_95 (by decide) ?_
  exact hk52 _ _ _ _ _ _ _ _ hF hw hzz hx1 hx2 hy0 g1_ (lv_sub hl [2, 3, 4, 1, 0] rfl)
set_option maxRecDepth 100000 in
set_option maxHeartbeats 4000000 in
theorem w_X11_leaned_b90 {RR : Int × ZI} (S : CallFix p m c cX11_leaned 5 s args Ztbl RX11) (hr : meth.sig.returnType = some .int) (hlk : meth.locks = false) (hR : 2 ≤ R.frames ∧ 60 * (2) ≤ R.locals) (hdj : Zdj ad) {k40 : ZI → Int → Int → Option (Int × ZI)} (hk40 : ∀ (z : ZI) (x1 : Int) (x2 : Int) (H : Heap) (locs : List Loc) (ls : Array Slot), k40 z x1 x2 = some RR → ZW D cA ad (ZA ad) (Zc z) s H locs → Zok z → InR x1 → InR x2 → lv_has ls 5 [(0, .ref (ad 68)), (1, .int (i32 (x1))), (2, .int (i32 (x2)))] → W p l e R s m args below meth c H locs 0 0 (MQ below (YQi D cA ad RR.1 RR.2) args s 0 0 (ZA ad)) (F0 m 40 ls [])) {k52 : ZI → Int → Int → Int → Int → Option (Int × ZI)} (hk52 : ∀ (z : ZI) (x1 : Int) (x2 : Int) (x3 : Int) (x4 : Int) (H : Heap) (locs : List Loc) (ls : Array Slot), k52 z x1 x2 x3 x4 = some RR → ZW D cA ad (ZA ad) (Zc z) s H locs → Zok z → InR x1 → InR x2 → InR x3 → InR x4 → lv_has ls 5 [(0, .ref (ad 68)), (1, .int (i32 (x1))), (2, .int (i32 (x2))), (3, .int (i32 (x3))), (4, .int (i32 (x4)))] → W p l e R s m args below meth c H locs 0 0 (MQ below (YQi D cA ad RR.1 RR.2) args s 0 0 (ZA ad)) (F0 m 52 ls [])) : ∀ (z : ZI) (x1 : Int) (x2 : Int) (x4 : Int) (H : Heap) (locs : List Loc) (ls : Array Slot), X11_leaned_b90 k40 k52 z x1 x2 x4 = some RR → ZW D cA ad (ZA ad) (Zc z) s H locs → Zok z → InR x1 → InR x2 → InR x4 → lv_has ls 5 [(0, .ref (ad 68)), (1, .int (i32 (x1))), (2, .int (i32 (x2))), (4, .int (i32 (x4)))] → W p l e R s m args below meth c H locs 0 0 (MQ below (YQi D cA ad RR.1 RR.2) args s 0 0 (ZA ad)) (F0 m 90 ls []) := by
  intro z x1 x2 x4 H locs ls hF hw hzz hx1 hx2 hx4 hl
  unfold X11_leaned_b90 at hF
  refine lv_iconst (v := i32 0) S.1 S.2.1 dX11_leaned_90 ic_0 ?_
  exact w_X11_leaned_b91 S hr hlk hR hdj hk40 hk52 _ _ _ _ _ _ _ _ hF hw hzz hx1 hx2 hx4 r_0 (lv_sub hl [0, 1, 2, 3] rfl)
set_option maxRecDepth 100000 in
set_option maxHeartbeats 4000000 in
theorem w_X11_leaned_b86 {RR : Int × ZI} (S : CallFix p m c cX11_leaned 5 s args Ztbl RX11) (hr : meth.sig.returnType = some .int) (hlk : meth.locks = false) (hR : 2 ≤ R.frames ∧ 60 * (2) ≤ R.locals) (hdj : Zdj ad) {k40 : ZI → Int → Int → Option (Int × ZI)} (hk40 : ∀ (z : ZI) (x1 : Int) (x2 : Int) (H : Heap) (locs : List Loc) (ls : Array Slot), k40 z x1 x2 = some RR → ZW D cA ad (ZA ad) (Zc z) s H locs → Zok z → InR x1 → InR x2 → lv_has ls 5 [(0, .ref (ad 68)), (1, .int (i32 (x1))), (2, .int (i32 (x2)))] → W p l e R s m args below meth c H locs 0 0 (MQ below (YQi D cA ad RR.1 RR.2) args s 0 0 (ZA ad)) (F0 m 40 ls [])) {k52 : ZI → Int → Int → Int → Int → Option (Int × ZI)} (hk52 : ∀ (z : ZI) (x1 : Int) (x2 : Int) (x3 : Int) (x4 : Int) (H : Heap) (locs : List Loc) (ls : Array Slot), k52 z x1 x2 x3 x4 = some RR → ZW D cA ad (ZA ad) (Zc z) s H locs → Zok z → InR x1 → InR x2 → InR x3 → InR x4 → lv_has ls 5 [(0, .ref (ad 68)), (1, .int (i32 (x1))), (2, .int (i32 (x2))), (3, .int (i32 (x3))), (4, .int (i32 (x4)))] → W p l e R s m args below meth c H locs 0 0 (MQ below (YQi D cA ad RR.1 RR.2) args s 0 0 (ZA ad)) (F0 m 52 ls [])) : ∀ (z : ZI) (x1 : Int) (x2 : Int) (x4 : Int) (H : Heap) (locs : List Loc) (ls : Array Slot), X11_leaned_b86 k40 k52 z x1 x2 x4 = some RR → ZW D cA ad (ZA ad) (Zc z) s H locs → Zok z → InR x1 → InR x2 → InR x4 → lv_has ls 5 [(0, .ref (ad 68)), (1, .int (i32 (x1))), (2, .int (i32 (x2))), (4, .int (i32 (x4)))] → W p l e R s m args below meth c H locs 0 0 (MQ below (YQi D cA ad RR.1 RR.2) args s 0 0 (ZA ad)) (F0 m 86 ls []) := by
  intro z x1 x2 x4 H locs ls hF hw hzz hx1 hx2 hx4 hl
  unfold X11_leaned_b86 at hF
  refine lv_iconst (v := i32 1) S.1 S.2.1 dX11_leaned_86 ic_1 ?_
  refine lv_goto (tgt := 91) S.1 S.2.1 dX11_leaned_87 (by decide) ?_
  exact w_X11_leaned_b91 S hr hlk hR hdj hk40 hk52 _ _ _ _ _ _ _ _ hF hw hzz hx1 hx2 hx4 r_1 (lv_sub hl [0, 1, 2, 3] rfl)
set_option maxRecDepth 100000 in
set_option maxHeartbeats 4000000 in
theorem w_X11_leaned_L52 {RR : Int × ZI} (S : CallFix p m c cX11_leaned 5 s args Ztbl RX11) (hr : meth.sig.returnType = some .int) (hlk : meth.locks = false) (hR : 2 ≤ R.frames ∧ 60 * (2) ≤ R.locals) (hdj : Zdj ad) {k40 : ZI → Int → Int → Option (Int × ZI)} (hk40 : ∀ (z : ZI) (x1 : Int) (x2 : Int) (H : Heap) (locs : List Loc) (ls : Array Slot), k40 z x1 x2 = some RR → ZW D cA ad (ZA ad) (Zc z) s H locs → Zok z → InR x1 → InR x2 → lv_has ls 5 [(0, .ref (ad 68)), (1, .int (i32 (x1))), (2, .int (i32 (x2)))] → W p l e R s m args below meth c H locs 0 0 (MQ below (YQi D cA ad RR.1 RR.2) args s 0 0 (ZA ad)) (F0 m 40 ls [])) : ∀ (n : Nat) (z : ZI) (x1 : Int) (x2 : Int) (x3 : Int) (x4 : Int) (H : Heap) (locs : List Loc) (ls : Array Slot), X11_leaned_L52 k40 n z x1 x2 x3 x4 = some RR → ZW D cA ad (ZA ad) (Zc z) s H locs → Zok z → InR x1 → InR x2 → InR x3 → InR x4 → lv_has ls 5 [(0, .ref (ad 68)), (1, .int (i32 (x1))), (2, .int (i32 (x2))), (3, .int (i32 (x3))), (4, .int (i32 (x4)))] → W p l e R s m args below meth c H locs 0 0 (MQ below (YQi D cA ad RR.1 RR.2) args s 0 0 (ZA ad)) (F0 m 52 ls []) := by
  intro n
  induction n with
  | zero => intro z x1 x2 x3 x4 H locs ls hF; exact nomatch hF
  | succ n hk52 =>
    intro z x1 x2 x3 x4 H locs ls hF hw hzz hx1 hx2 hx3 hx4 hl
    replace hF : X11_leaned_L52b k40 (X11_leaned_L52 k40 n) z x1 x2 x3 x4 = some RR := hF
    unfold X11_leaned_L52b at hF
    refine lv_iload S.1 S.2.1 dX11_leaned_52 (lv_at hl 4 rfl) ?_
    refine lv_aload_n S.1 S.2.1 dX11_leaned_54 rfl (lv_at hl 0 rfl) ?_
    refine gg_X11_344 S hw dX11_leaned_55 ?_
    refine Yicmp_ge (tgt := 98) S hx4 (hzz.1 68 35 (by decide)) dX11_leaned_58 (by decide) (fun c1_ => ?_) (fun c1_ => ?_)
    · replace hF := ZtP c1_ hF
      exact w_X11_leaned_b98 S hr hlk hR hdj hk40 _ _ _ _ _ _ _ hF hw hzz hx1 hx2 hx3 (lv_sub hl [0, 1, 2, 3] rfl)
    · replace hF := ZtN c1_ hF
      refine lv_iload_n S.1 S.2.1 dX11_leaned_61 rfl (lv_at hl 3 rfl) ?_
      refine Yif_eq (tgt := 90) S hx3 dX11_leaned_62 (by decide) (fun c2_ => ?_) (fun c2_ => ?_)
      · replace hF := ZtP c2_ hF
        exact w_X11_leaned_b90 S hr hlk hR hdj hk40 hk52 _ _ _ _ _ _ _ hF hw hzz hx1 hx2 hx4 (lv_sub hl [0, 1, 2, 4] rfl)
      · replace hF := ZtN c2_ hF
        refine lv_aload_n S.1 S.2.1 dX11_leaned_65 rfl (lv_at hl 0 rfl) ?_
        refine gf_X11_77 S hw dX11_leaned_66 ?_
        refine lv_iload S.1 S.2.1 dX11_leaned_69 (lv_at hl 4 rfl) ?_
        obtain ⟨b3_, hF⟩ := Zgs hF
        refine Yiald S hw zd_91 (by decide) hx4 b3_ dX11_leaned_71 ?_
        refine lv_iload_n S.1 S.2.1 dX11_leaned_72 rfl (lv_at hl 1 rfl) ?_
        refine Yicmp_lt (tgt := 86) S (hzz.1 _ _ (by decide)) hx1 dX11_leaned_73 (by decide) (fun c4_ => ?_) (fun c4_ => ?_)
        · replace hF := ZtP c4_ hF
          exact w_X11_leaned_b86 S hr hlk hR hdj hk40 hk52 _ _ _ _ _ _ _ hF hw hzz hx1 hx2 hx4 (lv_sub hl [0, 1, 2, 4] rfl)
        · replace hF := ZtN c4_ hF
          refine lv_aload_n S.1 S.2.1 dX11_leaned_76 rfl (lv_at hl 0 rfl) ?_
          refine lv_iload S.1 S.2.1 dX11_leaned_77 (lv_at hl 4 rfl) ?_
          refine lv_iload_n S.1 S.2.1 dX11_leaned_79 rfl (lv_at hl 2 rfl) ?_
          obtain ⟨r7_, z5_, h6_, hF⟩ := Ybs hF
          refine YcallVi (rest := []) S hw (c_X11_lets hdj hzz hx4 hx2 h6_) my_X11_lets mi_X11_lets ml_X11_349 zd_68 zc_X11 rfl (Zrr hR (by decide)) ⟨Nat.zero_le _, Nat.zero_le _⟩ hl.1 rfl rfl (Nat.le_of_ble_eq_true rfl) dX11_leaned_80 (fun hrr7_ hzz5_ H locs hw => ?_)
          refine Yif_eq (tgt := 90) S hrr7_ dX11_leaned_83 (by decide) (fun c8_ => ?_) (fun c8_ => ?_)
          · replace hF := ZtP c8_ hF
            exact w_X11_leaned_b90 S hr hlk hR hdj hk40 hk52 _ _ _ _ _ _ _ hF hw hzz5_ hx1 hx2 hx4 (lv_sub hl [0, 1, 2, 4] rfl)
          · replace hF := ZtN c8_ hF
            exact w_X11_leaned_b86 S hr hlk hR hdj hk40 hk52 _ _ _ _ _ _ _ hF hw hzz5_ hx1 hx2 hx4 (lv_sub hl [0, 1, 2, 4] rfl)
set_option maxRecDepth 100000 in
set_option maxHeartbeats 4000000 in
theorem w_X11_leaned_L40 {RR : Int × ZI} (S : CallFix p m c cX11_leaned 5 s args Ztbl RX11) (hr : meth.sig.returnType = some .int) (hlk : meth.locks = false) (hR : 2 ≤ R.frames ∧ 60 * (2) ≤ R.locals) (hdj : Zdj ad) : ∀ (n : Nat) (z : ZI) (x1 : Int) (x2 : Int) (H : Heap) (locs : List Loc) (ls : Array Slot), X11_leaned_L40 n z x1 x2 = some RR → ZW D cA ad (ZA ad) (Zc z) s H locs → Zok z → InR x1 → InR x2 → lv_has ls 5 [(0, .ref (ad 68)), (1, .int (i32 (x1))), (2, .int (i32 (x2)))] → W p l e R s m args below meth c H locs 0 0 (MQ below (YQi D cA ad RR.1 RR.2) args s 0 0 (ZA ad)) (F0 m 40 ls []) := by
  intro n
  induction n with
  | zero => intro z x1 x2 H locs ls hF; exact nomatch hF
  | succ n hk40 =>
    intro z x1 x2 H locs ls hF hw hzz hx1 hx2 hl
    replace hF : X11_leaned_L40b (X11_leaned_L40 n) z x1 x2 = some RR := hF
    unfold X11_leaned_L40b at hF
    refine lv_iload_n S.1 S.2.1 dX11_leaned_40 rfl (lv_at hl 2 rfl) ?_
    refine lv_sipush (v := i32 300) S.1 S.2.1 dX11_leaned_41 sp_300 ?_
    refine Yicmp_gt (tgt := 110) S hx2 r_300 dX11_leaned_44 (by decide) (fun c1_ => ?_) (fun c1_ => ?_)
    · replace hF := ZtP c1_ hF
      refine lv_bipush (v := i32 (-9)) S.1 S.2.1 dX11_leaned_110 bp_m9 ?_
      exact Yireti S hw hzz r_m9 hr hlk hF dX11_leaned_112
    · replace hF := ZtN c1_ hF
      refine lv_iconst (v := i32 1) S.1 S.2.1 dX11_leaned_47 ic_1 ?_
      refine lv_istore_n (lv' := [(3, .int (i32 (1))), (0, .ref (ad 68)), (1, .int (i32 (x1))), (2, .int (i32 (x2)))]) S.1 S.2.1 dX11_leaned_48 rfl hl (by decide) rfl (fun ls hl => ?_)
      refine lv_iconst (v := i32 0) S.1 S.2.1 dX11_leaned_49 ic_0 ?_
      refine lv_istore (lv' := [(4, .int (i32 (0))), (3, .int (i32 (1))), (0, .ref (ad 68)), (1, .int (i32 (x1))), (2, .int (i32 (x2)))]) S.1 S.2.1 dX11_leaned_50 hl (by decide) rfl (fun ls hl => ?_)
      exact w_X11_leaned_L52 S hr hlk hR hdj hk40 Zfuel _ _ _ _ _ _ _ _ hF hw hzz hx1 hx2 r_1 r_0 (lv_sub hl [2, 3, 4, 1, 0] rfl)
set_option maxRecDepth 100000 in
set_option maxHeartbeats 4000000 in
theorem w_X11_leaned_b38 {RR : Int × ZI} (S : CallFix p m c cX11_leaned 5 s args Ztbl RX11) (hr : meth.sig.returnType = some .int) (hlk : meth.locks = false) (hR : 2 ≤ R.frames ∧ 60 * (2) ≤ R.locals) (hdj : Zdj ad) : ∀ (z : ZI) (x1 : Int) (H : Heap) (locs : List Loc) (ls : Array Slot), X11_leaned_b38 z x1 = some RR → ZW D cA ad (ZA ad) (Zc z) s H locs → Zok z → InR x1 → lv_has ls 5 [(0, .ref (ad 68)), (1, .int (i32 (x1)))] → W p l e R s m args below meth c H locs 0 0 (MQ below (YQi D cA ad RR.1 RR.2) args s 0 0 (ZA ad)) (F0 m 38 ls []) := by
  intro z x1 H locs ls hF hw hzz hx1 hl
  unfold X11_leaned_b38 at hF
  refine lv_iconst (v := i32 0) S.1 S.2.1 dX11_leaned_38 ic_0 ?_
  refine lv_istore_n (lv' := [(2, .int (i32 (0))), (0, .ref (ad 68)), (1, .int (i32 (x1)))]) S.1 S.2.1 dX11_leaned_39 rfl hl (by decide) rfl (fun ls hl => ?_)
  exact w_X11_leaned_L40 S hr hlk hR hdj Zfuel _ _ _ _ _ _ hF hw hzz hx1 r_0 (lv_sub hl [1, 2, 0] rfl)
set_option maxRecDepth 100000 in
set_option maxHeartbeats 4000000 in
theorem w_X11_leaned_b32 {RR : Int × ZI} (S : CallFix p m c cX11_leaned 5 s args Ztbl RX11) (hr : meth.sig.returnType = some .int) (hlk : meth.locks = false) (hR : 2 ≤ R.frames ∧ 60 * (2) ≤ R.locals) (hdj : Zdj ad) {k2 : ZI → Int → Int → Option (Int × ZI)} (hk2 : ∀ (z : ZI) (x1 : Int) (x2 : Int) (H : Heap) (locs : List Loc) (ls : Array Slot), k2 z x1 x2 = some RR → ZW D cA ad (ZA ad) (Zc z) s H locs → Zok z → InR x1 → InR x2 → lv_has ls 5 [(0, .ref (ad 68)), (1, .int (i32 (x1))), (2, .int (i32 (x2)))] → W p l e R s m args below meth c H locs 0 0 (MQ below (YQi D cA ad RR.1 RR.2) args s 0 0 (ZA ad)) (F0 m 2 ls [])) : ∀ (z : ZI) (x1 : Int) (x2 : Int) (H : Heap) (locs : List Loc) (ls : Array Slot), X11_leaned_b32 k2 z x1 x2 = some RR → ZW D cA ad (ZA ad) (Zc z) s H locs → Zok z → InR x1 → InR x2 → lv_has ls 5 [(0, .ref (ad 68)), (1, .int (i32 (x1))), (2, .int (i32 (x2)))] → W p l e R s m args below meth c H locs 0 0 (MQ below (YQi D cA ad RR.1 RR.2) args s 0 0 (ZA ad)) (F0 m 32 ls []) := by
  intro z x1 x2 H locs ls hF hw hzz hx1 hx2 hl
  unfold X11_leaned_b32 at hF
  obtain ⟨g1_, hF⟩ := Zgs hF
  refine lv_iinc (v := i32 (x2 + 1)) (lv' := [(2, .int (i32 (x2 + 1))), (0, .ref (ad 68)), (1, .int (i32 (x1)))]) S.1 S.2.1 dX11_leaned_32 hl (k := 2) rfl Yiinc (by decide) rfl (fun ls hl => ?_)
  refine lv_goto (tgt := 2) S.1 S.2.1 dX11_leaned_35 (by decide) ?_
  exact hk2 _ _ _ _ _ _ hF hw hzz hx1 g1_ (lv_sub hl [1, 2, 0] rfl)
set_option maxRecDepth 100000 in
set_option maxHeartbeats 4000000 in
theorem w_X11_leaned_L2 {RR : Int × ZI} (S : CallFix p m c cX11_leaned 5 s args Ztbl RX11) (hr : meth.sig.returnType = some .int) (hlk : meth.locks = false) (hR : 2 ≤ R.frames ∧ 60 * (2) ≤ R.locals) (hdj : Zdj ad) : ∀ (n : Nat) (z : ZI) (x1 : Int) (x2 : Int) (H : Heap) (locs : List Loc) (ls : Array Slot), X11_leaned_L2 n z x1 x2 = some RR → ZW D cA ad (ZA ad) (Zc z) s H locs → Zok z → InR x1 → InR x2 → lv_has ls 5 [(0, .ref (ad 68)), (1, .int (i32 (x1))), (2, .int (i32 (x2)))] → W p l e R s m args below meth c H locs 0 0 (MQ below (YQi D cA ad RR.1 RR.2) args s 0 0 (ZA ad)) (F0 m 2 ls []) := by
  intro n
  induction n with
  | zero => intro z x1 x2 H locs ls hF; exact nomatch hF
  | succ n hk2 =>
    intro z x1 x2 H locs ls hF hw hzz hx1 hx2 hl
    replace hF : X11_leaned_L2b (X11_leaned_L2 n) z x1 x2 = some RR := hF
    unfold X11_leaned_L2b at hF
    refine lv_iload_n S.1 S.2.1 dX11_leaned_2 rfl (lv_at hl 2 rfl) ?_
    refine lv_aload_n S.1 S.2.1 dX11_leaned_3 rfl (lv_at hl 0 rfl) ?_
    refine gg_X11_344 S hw dX11_leaned_4 ?_
    refine Yicmp_ge (tgt := 38) S hx2 (hzz.1 68 35 (by decide)) dX11_leaned_7 (by decide) (fun c1_ => ?_) (fun c1_ => ?_)
    · replace hF := ZtP c1_ hF
      exact w_X11_leaned_b38 S hr hlk hR hdj _ _ _ _ _ hF hw hzz hx1 (lv_sub hl [0, 1] rfl)
    · replace hF := ZtN c1_ hF
      refine lv_aload_n S.1 S.2.1 dX11_leaned_10 rfl (lv_at hl 0 rfl) ?_
      refine gf_X11_77 S hw dX11_leaned_11 ?_
      refine lv_iload_n S.1 S.2.1 dX11_leaned_14 rfl (lv_at hl 2 rfl) ?_
      obtain ⟨b2_, hF⟩ := Zgs hF
      refine Yiald S hw zd_91 (by decide) hx2 b2_ dX11_leaned_15 ?_
      refine lv_iload_n S.1 S.2.1 dX11_leaned_16 rfl (lv_at hl 1 rfl) ?_
      refine Yicmp_ge (tgt := 32) S (hzz.1 _ _ (by decide)) hx1 dX11_leaned_17 (by decide) (fun c3_ => ?_) (fun c3_ => ?_)
      · replace hF := ZtP c3_ hF
        exact w_X11_leaned_b32 S hr hlk hR hdj hk2 _ _ _ _ _ _ hF hw hzz hx1 hx2 (lv_sub hl [0, 1, 2] rfl)
      · replace hF := ZtN c3_ hF
        refine lv_aload_n S.1 S.2.1 dX11_leaned_20 rfl (lv_at hl 0 rfl) ?_
        refine lv_iload_n S.1 S.2.1 dX11_leaned_21 rfl (lv_at hl 2 rfl) ?_
        refine lv_iconst (v := i32 0) S.1 S.2.1 dX11_leaned_22 ic_0 ?_
        obtain ⟨r6_, z4_, h5_, hF⟩ := Ybs hF
        refine YcallVi (rest := []) S hw (c_X11_lets hdj hzz hx2 r_0 h5_) my_X11_lets mi_X11_lets ml_X11_349 zd_68 zc_X11 rfl (Zrr hR (by decide)) ⟨Nat.zero_le _, Nat.zero_le _⟩ hl.1 rfl rfl (Nat.le_of_ble_eq_true rfl) dX11_leaned_23 (fun hrr6_ hzz4_ H locs hw => ?_)
        refine Yif_ne (tgt := 32) S hrr6_ dX11_leaned_26 (by decide) (fun c7_ => ?_) (fun c7_ => ?_)
        · replace hF := ZtN c7_ hF
          exact w_X11_leaned_b32 S hr hlk hR hdj hk2 _ _ _ _ _ _ hF hw hzz4_ hx1 hx2 (lv_sub hl [0, 1, 2] rfl)
        · replace hF := ZtP c7_ hF
          refine lv_bipush (v := i32 (-9)) S.1 S.2.1 dX11_leaned_29 bp_m9 ?_
          exact Yireti S hw hzz4_ r_m9 hr hlk hF dX11_leaned_31
set_option maxRecDepth 100000 in
set_option maxHeartbeats 4000000 in
theorem c_X11_leaned {l : Launch} {D : va_G} {cA : Nat → ClassId} {ad : Nat → Nat} (hdj : Zdj ad) {z z1 : ZI} {x1 : Int} {r : Int} (hzz : Zok z) (hx1 : InR x1) (hF : F_X11_leaned z x1 = some (r, z1)) : YMi l D cA ad (2) yX11_leaned cX11_leaned 5 (some .int) [.ref (ad 68), .int (i32 x1)] z r z1 :=
  Zmet hdj (by decide) rfl (Nat.le_of_ble_eq_true rfl) (lv := [(0, .ref (ad 68)), (1, .int (i32 (x1)))]) rfl (fun p e s m args below meth c ls S hr hlk hw hl => by
    have hR : 2 ≤ (Zrm (2)).frames ∧ 60 * (2) ≤ (Zrm (2)).locals := ⟨Nat.le_refl _, Nat.le_refl _⟩
    unfold F_X11_leaned at hF
    revert hR
    generalize Zrm (2) = R
    intro hR
    refine lv_iconst (v := i32 0) S.1 S.2.1 dX11_leaned_0 ic_0 ?_
    refine lv_istore_n (lv' := [(2, .int (i32 (0))), (0, .ref (ad 68)), (1, .int (i32 (x1)))]) S.1 S.2.1 dX11_leaned_1 rfl hl (by decide) rfl (fun ls hl => ?_)
    exact w_X11_leaned_L2 S hr hlk hR hdj Zfuel _ _ _ _ _ _ hF hw hzz hx1 r_0 (lv_sub hl [1, 2, 0] rfl))
set_option maxRecDepth 100000 in
set_option maxHeartbeats 4000000 in
theorem w_X11_list_b48 {RR : Int × ZI} (S : CallFix p m c cX11_list 4 s args Ztbl RX11) (hr : meth.sig.returnType = some .int) (hlk : meth.locks = false) (hR : 5 ≤ R.frames ∧ 60 * (5) ≤ R.locals) (hdj : Zdj ad) : ∀ (z : ZI) (y0 : Int) (H : Heap) (locs : List Loc) (ls : Array Slot), X11_list_b48 z y0 = some RR → ZW D cA ad (ZA ad) (Zc z) s H locs → Zok z → InR y0 → lv_has ls 4 [] → W p l e R s m args below meth c H locs 0 0 (MQ below (YQi D cA ad RR.1 RR.2) args s 0 0 (ZA ad)) (F0 m 48 ls [.int (i32 (y0))]) := by
  intro z y0 H locs ls hF hw hzz hy0 hl
  unfold X11_list_b48 at hF
  exact Yireti S hw hzz hy0 hr hlk hF dX11_list_48
set_option maxRecDepth 100000 in
set_option maxHeartbeats 4000000 in
theorem c_X11_list {l : Launch} {D : va_G} {cA : Nat → ClassId} {ad : Nat → Nat} (hdj : Zdj ad) {z z1 : ZI} {x1 : Int} {x2 : Int} {r : Int} (hzz : Zok z) (hx1 : InR x1) (hx2 : InR x2) (hF : F_X11_list z x1 x2 = some (r, z1)) : YMi l D cA ad (5) yX11_list cX11_list 4 (some .int) [.ref (ad 68), .int (i32 x1), .int (i32 x2)] z r z1 :=
  Zmet hdj (by decide) rfl (Nat.le_of_ble_eq_true rfl) (lv := [(0, .ref (ad 68)), (1, .int (i32 (x1))), (2, .int (i32 (x2)))]) rfl (fun p e s m args below meth c ls S hr hlk hw hl => by
    have hR : 5 ≤ (Zrm (5)).frames ∧ 60 * (5) ≤ (Zrm (5)).locals := ⟨Nat.le_refl _, Nat.le_refl _⟩
    unfold F_X11_list at hF
    revert hR
    generalize Zrm (5) = R
    intro hR
    refine lv_iload_n S.1 S.2.1 dX11_list_0 rfl (lv_at hl 1 rfl) ?_
    refine Yi2l S hx1 dX11_list_1 ?_
    refine lv_lconst (v := i64 0) S.1 S.2.1 dX11_list_2 lc_0 ?_
    refine lv_ldc2 (own := RX11) (v := i64 999) S.1 S.2.1 S.2.2.2.1 (S.2.2.2.2 _ yl_X11_256) dX11_list_3 ?_
    obtain ⟨r3_, z1_, h2_, hF⟩ := Ybs hF
    refine YcallSi (rest := []) S hw (c_X11_out hdj hzz (InR_L hx1) (InR_L r_0) (InR_L r_999) h2_) my_X11_out ms_X11_out ml_X11_203 (Zrr hR (by decide)) ⟨Nat.zero_le _, Nat.zero_le _⟩ hl.1 rfl rfl (Nat.le_of_ble_eq_true rfl) dX11_list_6 (fun hrr3_ hzz1_ H locs hw => ?_)
    refine lv_istore_n (lv' := [(3, .int (i32 (r3_))), (0, .ref (ad 68)), (1, .int (i32 (x1))), (2, .int (i32 (x2)))]) S.1 S.2.1 dX11_list_9 rfl hl (by decide) rfl (fun ls hl => ?_)
    refine lv_iload_n S.1 S.2.1 dX11_list_10 rfl (lv_at hl 0 rfl) ?_
    refine Yif_eq (tgt := 20) S hrr3_ dX11_list_11 (by decide) (fun c4_ => ?_) (fun c4_ => ?_)
    · replace hF := ZtP c4_ hF
      refine lv_iload_n S.1 S.2.1 dX11_list_20 rfl (lv_at hl 3 rfl) ?_
      refine Yi2l S hx2 dX11_list_21 ?_
      refine lv_lconst (v := i64 0) S.1 S.2.1 dX11_list_22 lc_0 ?_
      refine lv_aload_n S.1 S.2.1 dX11_list_23 rfl (lv_at hl 1 rfl) ?_
      refine lv_iload_n S.1 S.2.1 dX11_list_24 rfl (lv_at hl 2 rfl) ?_
      obtain ⟨r7_, z5_, h6_, hF⟩ := Ybs hF
      refine YcallVi (rest := [.long (i64 (0)), .long (i64 (x2))]) S hw (c_X11_findList hdj hzz1_ hx1 h6_) my_X11_findList mi_X11_findList ml_X11_451 zd_68 zc_X11 rfl (Zrr hR (by decide)) ⟨Nat.zero_le _, Nat.zero_le _⟩ hl.1 rfl rfl (Nat.le_of_ble_eq_true rfl) dX11_list_25 (fun hrr7_ hzz5_ H locs hw => ?_)
      refine lv_iconst (v := i32 1) S.1 S.2.1 dX11_list_28 ic_1 ?_
      obtain ⟨g8_, hF⟩ := Zgs hF
      refine Yisub S dX11_list_29 ?_
      refine Yi2l S g8_ dX11_list_30 ?_
      obtain ⟨r11_, z9_, h10_, hF⟩ := Ybs hF
      refine YcallSi (rest := []) S hw (c_X11_isIn hdj hzz5_ (InR_L hx2) (InR_L r_0) (InR_L g8_) h10_) my_X11_isIn ms_X11_isIn ml_X11_226 (Zrr hR (by decide)) ⟨Nat.zero_le _, Nat.zero_le _⟩ hl.1 rfl rfl (Nat.le_of_ble_eq_true rfl) dX11_list_31 (fun hrr11_ hzz9_ H locs hw => ?_)
      refine Yif_eq (tgt := 46) S hrr11_ dX11_list_34 (by decide) (fun c12_ => ?_) (fun c12_ => ?_)
      · replace hF := ZtP c12_ hF
        refine lv_bipush (v := i32 (-9)) S.1 S.2.1 dX11_list_46 bp_m9 ?_
        exact w_X11_list_b48 S hr hlk hR hdj _ _ _ _ _ hF hw hzz9_ r_m9 (lv_sub hl [] rfl)
      · replace hF := ZtN c12_ hF
        refine lv_aload_n S.1 S.2.1 dX11_list_37 rfl (lv_at hl 1 rfl) ?_
        refine gf_X11_174 S hw dX11_list_38 ?_
        refine lv_iload_n S.1 S.2.1 dX11_list_41 rfl (lv_at hl 3 rfl) ?_
        obtain ⟨b13_, hF⟩ := Zgs hF
        refine Yiald S hw zd_123 (by decide) hx2 b13_ dX11_list_42 ?_
        refine lv_goto (tgt := 48) S.1 S.2.1 dX11_list_43 (by decide) ?_
        exact w_X11_list_b48 S hr hlk hR hdj _ _ _ _ _ hF hw hzz9_ (hzz9_.1 _ _ (by decide)) (lv_sub hl [] rfl)
    · replace hF := ZtN c4_ hF
      refine lv_aload_n S.1 S.2.1 dX11_list_14 rfl (lv_at hl 1 rfl) ?_
      refine lv_iload_n S.1 S.2.1 dX11_list_15 rfl (lv_at hl 0 rfl) ?_
      obtain ⟨r16_, z14_, h15_, hF⟩ := Ybs hF
      refine YcallVi (rest := []) S hw (c_X11_no hdj hzz1_ hrr3_ h15_) my_X11_no mi_X11_no ml_X11_207 zd_68 zc_X11 rfl (Zrr hR (by decide)) ⟨Nat.zero_le _, Nat.zero_le _⟩ hl.1 rfl rfl (Nat.le_of_ble_eq_true rfl) dX11_list_16 (fun hrr16_ hzz14_ H locs hw => ?_)
      exact Yireti S hw hzz14_ hrr16_ hr hlk hF dX11_list_19)
set_option maxRecDepth 100000 in
set_option maxHeartbeats 4000000 in
theorem c_X11_lower {l : Launch} {D : va_G} {cA : Nat → ClassId} {ad : Nat → Nat} (hdj : Zdj ad) {z z1 : ZI} {x1 : Int} {r : Int} (hzz : Zok z) (hx1 : InR x1) (hF : F_X11_lower z x1 = some (r, z1)) : YMi l D cA ad (0) yX11_lower cX11_lower 2 (some .int) [.ref (ad 68), .int (i32 x1)] z r z1 :=
  Zmet hdj (by decide) rfl (Nat.le_of_ble_eq_true rfl) (lv := [(0, .ref (ad 68)), (1, .int (i32 (x1)))]) rfl (fun p e s m args below meth c ls S hr hlk hw hl => by
    have hR : 0 ≤ (Zrm (0)).frames ∧ 60 * (0) ≤ (Zrm (0)).locals := ⟨Nat.le_refl _, Nat.le_refl _⟩
    unfold F_X11_lower at hF
    revert hR
    generalize Zrm (0) = R
    intro hR
    refine lv_aload_n S.1 S.2.1 dX11_lower_0 rfl (lv_at hl 0 rfl) ?_
    refine gf_X11_7 S hw dX11_lower_1 ?_
    refine lv_iload_n S.1 S.2.1 dX11_lower_4 rfl (lv_at hl 1 rfl) ?_
    obtain ⟨g1_, hF⟩ := Zgs hF
    refine Yineg S dX11_lower_5 ?_
    refine lv_dup2_11 S.1 S.2.1 dX11_lower_6 rfl rfl ?_
    obtain ⟨b2_, hF⟩ := Zgs hF
    refine Yiald S hw zd_69 (by decide) g1_ b2_ dX11_lower_7 ?_
    refine lv_iconst (v := i32 1) S.1 S.2.1 dX11_lower_8 ic_1 ?_
    obtain ⟨g3_, hF⟩ := Zgs hF
    refine Yiadd S dX11_lower_9 ?_
    obtain ⟨b4_, hF⟩ := Zgs hF
    refine Yiast S hw hzz zd_69 (by decide) g1_ g3_ b4_ dX11_lower_10 (fun z5_ H locs ez hzz5_ hw => ?_)
    replace hF := Zle ez hF; clear ez
    refine lv_ldc (own := RX11) (v := i32 1000000000) S.1 S.2.1 S.2.2.2.1 (S.2.2.2.2 _ yc_X11_192) dX11_lower_11 ?_
    refine lv_iload_n S.1 S.2.1 dX11_lower_13 rfl (lv_at hl 1 rfl) ?_
    obtain ⟨g6_, hF⟩ := Zgs hF
    refine Yisub S dX11_lower_14 ?_
    exact Yireti S hw hzz5_ g6_ hr hlk hF dX11_lower_15)
set_option maxRecDepth 100000 in
set_option maxHeartbeats 4000000 in
theorem w_X11_minutes_b35 {RR : Int × ZI} (S : CallFix p m c cX11_minutes 10 s args Ztbl RX11) (hr : meth.sig.returnType = some .int) (hlk : meth.locks = false) (hR : 1 ≤ R.frames ∧ 60 * (1) ≤ R.locals) (hdj : Zdj ad) : ∀ (z : ZI) (H : Heap) (locs : List Loc) (ls : Array Slot), X11_minutes_b35 z  = some RR → ZW D cA ad (ZA ad) (Zc z) s H locs → Zok z → lv_has ls 10 [(0, .ref (ad 68))] → W p l e R s m args below meth c H locs 0 0 (MQ below (YQi D cA ad RR.1 RR.2) args s 0 0 (ZA ad)) (F0 m 35 ls []) := by
  intro z  H locs ls hF hw hzz  hl
  unfold X11_minutes_b35 at hF
  refine lv_aload_n S.1 S.2.1 dX11_minutes_35 rfl (lv_at hl 0 rfl) ?_
  refine lv_iconst (v := i32 (-1)) S.1 S.2.1 dX11_minutes_36 ic_m1 ?_
  obtain ⟨r3_, z1_, h2_, hF⟩ := Ybs hF
  refine YcallVi (rest := []) S hw (c_X11_no hdj hzz r_m1 h2_) my_X11_no mi_X11_no ml_X11_207 zd_68 zc_X11 rfl (Zrr hR (by decide)) ⟨Nat.zero_le _, Nat.zero_le _⟩ hl.1 rfl rfl (Nat.le_of_ble_eq_true rfl) dX11_minutes_37 (fun hrr3_ hzz1_ H locs hw => ?_)
  exact Yireti S hw hzz1_ hrr3_ hr hlk hF dX11_minutes_40
set_option maxRecDepth 100000 in
set_option maxHeartbeats 4000000 in
theorem w_X11_minutes_b84 {RR : Int × ZI} (S : CallFix p m c cX11_minutes 10 s args Ztbl RX11) (hr : meth.sig.returnType = some .int) (hlk : meth.locks = false) (hR : 1 ≤ R.frames ∧ 60 * (1) ≤ R.locals) (hdj : Zdj ad) : ∀ (z : ZI) (H : Heap) (locs : List Loc) (ls : Array Slot), X11_minutes_b84 z  = some RR → ZW D cA ad (ZA ad) (Zc z) s H locs → Zok z → lv_has ls 10 [] → W p l e R s m args below meth c H locs 0 0 (MQ below (YQi D cA ad RR.1 RR.2) args s 0 0 (ZA ad)) (F0 m 84 ls []) := by
  intro z  H locs ls hF hw hzz  hl
  unfold X11_minutes_b84 at hF
  refine lv_bipush (v := i32 (-9)) S.1 S.2.1 dX11_minutes_84 bp_m9 ?_
  exact Yireti S hw hzz r_m9 hr hlk hF dX11_minutes_86
set_option maxRecDepth 100000 in
set_option maxHeartbeats 4000000 in
theorem w_X11_minutes_b285 {RR : Int × ZI} (S : CallFix p m c cX11_minutes 10 s args Ztbl RX11) (hr : meth.sig.returnType = some .int) (hlk : meth.locks = false) (hR : 1 ≤ R.frames ∧ 60 * (1) ≤ R.locals) (hdj : Zdj ad) : ∀ (z : ZI) (y0 : Int) (H : Heap) (locs : List Loc) (ls : Array Slot), X11_minutes_b285 z y0 = some RR → ZW D cA ad (ZA ad) (Zc z) s H locs → Zok z → InR y0 → lv_has ls 10 [] → W p l e R s m args below meth c H locs 0 0 (MQ below (YQi D cA ad RR.1 RR.2) args s 0 0 (ZA ad)) (F0 m 285 ls [.int (i32 (y0))]) := by
  intro z y0 H locs ls hF hw hzz hy0 hl
  unfold X11_minutes_b285 at hF
  exact Yireti S hw hzz hy0 hr hlk hF dX11_minutes_285
set_option maxRecDepth 100000 in
set_option maxHeartbeats 4000000 in
theorem w_X11_minutes_b262 {RR : Int × ZI} (S : CallFix p m c cX11_minutes 10 s args Ztbl RX11) (hr : meth.sig.returnType = some .int) (hlk : meth.locks = false) (hR : 1 ≤ R.frames ∧ 60 * (1) ≤ R.locals) (hdj : Zdj ad) : ∀ (z : ZI) (x2 : Int) (H : Heap) (locs : List Loc) (ls : Array Slot), X11_minutes_b262 z x2 = some RR → ZW D cA ad (ZA ad) (Zc z) s H locs → Zok z → InR x2 → lv_has ls 10 [(0, .ref (ad 68)), (2, .int (i32 (x2)))] → W p l e R s m args below meth c H locs 0 0 (MQ below (YQi D cA ad RR.1 RR.2) args s 0 0 (ZA ad)) (F0 m 262 ls []) := by
  intro z x2 H locs ls hF hw hzz hx2 hl
  unfold X11_minutes_b262 at hF
  refine lv_aload_n S.1 S.2.1 dX11_minutes_262 rfl (lv_at hl 0 rfl) ?_
  refine gf_X11_156 S hw dX11_minutes_263 ?_
  refine lv_iload_n S.1 S.2.1 dX11_minutes_266 rfl (lv_at hl 1 rfl) ?_
  obtain ⟨b1_, hF⟩ := Zgs hF
  refine Yiald S hw zd_117 (by decide) hx2 b1_ dX11_minutes_267 ?_
  refine lv_ldcw (own := RX11) (v := i32 1000000) S.1 S.2.1 S.2.2.2.1 (S.2.2.2.2 _ yc_X11_433) dX11_minutes_268 ?_
  refine Yicmp_lt (tgt := 279) S (hzz.1 _ _ (by decide)) r_1000000 dX11_minutes_271 (by decide) (fun c2_ => ?_) (fun c2_ => ?_)
  · replace hF := ZtP c2_ hF
    refine lv_aload_n S.1 S.2.1 dX11_minutes_279 rfl (lv_at hl 0 rfl) ?_
    refine gf_X11_156 S hw dX11_minutes_280 ?_
    refine lv_iload_n S.1 S.2.1 dX11_minutes_283 rfl (lv_at hl 1 rfl) ?_
    obtain ⟨b3_, hF⟩ := Zgs hF
    refine Yiald S hw zd_117 (by decide) hx2 b3_ dX11_minutes_284 ?_
    exact w_X11_minutes_b285 S hr hlk hR hdj _ _ _ _ _ hF hw hzz (hzz.1 _ _ (by decide)) (lv_sub hl [] rfl)
  · replace hF := ZtN c2_ hF
    refine lv_bipush (v := i32 (-9)) S.1 S.2.1 dX11_minutes_274 bp_m9 ?_
    refine lv_goto (tgt := 285) S.1 S.2.1 dX11_minutes_276 (by decide) ?_
    exact w_X11_minutes_b285 S hr hlk hR hdj _ _ _ _ _ hF hw hzz r_m9 (lv_sub hl [] rfl)
set_option maxRecDepth 100000 in
set_option maxHeartbeats 4000000 in
theorem w_X11_minutes_b259 {RR : Int × ZI} (S : CallFix p m c cX11_minutes 10 s args Ztbl RX11) (hr : meth.sig.returnType = some .int) (hlk : meth.locks = false) (hR : 1 ≤ R.frames ∧ 60 * (1) ≤ R.locals) (hdj : Zdj ad) {k128 : ZI → Int → Int → Int → Option (Int × ZI)} (hk128 : ∀ (z : ZI) (x2 : Int) (x3 : Int) (x5 : Int) (H : Heap) (locs : List Loc) (ls : Array Slot), k128 z x2 x3 x5 = some RR → ZW D cA ad (ZA ad) (Zc z) s H locs → Zok z → InR x2 → InR x3 → InR x5 → lv_has ls 10 [(0, .ref (ad 68)), (2, .int (i32 (x2))), (3, .int (i32 (x3))), (5, .int (i32 (x5)))] → W p l e R s m args below meth c H locs 0 0 (MQ below (YQi D cA ad RR.1 RR.2) args s 0 0 (ZA ad)) (F0 m 128 ls [])) : ∀ (z : ZI) (x2 : Int) (x3 : Int) (x5 : Int) (H : Heap) (locs : List Loc) (ls : Array Slot), X11_minutes_b259 k128 z x2 x3 x5 = some RR → ZW D cA ad (ZA ad) (Zc z) s H locs → Zok z → InR x2 → InR x3 → InR x5 → lv_has ls 10 [(0, .ref (ad 68)), (2, .int (i32 (x2))), (3, .int (i32 (x3))), (5, .int (i32 (x5)))] → W p l e R s m args below meth c H locs 0 0 (MQ below (YQi D cA ad RR.1 RR.2) args s 0 0 (ZA ad)) (F0 m 259 ls []) := by
  intro z x2 x3 x5 H locs ls hF hw hzz hx2 hx3 hx5 hl
  unfold X11_minutes_b259 at hF
  refine lv_goto (tgt := 128) S.1 S.2.1 dX11_minutes_259 (by decide) ?_
  exact hk128 _ _ _ _ _ _ _ hF hw hzz hx2 hx3 hx5 (lv_sub hl [0, 1, 2, 3] rfl)
set_option maxRecDepth 100000 in
set_option maxHeartbeats 4000000 in
theorem w_X11_minutes_b253 {RR : Int × ZI} (S : CallFix p m c cX11_minutes 10 s args Ztbl RX11) (hr : meth.sig.returnType = some .int) (hlk : meth.locks = false) (hR : 1 ≤ R.frames ∧ 60 * (1) ≤ R.locals) (hdj : Zdj ad) {k128 : ZI → Int → Int → Int → Option (Int × ZI)} (hk128 : ∀ (z : ZI) (x2 : Int) (x3 : Int) (x5 : Int) (H : Heap) (locs : List Loc) (ls : Array Slot), k128 z x2 x3 x5 = some RR → ZW D cA ad (ZA ad) (Zc z) s H locs → Zok z → InR x2 → InR x3 → InR x5 → lv_has ls 10 [(0, .ref (ad 68)), (2, .int (i32 (x2))), (3, .int (i32 (x3))), (5, .int (i32 (x5)))] → W p l e R s m args below meth c H locs 0 0 (MQ below (YQi D cA ad RR.1 RR.2) args s 0 0 (ZA ad)) (F0 m 128 ls [])) {k139 : ZI → Int → Int → Int → Int → Option (Int × ZI)} (hk139 : ∀ (z : ZI) (x2 : Int) (x3 : Int) (x5 : Int) (x6 : Int) (H : Heap) (locs : List Loc) (ls : Array Slot), k139 z x2 x3 x5 x6 = some RR → ZW D cA ad (ZA ad) (Zc z) s H locs → Zok z → InR x2 → InR x3 → InR x5 → InR x6 → lv_has ls 10 [(0, .ref (ad 68)), (2, .int (i32 (x2))), (3, .int (i32 (x3))), (5, .int (i32 (x5))), (6, .int (i32 (x6)))] → W p l e R s m args below meth c H locs 0 0 (MQ below (YQi D cA ad RR.1 RR.2) args s 0 0 (ZA ad)) (F0 m 139 ls [])) : ∀ (z : ZI) (x2 : Int) (x3 : Int) (x5 : Int) (x6 : Int) (H : Heap) (locs : List Loc) (ls : Array Slot), X11_minutes_b253 k128 k139 z x2 x3 x5 x6 = some RR → ZW D cA ad (ZA ad) (Zc z) s H locs → Zok z → InR x2 → InR x3 → InR x5 → InR x6 → lv_has ls 10 [(0, .ref (ad 68)), (2, .int (i32 (x2))), (3, .int (i32 (x3))), (5, .int (i32 (x5))), (6, .int (i32 (x6)))] → W p l e R s m args below meth c H locs 0 0 (MQ below (YQi D cA ad RR.1 RR.2) args s 0 0 (ZA ad)) (F0 m 253 ls []) := by
  intro z x2 x3 x5 x6 H locs ls hF hw hzz hx2 hx3 hx5 hx6 hl
  unfold X11_minutes_b253 at hF
  obtain ⟨g1_, hF⟩ := Zgs hF
  refine lv_iinc (v := i32 (x6 + 1)) (lv' := [(6, .int (i32 (x6 + 1))), (0, .ref (ad 68)), (2, .int (i32 (x2))), (3, .int (i32 (x3))), (5, .int (i32 (x5)))]) S.1 S.2.1 dX11_minutes_253 hl (k := 4) rfl Yiinc (by decide) rfl (fun ls hl => ?_)
  refine lv_goto (tgt := 139) S.1 S.2.1 dX11_minutes_256 (by decide) ?_
  exact hk139 _ _ _ _ _ _ _ _ hF hw hzz hx2 hx3 hx5 g1_ (lv_sub hl [1, 2, 3, 4, 0] rfl)
set_option maxRecDepth 100000 in
set_option maxHeartbeats 4000000 in
theorem w_X11_minutes_b247 {RR : Int × ZI} (S : CallFix p m c cX11_minutes 10 s args Ztbl RX11) (hr : meth.sig.returnType = some .int) (hlk : meth.locks = false) (hR : 1 ≤ R.frames ∧ 60 * (1) ≤ R.locals) (hdj : Zdj ad) {k128 : ZI → Int → Int → Int → Option (Int × ZI)} (hk128 : ∀ (z : ZI) (x2 : Int) (x3 : Int) (x5 : Int) (H : Heap) (locs : List Loc) (ls : Array Slot), k128 z x2 x3 x5 = some RR → ZW D cA ad (ZA ad) (Zc z) s H locs → Zok z → InR x2 → InR x3 → InR x5 → lv_has ls 10 [(0, .ref (ad 68)), (2, .int (i32 (x2))), (3, .int (i32 (x3))), (5, .int (i32 (x5)))] → W p l e R s m args below meth c H locs 0 0 (MQ below (YQi D cA ad RR.1 RR.2) args s 0 0 (ZA ad)) (F0 m 128 ls [])) {k139 : ZI → Int → Int → Int → Int → Option (Int × ZI)} (hk139 : ∀ (z : ZI) (x2 : Int) (x3 : Int) (x5 : Int) (x6 : Int) (H : Heap) (locs : List Loc) (ls : Array Slot), k139 z x2 x3 x5 x6 = some RR → ZW D cA ad (ZA ad) (Zc z) s H locs → Zok z → InR x2 → InR x3 → InR x5 → InR x6 → lv_has ls 10 [(0, .ref (ad 68)), (2, .int (i32 (x2))), (3, .int (i32 (x3))), (5, .int (i32 (x5))), (6, .int (i32 (x6)))] → W p l e R s m args below meth c H locs 0 0 (MQ below (YQi D cA ad RR.1 RR.2) args s 0 0 (ZA ad)) (F0 m 139 ls [])) {k151 : ZI → Int → Int → Int → Int → Int → Option (Int × ZI)} (hk151 : ∀ (z : ZI) (x2 : Int) (x3 : Int) (x5 : Int) (x6 : Int) (x7 : Int) (H : Heap) (locs : List Loc) (ls : Array Slot), k151 z x2 x3 x5 x6 x7 = some RR → ZW D cA ad (ZA ad) (Zc z) s H locs → Zok z → InR x2 → InR x3 → InR x5 → InR x6 → InR x7 → lv_has ls 10 [(0, .ref (ad 68)), (2, .int (i32 (x2))), (3, .int (i32 (x3))), (5, .int (i32 (x5))), (6, .int (i32 (x6))), (7, .int (i32 (x7)))] → W p l e R s m args below meth c H locs 0 0 (MQ below (YQi D cA ad RR.1 RR.2) args s 0 0 (ZA ad)) (F0 m 151 ls [])) : ∀ (z : ZI) (x2 : Int) (x3 : Int) (x5 : Int) (x6 : Int) (x7 : Int) (H : Heap) (locs : List Loc) (ls : Array Slot), X11_minutes_b247 k128 k139 k151 z x2 x3 x5 x6 x7 = some RR → ZW D cA ad (ZA ad) (Zc z) s H locs → Zok z → InR x2 → InR x3 → InR x5 → InR x6 → InR x7 → lv_has ls 10 [(0, .ref (ad 68)), (2, .int (i32 (x2))), (3, .int (i32 (x3))), (5, .int (i32 (x5))), (6, .int (i32 (x6))), (7, .int (i32 (x7)))] → W p l e R s m args below meth c H locs 0 0 (MQ below (YQi D cA ad RR.1 RR.2) args s 0 0 (ZA ad)) (F0 m 247 ls []) := by
  intro z x2 x3 x5 x6 x7 H locs ls hF hw hzz hx2 hx3 hx5 hx6 hx7 hl
  unfold X11_minutes_b247 at hF
  obtain ⟨g1_, hF⟩ := Zgs hF
  refine lv_iinc (v := i32 (x7 + 1)) (lv' := [(7, .int (i32 (x7 + 1))), (0, .ref (ad 68)), (2, .int (i32 (x2))), (3, .int (i32 (x3))), (5, .int (i32 (x5))), (6, .int (i32 (x6)))]) S.1 S.2.1 dX11_minutes_247 hl (k := 5) rfl Yiinc (by decide) rfl (fun ls hl => ?_)
  refine lv_goto (tgt := 151) S.1 S.2.1 dX11_minutes_250 (by decide) ?_
  exact hk151 _ _ _ _ _ _ _ _ _ hF hw hzz hx2 hx3 hx5 hx6 g1_ (lv_sub hl [1, 2, 3, 4, 5, 0] rfl)
set_option maxRecDepth 100000 in
set_option maxHeartbeats 4000000 in
theorem w_X11_minutes_b212 {RR : Int × ZI} (S : CallFix p m c cX11_minutes 10 s args Ztbl RX11) (hr : meth.sig.returnType = some .int) (hlk : meth.locks = false) (hR : 1 ≤ R.frames ∧ 60 * (1) ≤ R.locals) (hdj : Zdj ad) {k128 : ZI → Int → Int → Int → Option (Int × ZI)} (hk128 : ∀ (z : ZI) (x2 : Int) (x3 : Int) (x5 : Int) (H : Heap) (locs : List Loc) (ls : Array Slot), k128 z x2 x3 x5 = some RR → ZW D cA ad (ZA ad) (Zc z) s H locs → Zok z → InR x2 → InR x3 → InR x5 → lv_has ls 10 [(0, .ref (ad 68)), (2, .int (i32 (x2))), (3, .int (i32 (x3))), (5, .int (i32 (x5)))] → W p l e R s m args below meth c H locs 0 0 (MQ below (YQi D cA ad RR.1 RR.2) args s 0 0 (ZA ad)) (F0 m 128 ls [])) {k139 : ZI → Int → Int → Int → Int → Option (Int × ZI)} (hk139 : ∀ (z : ZI) (x2 : Int) (x3 : Int) (x5 : Int) (x6 : Int) (H : Heap) (locs : List Loc) (ls : Array Slot), k139 z x2 x3 x5 x6 = some RR → ZW D cA ad (ZA ad) (Zc z) s H locs → Zok z → InR x2 → InR x3 → InR x5 → InR x6 → lv_has ls 10 [(0, .ref (ad 68)), (2, .int (i32 (x2))), (3, .int (i32 (x3))), (5, .int (i32 (x5))), (6, .int (i32 (x6)))] → W p l e R s m args below meth c H locs 0 0 (MQ below (YQi D cA ad RR.1 RR.2) args s 0 0 (ZA ad)) (F0 m 139 ls [])) {k151 : ZI → Int → Int → Int → Int → Int → Option (Int × ZI)} (hk151 : ∀ (z : ZI) (x2 : Int) (x3 : Int) (x5 : Int) (x6 : Int) (x7 : Int) (H : Heap) (locs : List Loc) (ls : Array Slot), k151 z x2 x3 x5 x6 x7 = some RR → ZW D cA ad (ZA ad) (Zc z) s H locs → Zok z → InR x2 → InR x3 → InR x5 → InR x6 → InR x7 → lv_has ls 10 [(0, .ref (ad 68)), (2, .int (i32 (x2))), (3, .int (i32 (x3))), (5, .int (i32 (x5))), (6, .int (i32 (x6))), (7, .int (i32 (x7)))] → W p l e R s m args below meth c H locs 0 0 (MQ below (YQi D cA ad RR.1 RR.2) args s 0 0 (ZA ad)) (F0 m 151 ls [])) : ∀ (z : ZI) (x2 : Int) (x3 : Int) (x5 : Int) (x6 : Int) (x7 : Int) (x8 : Int) (y0 : Int) (y1 : Int) (H : Heap) (locs : List Loc) (ls : Array Slot), X11_minutes_b212 k128 k139 k151 z x2 x3 x5 x6 x7 x8 y0 y1 = some RR → ZW D cA ad (ZA ad) (Zc z) s H locs → Zok z → InR x2 → InR x3 → InR x5 → InR x6 → InR x7 → InR x8 → InR y0 → InR y1 → lv_has ls 10 [(0, .ref (ad 68)), (2, .int (i32 (x2))), (3, .int (i32 (x3))), (5, .int (i32 (x5))), (6, .int (i32 (x6))), (7, .int (i32 (x7))), (8, .int (i32 (x8)))] → W p l e R s m args below meth c H locs 0 0 (MQ below (YQi D cA ad RR.1 RR.2) args s 0 0 (ZA ad)) (F0 m 212 ls [.int (i32 (y1)), .int (i32 (y0))]) := by
  intro z x2 x3 x5 x6 x7 x8 y0 y1 H locs ls hF hw hzz hx2 hx3 hx5 hx6 hx7 hx8 hy0 hy1 hl
  unfold X11_minutes_b212 at hF
  obtain ⟨g1_, hF⟩ := Zgs hF
  refine Yiadd S dX11_minutes_212 ?_
  refine lv_istore (lv' := [(9, .int (i32 (y0 + y1))), (0, .ref (ad 68)), (2, .int (i32 (x2))), (3, .int (i32 (x3))), (5, .int (i32 (x5))), (6, .int (i32 (x6))), (7, .int (i32 (x7))), (8, .int (i32 (x8)))]) S.1 S.2.1 dX11_minutes_213 hl (by decide) rfl (fun ls hl => ?_)
  refine lv_iload S.1 S.2.1 dX11_minutes_215 (lv_at hl 7 rfl) ?_
  refine Yif_lt (tgt := 247) S hx8 dX11_minutes_217 (by decide) (fun c2_ => ?_) (fun c2_ => ?_)
  · replace hF := ZtP c2_ hF
    exact w_X11_minutes_b247 S hr hlk hR hdj hk128 hk139 hk151 _ _ _ _ _ _ _ _ _ hF hw hzz hx2 hx3 hx5 hx6 hx7 (lv_sub hl [1, 2, 3, 4, 5, 6] rfl)
  · replace hF := ZtN c2_ hF
    refine lv_iload S.1 S.2.1 dX11_minutes_220 (lv_at hl 0 rfl) ?_
    refine lv_aload_n S.1 S.2.1 dX11_minutes_222 rfl (lv_at hl 1 rfl) ?_
    refine gf_X11_156 S hw dX11_minutes_223 ?_
    refine lv_iload S.1 S.2.1 dX11_minutes_226 (lv_at hl 7 rfl) ?_
    obtain ⟨b3_, hF⟩ := Zgs hF
    refine Yiald S hw zd_117 (by decide) hx8 b3_ dX11_minutes_228 ?_
    refine Yicmp_lt (tgt := 235) S g1_ (hzz.1 _ _ (by decide)) dX11_minutes_229 (by decide) (fun c4_ => ?_) (fun c4_ => ?_)
    · replace hF := ZtP c4_ hF
      refine lv_aload_n S.1 S.2.1 dX11_minutes_235 rfl (lv_at hl 1 rfl) ?_
      refine gf_X11_156 S hw dX11_minutes_236 ?_
      refine lv_iload S.1 S.2.1 dX11_minutes_239 (lv_at hl 7 rfl) ?_
      refine lv_iload S.1 S.2.1 dX11_minutes_241 (lv_at hl 0 rfl) ?_
      obtain ⟨b5_, hF⟩ := Zgs hF
      refine Yiast S hw hzz zd_117 (by decide) hx8 g1_ b5_ dX11_minutes_243 (fun z6_ H locs ez hzz6_ hw => ?_)
      replace hF := Zle ez hF; clear ez
      refine lv_iconst (v := i32 1) S.1 S.2.1 dX11_minutes_244 ic_1 ?_
      refine lv_istore (lv' := [(5, .int (i32 (1))), (9, .int (i32 (y0 + y1))), (0, .ref (ad 68)), (2, .int (i32 (x2))), (3, .int (i32 (x3))), (6, .int (i32 (x6))), (7, .int (i32 (x7))), (8, .int (i32 (x8)))]) S.1 S.2.1 dX11_minutes_245 hl (by decide) rfl (fun ls hl => ?_)
      exact w_X11_minutes_b247 S hr hlk hR hdj hk128 hk139 hk151 _ _ _ _ _ _ _ _ _ hF hw hzz6_ hx2 hx3 r_1 hx6 hx7 (lv_sub hl [2, 3, 4, 0, 5, 6] rfl)
    · replace hF := ZtN c4_ hF
      refine lv_goto (tgt := 247) S.1 S.2.1 dX11_minutes_232 (by decide) ?_
      exact w_X11_minutes_b247 S hr hlk hR hdj hk128 hk139 hk151 _ _ _ _ _ _ _ _ _ hF hw hzz hx2 hx3 hx5 hx6 hx7 (lv_sub hl [1, 2, 3, 4, 5, 6] rfl)
set_option maxRecDepth 100000 in
set_option maxHeartbeats 4000000 in
theorem w_X11_minutes_L151 {RR : Int × ZI} (S : CallFix p m c cX11_minutes 10 s args Ztbl RX11) (hr : meth.sig.returnType = some .int) (hlk : meth.locks = false) (hR : 1 ≤ R.frames ∧ 60 * (1) ≤ R.locals) (hdj : Zdj ad) {k128 : ZI → Int → Int → Int → Option (Int × ZI)} (hk128 : ∀ (z : ZI) (x2 : Int) (x3 : Int) (x5 : Int) (H : Heap) (locs : List Loc) (ls : Array Slot), k128 z x2 x3 x5 = some RR → ZW D cA ad (ZA ad) (Zc z) s H locs → Zok z → InR x2 → InR x3 → InR x5 → lv_has ls 10 [(0, .ref (ad 68)), (2, .int (i32 (x2))), (3, .int (i32 (x3))), (5, .int (i32 (x5)))] → W p l e R s m args below meth c H locs 0 0 (MQ below (YQi D cA ad RR.1 RR.2) args s 0 0 (ZA ad)) (F0 m 128 ls [])) {k139 : ZI → Int → Int → Int → Int → Option (Int × ZI)} (hk139 : ∀ (z : ZI) (x2 : Int) (x3 : Int) (x5 : Int) (x6 : Int) (H : Heap) (locs : List Loc) (ls : Array Slot), k139 z x2 x3 x5 x6 = some RR → ZW D cA ad (ZA ad) (Zc z) s H locs → Zok z → InR x2 → InR x3 → InR x5 → InR x6 → lv_has ls 10 [(0, .ref (ad 68)), (2, .int (i32 (x2))), (3, .int (i32 (x3))), (5, .int (i32 (x5))), (6, .int (i32 (x6)))] → W p l e R s m args below meth c H locs 0 0 (MQ below (YQi D cA ad RR.1 RR.2) args s 0 0 (ZA ad)) (F0 m 139 ls [])) : ∀ (n : Nat) (z : ZI) (x2 : Int) (x3 : Int) (x5 : Int) (x6 : Int) (x7 : Int) (H : Heap) (locs : List Loc) (ls : Array Slot), X11_minutes_L151 k128 k139 n z x2 x3 x5 x6 x7 = some RR → ZW D cA ad (ZA ad) (Zc z) s H locs → Zok z → InR x2 → InR x3 → InR x5 → InR x6 → InR x7 → lv_has ls 10 [(0, .ref (ad 68)), (2, .int (i32 (x2))), (3, .int (i32 (x3))), (5, .int (i32 (x5))), (6, .int (i32 (x6))), (7, .int (i32 (x7)))] → W p l e R s m args below meth c H locs 0 0 (MQ below (YQi D cA ad RR.1 RR.2) args s 0 0 (ZA ad)) (F0 m 151 ls []) := by
  intro n
  induction n with
  | zero => intro z x2 x3 x5 x6 x7 H locs ls hF; exact nomatch hF
  | succ n hk151 =>
    intro z x2 x3 x5 x6 x7 H locs ls hF hw hzz hx2 hx3 hx5 hx6 hx7 hl
    replace hF : X11_minutes_L151b k128 k139 (X11_minutes_L151 k128 k139 n) z x2 x3 x5 x6 x7 = some RR := hF
    unfold X11_minutes_L151b at hF
    refine lv_iload S.1 S.2.1 dX11_minutes_151 (lv_at hl 5 rfl) ?_
    refine lv_iconst (v := i32 4) S.1 S.2.1 dX11_minutes_153 ic_4 ?_
    refine Yicmp_ge (tgt := 253) S hx7 r_4 dX11_minutes_154 (by decide) (fun c1_ => ?_) (fun c1_ => ?_)
    · replace hF := ZtP c1_ hF
      exact w_X11_minutes_b253 S hr hlk hR hdj hk128 hk139 _ _ _ _ _ _ _ _ hF hw hzz hx2 hx3 hx5 hx6 (lv_sub hl [0, 1, 2, 3, 4] rfl)
    · replace hF := ZtN c1_ hF
      refine lv_aload_n S.1 S.2.1 dX11_minutes_157 rfl (lv_at hl 0 rfl) ?_
      refine gf_X11_156 S hw dX11_minutes_158 ?_
      refine lv_iload S.1 S.2.1 dX11_minutes_161 (lv_at hl 4 rfl) ?_
      obtain ⟨b2_, hF⟩ := Zgs hF
      refine Yiald S hw zd_117 (by decide) hx6 b2_ dX11_minutes_163 ?_
      refine lv_ldcw (own := RX11) (v := i32 1000000) S.1 S.2.1 S.2.2.2.1 (S.2.2.2.2 _ yc_X11_433) dX11_minutes_164 ?_
      refine Yicmp_ge (tgt := 253) S (hzz.1 _ _ (by decide)) r_1000000 dX11_minutes_167 (by decide) (fun c3_ => ?_) (fun c3_ => ?_)
      · replace hF := ZtP c3_ hF
        exact w_X11_minutes_b253 S hr hlk hR hdj hk128 hk139 _ _ _ _ _ _ _ _ hF hw hzz hx2 hx3 hx5 hx6 (lv_sub hl [0, 1, 2, 3, 4] rfl)
      · replace hF := ZtN c3_ hF
        refine lv_aload_n S.1 S.2.1 dX11_minutes_170 rfl (lv_at hl 0 rfl) ?_
        refine lv_iload S.1 S.2.1 dX11_minutes_171 (lv_at hl 4 rfl) ?_
        refine lv_iload S.1 S.2.1 dX11_minutes_173 (lv_at hl 5 rfl) ?_
        obtain ⟨r6_, z4_, h5_, hF⟩ := Ybs hF
        refine YcallVi (rest := []) S hw (c_X11_beside hdj hzz hx6 hx7 h5_) my_X11_beside mi_X11_beside ml_X11_434 zd_68 zc_X11 rfl (Zrr hR (by decide)) ⟨Nat.zero_le _, Nat.zero_le _⟩ hl.1 rfl rfl (Nat.le_of_ble_eq_true rfl) dX11_minutes_175 (fun hrr6_ hzz4_ H locs hw => ?_)
        refine lv_istore (lv' := [(8, .int (i32 (r6_))), (0, .ref (ad 68)), (2, .int (i32 (x2))), (3, .int (i32 (x3))), (5, .int (i32 (x5))), (6, .int (i32 (x6))), (7, .int (i32 (x7)))]) S.1 S.2.1 dX11_minutes_178 hl (by decide) rfl (fun ls hl => ?_)
        refine lv_aload_n S.1 S.2.1 dX11_minutes_180 rfl (lv_at hl 1 rfl) ?_
        refine gf_X11_156 S hw dX11_minutes_181 ?_
        refine lv_iload S.1 S.2.1 dX11_minutes_184 (lv_at hl 5 rfl) ?_
        obtain ⟨b7_, hF⟩ := Zgs hF
        refine Yiald S hw zd_117 (by decide) hx6 b7_ dX11_minutes_186 ?_
        refine lv_iload S.1 S.2.1 dX11_minutes_187 (lv_at hl 6 rfl) ?_
        refine lv_iload_n S.1 S.2.1 dX11_minutes_189 rfl (lv_at hl 3 rfl) ?_
        refine Yicmp_ne (tgt := 197) S hx7 hx3 dX11_minutes_190 (by decide) (fun c8_ => ?_) (fun c8_ => ?_)
        · replace hF := ZtN c8_ hF
          refine lv_iload S.1 S.2.1 dX11_minutes_197 (lv_at hl 6 rfl) ?_
          refine lv_iconst (v := i32 2) S.1 S.2.1 dX11_minutes_199 ic_2 ?_
          obtain ⟨g9_, hF⟩ := Zgs hF
          refine Yiadd S dX11_minutes_200 ?_
          refine lv_iconst (v := i32 4) S.1 S.2.1 dX11_minutes_201 ic_4 ?_
          refine Yirem S g9_ r_4 (by decide) dX11_minutes_202 ?_
          refine lv_iload_n S.1 S.2.1 dX11_minutes_203 rfl (lv_at hl 3 rfl) ?_
          refine Yicmp_ne (tgt := 211) S (InR_tmod g9_) hx3 dX11_minutes_204 (by decide) (fun c10_ => ?_) (fun c10_ => ?_)
          · replace hF := ZtN c10_ hF
            refine lv_iconst (v := i32 2) S.1 S.2.1 dX11_minutes_211 ic_2 ?_
            exact w_X11_minutes_b212 S hr hlk hR hdj hk128 hk139 hk151 _ _ _ _ _ _ _ _ _ _ _ _ hF hw hzz4_ hx2 hx3 hx5 hx6 hx7 hrr6_ (hzz4_.1 _ _ (by decide)) r_2 (lv_sub hl [1, 2, 3, 4, 5, 6, 0] rfl)
          · replace hF := ZtP c10_ hF
            refine lv_iconst (v := i32 4) S.1 S.2.1 dX11_minutes_207 ic_4 ?_
            refine lv_goto (tgt := 212) S.1 S.2.1 dX11_minutes_208 (by decide) ?_
            exact w_X11_minutes_b212 S hr hlk hR hdj hk128 hk139 hk151 _ _ _ _ _ _ _ _ _ _ _ _ hF hw hzz4_ hx2 hx3 hx5 hx6 hx7 hrr6_ (hzz4_.1 _ _ (by decide)) r_4 (lv_sub hl [1, 2, 3, 4, 5, 6, 0] rfl)
        · replace hF := ZtP c8_ hF
          refine lv_iconst (v := i32 1) S.1 S.2.1 dX11_minutes_193 ic_1 ?_
          refine lv_goto (tgt := 212) S.1 S.2.1 dX11_minutes_194 (by decide) ?_
          exact w_X11_minutes_b212 S hr hlk hR hdj hk128 hk139 hk151 _ _ _ _ _ _ _ _ _ _ _ _ hF hw hzz4_ hx2 hx3 hx5 hx6 hx7 hrr6_ (hzz4_.1 _ _ (by decide)) r_1 (lv_sub hl [1, 2, 3, 4, 5, 6, 0] rfl)
set_option maxRecDepth 100000 in
set_option maxHeartbeats 4000000 in
theorem w_X11_minutes_L139 {RR : Int × ZI} (S : CallFix p m c cX11_minutes 10 s args Ztbl RX11) (hr : meth.sig.returnType = some .int) (hlk : meth.locks = false) (hR : 1 ≤ R.frames ∧ 60 * (1) ≤ R.locals) (hdj : Zdj ad) {k128 : ZI → Int → Int → Int → Option (Int × ZI)} (hk128 : ∀ (z : ZI) (x2 : Int) (x3 : Int) (x5 : Int) (H : Heap) (locs : List Loc) (ls : Array Slot), k128 z x2 x3 x5 = some RR → ZW D cA ad (ZA ad) (Zc z) s H locs → Zok z → InR x2 → InR x3 → InR x5 → lv_has ls 10 [(0, .ref (ad 68)), (2, .int (i32 (x2))), (3, .int (i32 (x3))), (5, .int (i32 (x5)))] → W p l e R s m args below meth c H locs 0 0 (MQ below (YQi D cA ad RR.1 RR.2) args s 0 0 (ZA ad)) (F0 m 128 ls [])) : ∀ (n : Nat) (z : ZI) (x2 : Int) (x3 : Int) (x5 : Int) (x6 : Int) (H : Heap) (locs : List Loc) (ls : Array Slot), X11_minutes_L139 k128 n z x2 x3 x5 x6 = some RR → ZW D cA ad (ZA ad) (Zc z) s H locs → Zok z → InR x2 → InR x3 → InR x5 → InR x6 → lv_has ls 10 [(0, .ref (ad 68)), (2, .int (i32 (x2))), (3, .int (i32 (x3))), (5, .int (i32 (x5))), (6, .int (i32 (x6)))] → W p l e R s m args below meth c H locs 0 0 (MQ below (YQi D cA ad RR.1 RR.2) args s 0 0 (ZA ad)) (F0 m 139 ls []) := by
  intro n
  induction n with
  | zero => intro z x2 x3 x5 x6 H locs ls hF; exact nomatch hF
  | succ n hk139 =>
    intro z x2 x3 x5 x6 H locs ls hF hw hzz hx2 hx3 hx5 hx6 hl
    replace hF : X11_minutes_L139b k128 (X11_minutes_L139 k128 n) z x2 x3 x5 x6 = some RR := hF
    unfold X11_minutes_L139b at hF
    refine lv_iload S.1 S.2.1 dX11_minutes_139 (lv_at hl 4 rfl) ?_
    refine lv_aload_n S.1 S.2.1 dX11_minutes_141 rfl (lv_at hl 0 rfl) ?_
    refine gg_X11_193 S hw dX11_minutes_142 ?_
    refine Yicmp_ge (tgt := 259) S hx6 (hzz.1 68 12 (by decide)) dX11_minutes_145 (by decide) (fun c1_ => ?_) (fun c1_ => ?_)
    · replace hF := ZtP c1_ hF
      exact w_X11_minutes_b259 S hr hlk hR hdj hk128 _ _ _ _ _ _ _ hF hw hzz hx2 hx3 hx5 (lv_sub hl [0, 1, 2, 3] rfl)
    · replace hF := ZtN c1_ hF
      refine lv_iconst (v := i32 0) S.1 S.2.1 dX11_minutes_148 ic_0 ?_
      refine lv_istore (lv' := [(7, .int (i32 (0))), (0, .ref (ad 68)), (2, .int (i32 (x2))), (3, .int (i32 (x3))), (5, .int (i32 (x5))), (6, .int (i32 (x6)))]) S.1 S.2.1 dX11_minutes_149 hl (by decide) rfl (fun ls hl => ?_)
      exact w_X11_minutes_L151 S hr hlk hR hdj hk128 hk139 Zfuel _ _ _ _ _ _ _ _ _ hF hw hzz hx2 hx3 hx5 hx6 r_0 (lv_sub hl [1, 2, 3, 4, 5, 0] rfl)
set_option maxRecDepth 100000 in
set_option maxHeartbeats 4000000 in
theorem w_X11_minutes_L128 {RR : Int × ZI} (S : CallFix p m c cX11_minutes 10 s args Ztbl RX11) (hr : meth.sig.returnType = some .int) (hlk : meth.locks = false) (hR : 1 ≤ R.frames ∧ 60 * (1) ≤ R.locals) (hdj : Zdj ad) : ∀ (n : Nat) (z : ZI) (x2 : Int) (x3 : Int) (x5 : Int) (H : Heap) (locs : List Loc) (ls : Array Slot), X11_minutes_L128 n z x2 x3 x5 = some RR → ZW D cA ad (ZA ad) (Zc z) s H locs → Zok z → InR x2 → InR x3 → InR x5 → lv_has ls 10 [(0, .ref (ad 68)), (2, .int (i32 (x2))), (3, .int (i32 (x3))), (5, .int (i32 (x5)))] → W p l e R s m args below meth c H locs 0 0 (MQ below (YQi D cA ad RR.1 RR.2) args s 0 0 (ZA ad)) (F0 m 128 ls []) := by
  intro n
  induction n with
  | zero => intro z x2 x3 x5 H locs ls hF; exact nomatch hF
  | succ n hk128 =>
    intro z x2 x3 x5 H locs ls hF hw hzz hx2 hx3 hx5 hl
    replace hF : X11_minutes_L128b (X11_minutes_L128 n) z x2 x3 x5 = some RR := hF
    unfold X11_minutes_L128b at hF
    refine lv_iload S.1 S.2.1 dX11_minutes_128 (lv_at hl 3 rfl) ?_
    refine Yif_eq (tgt := 262) S hx5 dX11_minutes_130 (by decide) (fun c1_ => ?_) (fun c1_ => ?_)
    · replace hF := ZtP c1_ hF
      exact w_X11_minutes_b262 S hr hlk hR hdj _ _ _ _ _ hF hw hzz hx2 (lv_sub hl [0, 1] rfl)
    · replace hF := ZtN c1_ hF
      refine lv_iconst (v := i32 0) S.1 S.2.1 dX11_minutes_133 ic_0 ?_
      refine lv_istore (lv' := [(5, .int (i32 (0))), (0, .ref (ad 68)), (2, .int (i32 (x2))), (3, .int (i32 (x3)))]) S.1 S.2.1 dX11_minutes_134 hl (by decide) rfl (fun ls hl => ?_)
      refine lv_iconst (v := i32 0) S.1 S.2.1 dX11_minutes_136 ic_0 ?_
      refine lv_istore (lv' := [(6, .int (i32 (0))), (5, .int (i32 (0))), (0, .ref (ad 68)), (2, .int (i32 (x2))), (3, .int (i32 (x3)))]) S.1 S.2.1 dX11_minutes_137 hl (by decide) rfl (fun ls hl => ?_)
      exact w_X11_minutes_L139 S hr hlk hR hdj hk128 Zfuel _ _ _ _ _ _ _ _ hF hw hzz hx2 hx3 r_0 r_0 (lv_sub hl [2, 3, 4, 1, 0] rfl)
set_option maxRecDepth 100000 in
set_option maxHeartbeats 4000000 in
theorem w_X11_minutes_b125 {RR : Int × ZI} (S : CallFix p m c cX11_minutes 10 s args Ztbl RX11) (hr : meth.sig.returnType = some .int) (hlk : meth.locks = false) (hR : 1 ≤ R.frames ∧ 60 * (1) ≤ R.locals) (hdj : Zdj ad) : ∀ (z : ZI) (x2 : Int) (x3 : Int) (H : Heap) (locs : List Loc) (ls : Array Slot), X11_minutes_b125 z x2 x3 = some RR → ZW D cA ad (ZA ad) (Zc z) s H locs → Zok z → InR x2 → InR x3 → lv_has ls 10 [(0, .ref (ad 68)), (2, .int (i32 (x2))), (3, .int (i32 (x3)))] → W p l e R s m args below meth c H locs 0 0 (MQ below (YQi D cA ad RR.1 RR.2) args s 0 0 (ZA ad)) (F0 m 125 ls []) := by
  intro z x2 x3 H locs ls hF hw hzz hx2 hx3 hl
  unfold X11_minutes_b125 at hF
  refine lv_iconst (v := i32 1) S.1 S.2.1 dX11_minutes_125 ic_1 ?_
  refine lv_istore (lv' := [(5, .int (i32 (1))), (0, .ref (ad 68)), (2, .int (i32 (x2))), (3, .int (i32 (x3)))]) S.1 S.2.1 dX11_minutes_126 hl (by decide) rfl (fun ls hl => ?_)
  exact w_X11_minutes_L128 S hr hlk hR hdj Zfuel _ _ _ _ _ _ _ hF hw hzz hx2 hx3 r_1 (lv_sub hl [1, 2, 3, 0] rfl)
set_option maxRecDepth 100000 in
set_option maxHeartbeats 4000000 in
theorem w_X11_minutes_b118 {RR : Int × ZI} (S : CallFix p m c cX11_minutes 10 s args Ztbl RX11) (hr : meth.sig.returnType = some .int) (hlk : meth.locks = false) (hR : 1 ≤ R.frames ∧ 60 * (1) ≤ R.locals) (hdj : Zdj ad) {k90 : ZI → Int → Int → Int → Int → Option (Int × ZI)} (hk90 : ∀ (z : ZI) (x1 : Int) (x2 : Int) (x3 : Int) (x5 : Int) (H : Heap) (locs : List Loc) (ls : Array Slot), k90 z x1 x2 x3 x5 = some RR → ZW D cA ad (ZA ad) (Zc z) s H locs → Zok z → InR x1 → InR x2 → InR x3 → InR x5 → lv_has ls 10 [(0, .ref (ad 68)), (1, .int (i32 (x1))), (2, .int (i32 (x2))), (3, .int (i32 (x3))), (5, .int (i32 (x5)))] → W p l e R s m args below meth c H locs 0 0 (MQ below (YQi D cA ad RR.1 RR.2) args s 0 0 (ZA ad)) (F0 m 90 ls [])) : ∀ (z : ZI) (x1 : Int) (x2 : Int) (x3 : Int) (x5 : Int) (y1 : Int) (y2 : Int) (H : Heap) (locs : List Loc) (ls : Array Slot), X11_minutes_b118 k90 z x1 x2 x3 x5 y1 y2 = some RR → ZW D cA ad (ZA ad) (Zc z) s H locs → Zok z → InR x1 → InR x2 → InR x3 → InR x5 → InR y1 → InR y2 → lv_has ls 10 [(0, .ref (ad 68)), (1, .int (i32 (x1))), (2, .int (i32 (x2))), (3, .int (i32 (x3))), (5, .int (i32 (x5)))] → W p l e R s m args below meth c H locs 0 0 (MQ below (YQi D cA ad RR.1 RR.2) args s 0 0 (ZA ad)) (F0 m 118 ls [.int (i32 (y2)), .int (i32 (y1)), .ref (ad 117)]) := by
  intro z x1 x2 x3 x5 y1 y2 H locs ls hF hw hzz hx1 hx2 hx3 hx5 hy1 hy2 hl
  unfold X11_minutes_b118 at hF
  obtain ⟨b1_, hF⟩ := Zgs hF
  refine Yiast S hw hzz zd_117 (by decide) hy1 hy2 b1_ dX11_minutes_118 (fun z2_ H locs ez hzz2_ hw => ?_)
  replace hF := Zle ez hF; clear ez
  obtain ⟨g3_, hF⟩ := Zgs hF
  refine lv_iinc (v := i32 (x5 + 1)) (lv' := [(5, .int (i32 (x5 + 1))), (0, .ref (ad 68)), (1, .int (i32 (x1))), (2, .int (i32 (x2))), (3, .int (i32 (x3)))]) S.1 S.2.1 dX11_minutes_119 hl (k := 4) rfl Yiinc (by decide) rfl (fun ls hl => ?_)
  refine lv_goto (tgt := 90) S.1 S.2.1 dX11_minutes_122 (by decide) ?_
  exact hk90 _ _ _ _ _ _ _ _ hF hw hzz2_ hx1 hx2 hx3 g3_ (lv_sub hl [1, 2, 3, 4, 0] rfl)
set_option maxRecDepth 100000 in
set_option maxHeartbeats 4000000 in
theorem w_X11_minutes_L90 {RR : Int × ZI} (S : CallFix p m c cX11_minutes 10 s args Ztbl RX11) (hr : meth.sig.returnType = some .int) (hlk : meth.locks = false) (hR : 1 ≤ R.frames ∧ 60 * (1) ≤ R.locals) (hdj : Zdj ad) : ∀ (n : Nat) (z : ZI) (x1 : Int) (x2 : Int) (x3 : Int) (x5 : Int) (H : Heap) (locs : List Loc) (ls : Array Slot), X11_minutes_L90 n z x1 x2 x3 x5 = some RR → ZW D cA ad (ZA ad) (Zc z) s H locs → Zok z → InR x1 → InR x2 → InR x3 → InR x5 → lv_has ls 10 [(0, .ref (ad 68)), (1, .int (i32 (x1))), (2, .int (i32 (x2))), (3, .int (i32 (x3))), (5, .int (i32 (x5)))] → W p l e R s m args below meth c H locs 0 0 (MQ below (YQi D cA ad RR.1 RR.2) args s 0 0 (ZA ad)) (F0 m 90 ls []) := by
  intro n
  induction n with
  | zero => intro z x1 x2 x3 x5 H locs ls hF; exact nomatch hF
  | succ n hk90 =>
    intro z x1 x2 x3 x5 H locs ls hF hw hzz hx1 hx2 hx3 hx5 hl
    replace hF : X11_minutes_L90b (X11_minutes_L90 n) z x1 x2 x3 x5 = some RR := hF
    unfold X11_minutes_L90b at hF
    refine lv_iload S.1 S.2.1 dX11_minutes_90 (lv_at hl 4 rfl) ?_
    refine lv_aload_n S.1 S.2.1 dX11_minutes_92 rfl (lv_at hl 0 rfl) ?_
    refine gg_X11_193 S hw dX11_minutes_93 ?_
    refine Yicmp_ge (tgt := 125) S hx5 (hzz.1 68 12 (by decide)) dX11_minutes_96 (by decide) (fun c1_ => ?_) (fun c1_ => ?_)
    · replace hF := ZtP c1_ hF
      exact w_X11_minutes_b125 S hr hlk hR hdj _ _ _ _ _ _ hF hw hzz hx2 hx3 (lv_sub hl [0, 2, 3] rfl)
    · replace hF := ZtN c1_ hF
      refine lv_aload_n S.1 S.2.1 dX11_minutes_99 rfl (lv_at hl 0 rfl) ?_
      refine gf_X11_156 S hw dX11_minutes_100 ?_
      refine lv_iload S.1 S.2.1 dX11_minutes_103 (lv_at hl 4 rfl) ?_
      refine lv_iload S.1 S.2.1 dX11_minutes_105 (lv_at hl 4 rfl) ?_
      refine lv_iload_n S.1 S.2.1 dX11_minutes_107 rfl (lv_at hl 1 rfl) ?_
      refine Yicmp_ne (tgt := 115) S hx5 hx1 dX11_minutes_108 (by decide) (fun c2_ => ?_) (fun c2_ => ?_)
      · replace hF := ZtN c2_ hF
        refine lv_ldcw (own := RX11) (v := i32 1000000) S.1 S.2.1 S.2.2.2.1 (S.2.2.2.2 _ yc_X11_433) dX11_minutes_115 ?_
        exact w_X11_minutes_b118 S hr hlk hR hdj hk90 _ _ _ _ _ _ _ _ _ _ hF hw hzz hx1 hx2 hx3 hx5 hx5 r_1000000 (lv_sub hl [0, 1, 2, 3, 4] rfl)
      · replace hF := ZtP c2_ hF
        refine lv_iconst (v := i32 0) S.1 S.2.1 dX11_minutes_111 ic_0 ?_
        refine lv_goto (tgt := 118) S.1 S.2.1 dX11_minutes_112 (by decide) ?_
        exact w_X11_minutes_b118 S hr hlk hR hdj hk90 _ _ _ _ _ _ _ _ _ _ hF hw hzz hx1 hx2 hx3 hx5 hx5 r_0 (lv_sub hl [0, 1, 2, 3, 4] rfl)
set_option maxRecDepth 100000 in
set_option maxHeartbeats 4000000 in
theorem c_X11_minutes {l : Launch} {D : va_G} {cA : Nat → ClassId} {ad : Nat → Nat} (hdj : Zdj ad) {z z1 : ZI} {x1 : Int} {x2 : Int} {x3 : Int} {x4 : Int} {r : Int} (hzz : Zok z) (hx1 : InR x1) (hx2 : InR x2) (hx3 : InR x3) (hx4 : InR x4) (hF : F_X11_minutes z x1 x2 x3 x4 = some (r, z1)) : YMi l D cA ad (1) yX11_minutes cX11_minutes 10 (some .int) [.ref (ad 68), .int (i32 x1), .int (i32 x2), .int (i32 x3), .int (i32 x4)] z r z1 :=
  Zmet hdj (by decide) rfl (Nat.le_of_ble_eq_true rfl) (lv := [(0, .ref (ad 68)), (1, .int (i32 (x1))), (2, .int (i32 (x2))), (3, .int (i32 (x3))), (4, .int (i32 (x4)))]) rfl (fun p e s m args below meth c ls S hr hlk hw hl => by
    have hR : 1 ≤ (Zrm (1)).frames ∧ 60 * (1) ≤ (Zrm (1)).locals := ⟨Nat.le_refl _, Nat.le_refl _⟩
    unfold F_X11_minutes at hF
    revert hR
    generalize Zrm (1) = R
    intro hR
    refine lv_aload_n S.1 S.2.1 dX11_minutes_0 rfl (lv_at hl 0 rfl) ?_
    refine lv_iload_n S.1 S.2.1 dX11_minutes_1 rfl (lv_at hl 1 rfl) ?_
    obtain ⟨r3_, z1_, h2_, hF⟩ := Ybs hF
    refine YcallVi (rest := []) S hw (c_X11_isHouse hdj hzz hx1 h2_) my_X11_isHouse mi_X11_isHouse ml_X11_233 zd_68 zc_X11 rfl (Zrr hR (by decide)) ⟨Nat.zero_le _, Nat.zero_le _⟩ hl.1 rfl rfl (Nat.le_of_ble_eq_true rfl) dX11_minutes_2 (fun hrr3_ hzz1_ H locs hw => ?_)
    refine Yif_eq (tgt := 35) S hrr3_ dX11_minutes_5 (by decide) (fun c4_ => ?_) (fun c4_ => ?_)
    · replace hF := ZtP c4_ hF
      exact w_X11_minutes_b35 S hr hlk hR hdj _ _ _ _ hF hw hzz1_  (lv_sub hl [0] rfl)
    · replace hF := ZtN c4_ hF
      refine lv_aload_n S.1 S.2.1 dX11_minutes_8 rfl (lv_at hl 0 rfl) ?_
      refine lv_iload_n S.1 S.2.1 dX11_minutes_9 rfl (lv_at hl 2 rfl) ?_
      obtain ⟨r7_, z5_, h6_, hF⟩ := Ybs hF
      refine YcallVi (rest := []) S hw (c_X11_isHouse hdj hzz1_ hx2 h6_) my_X11_isHouse mi_X11_isHouse ml_X11_233 zd_68 zc_X11 rfl (Zrr hR (by decide)) ⟨Nat.zero_le _, Nat.zero_le _⟩ hl.1 rfl rfl (Nat.le_of_ble_eq_true rfl) dX11_minutes_10 (fun hrr7_ hzz5_ H locs hw => ?_)
      refine Yif_eq (tgt := 35) S hrr7_ dX11_minutes_13 (by decide) (fun c8_ => ?_) (fun c8_ => ?_)
      · replace hF := ZtP c8_ hF
        exact w_X11_minutes_b35 S hr hlk hR hdj _ _ _ _ hF hw hzz5_  (lv_sub hl [0] rfl)
      · replace hF := ZtN c8_ hF
        refine lv_iload S.1 S.2.1 dX11_minutes_16 (lv_at hl 4 rfl) ?_
        refine Yi2l S hx4 dX11_minutes_18 ?_
        refine lv_lconst (v := i64 0) S.1 S.2.1 dX11_minutes_19 lc_0 ?_
        refine lv_iconst (v := i32 1) S.1 S.2.1 dX11_minutes_20 ic_1 ?_
        refine lv_aload_n S.1 S.2.1 dX11_minutes_21 rfl (lv_at hl 0 rfl) ?_
        refine gg_X11_427 S hw dX11_minutes_22 ?_
        refine Yishl S dX11_minutes_25 ?_
        refine lv_iconst (v := i32 1) S.1 S.2.1 dX11_minutes_26 ic_1 ?_
        obtain ⟨g9_, hF⟩ := Zgs hF
        refine Yisub S dX11_minutes_27 ?_
        refine Yi2l S g9_ dX11_minutes_28 ?_
        obtain ⟨r12_, z10_, h11_, hF⟩ := Ybs hF
        refine YcallSi (rest := []) S hw (c_X11_isIn hdj hzz5_ (InR_L hx4) (InR_L r_0) (InR_L g9_) h11_) my_X11_isIn ms_X11_isIn ml_X11_226 (Zrr hR (by decide)) ⟨Nat.zero_le _, Nat.zero_le _⟩ hl.1 rfl rfl (Nat.le_of_ble_eq_true rfl) dX11_minutes_29 (fun hrr12_ hzz10_ H locs hw => ?_)
        refine Yif_ne (tgt := 41) S hrr12_ dX11_minutes_32 (by decide) (fun c13_ => ?_) (fun c13_ => ?_)
        · replace hF := ZtN c13_ hF
          refine lv_iload_n S.1 S.2.1 dX11_minutes_41 rfl (lv_at hl 3 rfl) ?_
          refine Yi2l S hx3 dX11_minutes_42 ?_
          refine lv_lconst (v := i64 0) S.1 S.2.1 dX11_minutes_43 lc_0 ?_
          refine lv_ldc2 (own := RX11) (v := i64 3) S.1 S.2.1 S.2.2.2.1 (S.2.2.2.2 _ yl_X11_224) dX11_minutes_44 ?_
          obtain ⟨r16_, z14_, h15_, hF⟩ := Ybs hF
          refine YcallSi (rest := []) S hw (c_X11_isIn hdj hzz10_ (InR_L hx3) (InR_L r_0) (InR_L r_3) h15_) my_X11_isIn ms_X11_isIn ml_X11_226 (Zrr hR (by decide)) ⟨Nat.zero_le _, Nat.zero_le _⟩ hl.1 rfl rfl (Nat.le_of_ble_eq_true rfl) dX11_minutes_47 (fun hrr16_ hzz14_ H locs hw => ?_)
          refine Yif_ne (tgt := 60) S hrr16_ dX11_minutes_50 (by decide) (fun c17_ => ?_) (fun c17_ => ?_)
          · replace hF := ZtN c17_ hF
            refine lv_aload_n S.1 S.2.1 dX11_minutes_60 rfl (lv_at hl 0 rfl) ?_
            refine lv_iload S.1 S.2.1 dX11_minutes_61 (lv_at hl 4 rfl) ?_
            obtain ⟨r20_, z18_, h19_, hF⟩ := Ybs hF
            refine YcallVv (rest := []) S hw (c_X11_clears hdj hzz14_ hx4 h19_) my_X11_clears mi_X11_clears ml_X11_430 zd_68 zc_X11 rfl (Zrr hR (by decide)) ⟨Nat.zero_le _, Nat.zero_le _⟩ hl.1 rfl rfl (Nat.le_of_ble_eq_true rfl) dX11_minutes_63 (fun hzz18_ H locs hw => ?_)
            refine lv_aload_n S.1 S.2.1 dX11_minutes_66 rfl (lv_at hl 0 rfl) ?_
            refine gf_X11_168 S hw dX11_minutes_67 ?_
            refine lv_iload_n S.1 S.2.1 dX11_minutes_70 rfl (lv_at hl 1 rfl) ?_
            obtain ⟨b21_, hF⟩ := Zgs hF
            refine Yzald S hw zd_121 (by decide) hx1 b21_ dX11_minutes_71 ?_
            refine Yif_ne (tgt := 84) S (hzz18_.1 _ _ (by decide)) dX11_minutes_72 (by decide) (fun c22_ => ?_) (fun c22_ => ?_)
            · replace hF := ZtN c22_ hF
              exact w_X11_minutes_b84 S hr hlk hR hdj _ _ _ _ hF hw hzz18_  (lv_sub hl [] rfl)
            · replace hF := ZtP c22_ hF
              refine lv_aload_n S.1 S.2.1 dX11_minutes_75 rfl (lv_at hl 0 rfl) ?_
              refine gf_X11_168 S hw dX11_minutes_76 ?_
              refine lv_iload_n S.1 S.2.1 dX11_minutes_79 rfl (lv_at hl 2 rfl) ?_
              obtain ⟨b23_, hF⟩ := Zgs hF
              refine Yzald S hw zd_121 (by decide) hx2 b23_ dX11_minutes_80 ?_
              refine Yif_eq (tgt := 87) S (hzz18_.1 _ _ (by decide)) dX11_minutes_81 (by decide) (fun c24_ => ?_) (fun c24_ => ?_)
              · replace hF := ZtP c24_ hF
                refine lv_iconst (v := i32 0) S.1 S.2.1 dX11_minutes_87 ic_0 ?_
                refine lv_istore (lv' := [(5, .int (i32 (0))), (0, .ref (ad 68)), (1, .int (i32 (x1))), (2, .int (i32 (x2))), (3, .int (i32 (x3))), (4, .int (i32 (x4)))]) S.1 S.2.1 dX11_minutes_88 hl (by decide) rfl (fun ls hl => ?_)
                exact w_X11_minutes_L90 S hr hlk hR hdj Zfuel _ _ _ _ _ _ _ _ hF hw hzz18_ hx1 hx2 hx3 r_0 (lv_sub hl [1, 2, 3, 4, 0] rfl)
              · replace hF := ZtN c24_ hF
                exact w_X11_minutes_b84 S hr hlk hR hdj _ _ _ _ hF hw hzz18_  (lv_sub hl [] rfl)
          · replace hF := ZtP c17_ hF
            refine lv_aload_n S.1 S.2.1 dX11_minutes_53 rfl (lv_at hl 0 rfl) ?_
            refine lv_bipush (v := i32 (-2)) S.1 S.2.1 dX11_minutes_54 bp_m2 ?_
            obtain ⟨r27_, z25_, h26_, hF⟩ := Ybs hF
            refine YcallVi (rest := []) S hw (c_X11_no hdj hzz14_ r_m2 h26_) my_X11_no mi_X11_no ml_X11_207 zd_68 zc_X11 rfl (Zrr hR (by decide)) ⟨Nat.zero_le _, Nat.zero_le _⟩ hl.1 rfl rfl (Nat.le_of_ble_eq_true rfl) dX11_minutes_56 (fun hrr27_ hzz25_ H locs hw => ?_)
            exact Yireti S hw hzz25_ hrr27_ hr hlk hF dX11_minutes_59
        · replace hF := ZtP c13_ hF
          exact w_X11_minutes_b35 S hr hlk hR hdj _ _ _ _ hF hw hzz10_  (lv_sub hl [0] rfl))
set_option maxRecDepth 100000 in
set_option maxHeartbeats 4000000 in
theorem w_X11_off_b107 {RR : Int × ZI} (S : CallFix p m c cX11_off 6 s args Ztbl RX11) (hr : meth.sig.returnType = some .int) (hlk : meth.locks = false) (hR : 2 ≤ R.frames ∧ 60 * (2) ≤ R.locals) (hdj : Zdj ad) {k65 : ZI → Int → Int → Int → Int → Option (Int × ZI)} (hk65 : ∀ (z : ZI) (x1 : Int) (x2 : Int) (x4 : Int) (x5 : Int) (H : Heap) (locs : List Loc) (ls : Array Slot), k65 z x1 x2 x4 x5 = some RR → ZW D cA ad (ZA ad) (Zc z) s H locs → Zok z → InR x1 → InR x2 → InR x4 → InR x5 → lv_has ls 6 [(0, .ref (ad 68)), (1, .int (i32 (x1))), (2, .int (i32 (x2))), (4, .int (i32 (x4))), (5, .int (i32 (x5)))] → W p l e R s m args below meth c H locs 0 0 (MQ below (YQi D cA ad RR.1 RR.2) args s 0 0 (ZA ad)) (F0 m 65 ls [])) : ∀ (z : ZI) (x1 : Int) (x2 : Int) (x5 : Int) (y0 : Int) (y1 : Int) (H : Heap) (locs : List Loc) (ls : Array Slot), X11_off_b107 k65 z x1 x2 x5 y0 y1 = some RR → ZW D cA ad (ZA ad) (Zc z) s H locs → Zok z → InR x1 → InR x2 → InR x5 → InR y0 → InR y1 → lv_has ls 6 [(0, .ref (ad 68)), (1, .int (i32 (x1))), (2, .int (i32 (x2))), (5, .int (i32 (x5)))] → W p l e R s m args below meth c H locs 0 0 (MQ below (YQi D cA ad RR.1 RR.2) args s 0 0 (ZA ad)) (F0 m 107 ls [.int (i32 (y1)), .int (i32 (y0))]) := by
  intro z x1 x2 x5 y0 y1 H locs ls hF hw hzz hx1 hx2 hx5 hy0 hy1 hl
  unfold X11_off_b107 at hF
  obtain ⟨g1_, hF⟩ := Zgs hF
  refine Yisub S dX11_off_107 ?_
  refine lv_istore (lv' := [(4, .int (i32 (y0 - y1))), (0, .ref (ad 68)), (1, .int (i32 (x1))), (2, .int (i32 (x2))), (5, .int (i32 (x5)))]) S.1 S.2.1 dX11_off_108 hl (by decide) rfl (fun ls hl => ?_)
  obtain ⟨g2_, hF⟩ := Zgs hF
  refine lv_iinc (v := i32 (x5 + 1)) (lv' := [(5, .int (i32 (x5 + 1))), (4, .int (i32 (y0 - y1))), (0, .ref (ad 68)), (1, .int (i32 (x1))), (2, .int (i32 (x2)))]) S.1 S.2.1 dX11_off_110 hl (k := 4) rfl Yiinc (by decide) rfl (fun ls hl => ?_)
  refine lv_goto (tgt := 65) S.1 S.2.1 dX11_off_113 (by decide) ?_
  exact hk65 _ _ _ _ _ _ _ _ hF hw hzz hx1 hx2 g1_ g2_ (lv_sub hl [2, 3, 4, 1, 0] rfl)
set_option maxRecDepth 100000 in
set_option maxHeartbeats 4000000 in
theorem w_X11_off_b106 {RR : Int × ZI} (S : CallFix p m c cX11_off 6 s args Ztbl RX11) (hr : meth.sig.returnType = some .int) (hlk : meth.locks = false) (hR : 2 ≤ R.frames ∧ 60 * (2) ≤ R.locals) (hdj : Zdj ad) {k65 : ZI → Int → Int → Int → Int → Option (Int × ZI)} (hk65 : ∀ (z : ZI) (x1 : Int) (x2 : Int) (x4 : Int) (x5 : Int) (H : Heap) (locs : List Loc) (ls : Array Slot), k65 z x1 x2 x4 x5 = some RR → ZW D cA ad (ZA ad) (Zc z) s H locs → Zok z → InR x1 → InR x2 → InR x4 → InR x5 → lv_has ls 6 [(0, .ref (ad 68)), (1, .int (i32 (x1))), (2, .int (i32 (x2))), (4, .int (i32 (x4))), (5, .int (i32 (x5)))] → W p l e R s m args below meth c H locs 0 0 (MQ below (YQi D cA ad RR.1 RR.2) args s 0 0 (ZA ad)) (F0 m 65 ls [])) : ∀ (z : ZI) (x1 : Int) (x2 : Int) (x5 : Int) (y0 : Int) (H : Heap) (locs : List Loc) (ls : Array Slot), X11_off_b106 k65 z x1 x2 x5 y0 = some RR → ZW D cA ad (ZA ad) (Zc z) s H locs → Zok z → InR x1 → InR x2 → InR x5 → InR y0 → lv_has ls 6 [(0, .ref (ad 68)), (1, .int (i32 (x1))), (2, .int (i32 (x2))), (5, .int (i32 (x5)))] → W p l e R s m args below meth c H locs 0 0 (MQ below (YQi D cA ad RR.1 RR.2) args s 0 0 (ZA ad)) (F0 m 106 ls [.int (i32 (y0))]) := by
  intro z x1 x2 x5 y0 H locs ls hF hw hzz hx1 hx2 hx5 hy0 hl
  unfold X11_off_b106 at hF
  refine lv_iconst (v := i32 0) S.1 S.2.1 dX11_off_106 ic_0 ?_
  exact w_X11_off_b107 S hr hlk hR hdj hk65 _ _ _ _ _ _ _ _ _ hF hw hzz hx1 hx2 hx5 hy0 r_0 (lv_sub hl [0, 1, 2, 3] rfl)
set_option maxRecDepth 100000 in
set_option maxHeartbeats 4000000 in
theorem w_X11_off_L65 {RR : Int × ZI} (S : CallFix p m c cX11_off 6 s args Ztbl RX11) (hr : meth.sig.returnType = some .int) (hlk : meth.locks = false) (hR : 2 ≤ R.frames ∧ 60 * (2) ≤ R.locals) (hdj : Zdj ad) : ∀ (n : Nat) (z : ZI) (x1 : Int) (x2 : Int) (x4 : Int) (x5 : Int) (H : Heap) (locs : List Loc) (ls : Array Slot), X11_off_L65 n z x1 x2 x4 x5 = some RR → ZW D cA ad (ZA ad) (Zc z) s H locs → Zok z → InR x1 → InR x2 → InR x4 → InR x5 → lv_has ls 6 [(0, .ref (ad 68)), (1, .int (i32 (x1))), (2, .int (i32 (x2))), (4, .int (i32 (x4))), (5, .int (i32 (x5)))] → W p l e R s m args below meth c H locs 0 0 (MQ below (YQi D cA ad RR.1 RR.2) args s 0 0 (ZA ad)) (F0 m 65 ls []) := by
  intro n
  induction n with
  | zero => intro z x1 x2 x4 x5 H locs ls hF; exact nomatch hF
  | succ n hk65 =>
    intro z x1 x2 x4 x5 H locs ls hF hw hzz hx1 hx2 hx4 hx5 hl
    replace hF : X11_off_L65b (X11_off_L65 n) z x1 x2 x4 x5 = some RR := hF
    unfold X11_off_L65b at hF
    refine lv_iload S.1 S.2.1 dX11_off_65 (lv_at hl 4 rfl) ?_
    refine lv_aload_n S.1 S.2.1 dX11_off_67 rfl (lv_at hl 0 rfl) ?_
    refine gg_X11_197 S hw dX11_off_68 ?_
    refine Yicmp_ge (tgt := 116) S hx5 (hzz.1 68 13 (by decide)) dX11_off_71 (by decide) (fun c1_ => ?_) (fun c1_ => ?_)
    · replace hF := ZtP c1_ hF
      refine lv_iload S.1 S.2.1 dX11_off_116 (lv_at hl 3 rfl) ?_
      exact Yireti S hw hzz hx4 hr hlk hF dX11_off_118
    · replace hF := ZtN c1_ hF
      refine lv_iload S.1 S.2.1 dX11_off_74 (lv_at hl 3 rfl) ?_
      refine lv_aload_n S.1 S.2.1 dX11_off_76 rfl (lv_at hl 0 rfl) ?_
      refine gf_X11_19 S hw dX11_off_77 ?_
      refine lv_aload_n S.1 S.2.1 dX11_off_80 rfl (lv_at hl 0 rfl) ?_
      refine gf_X11_22 S hw dX11_off_81 ?_
      refine lv_iload S.1 S.2.1 dX11_off_84 (lv_at hl 4 rfl) ?_
      obtain ⟨b2_, hF⟩ := Zgs hF
      refine Yiald S hw zd_73 (by decide) hx5 b2_ dX11_off_86 ?_
      obtain ⟨b3_, hF⟩ := Zgs hF
      refine Yiald S hw zd_72 (by decide) (hzz.1 _ _ (by decide)) b3_ dX11_off_87 ?_
      refine lv_iload_n S.1 S.2.1 dX11_off_88 rfl (lv_at hl 1 rfl) ?_
      refine Yicmp_ne (tgt := 106) S (hzz.1 _ _ (by decide)) hx1 dX11_off_89 (by decide) (fun c4_ => ?_) (fun c4_ => ?_)
      · replace hF := ZtN c4_ hF
        exact w_X11_off_b106 S hr hlk hR hdj hk65 _ _ _ _ _ _ _ _ hF hw hzz hx1 hx2 hx5 hx4 (lv_sub hl [0, 1, 2, 4] rfl)
      · replace hF := ZtP c4_ hF
        refine lv_aload_n S.1 S.2.1 dX11_off_92 rfl (lv_at hl 0 rfl) ?_
        refine lv_iload S.1 S.2.1 dX11_off_93 (lv_at hl 4 rfl) ?_
        refine lv_iload_n S.1 S.2.1 dX11_off_95 rfl (lv_at hl 2 rfl) ?_
        obtain ⟨r7_, z5_, h6_, hF⟩ := Ybs hF
        refine YcallVi (rest := [.int (i32 (x4))]) S hw (c_X11_isHere hdj hzz hx5 hx2 h6_) my_X11_isHere mi_X11_isHere ml_X11_258 zd_68 zc_X11 rfl (Zrr hR (by decide)) ⟨Nat.zero_le _, Nat.zero_le _⟩ hl.1 rfl rfl (Nat.le_of_ble_eq_true rfl) dX11_off_96 (fun hrr7_ hzz5_ H locs hw => ?_)
        refine Yif_eq (tgt := 106) S hrr7_ dX11_off_99 (by decide) (fun c8_ => ?_) (fun c8_ => ?_)
        · replace hF := ZtP c8_ hF
          exact w_X11_off_b106 S hr hlk hR hdj hk65 _ _ _ _ _ _ _ _ hF hw hzz5_ hx1 hx2 hx5 hx4 (lv_sub hl [0, 1, 2, 4] rfl)
        · replace hF := ZtN c8_ hF
          refine lv_iconst (v := i32 1) S.1 S.2.1 dX11_off_102 ic_1 ?_
          refine lv_goto (tgt := 107) S.1 S.2.1 dX11_off_103 (by decide) ?_
          exact w_X11_off_b107 S hr hlk hR hdj hk65 _ _ _ _ _ _ _ _ _ hF hw hzz5_ hx1 hx2 hx5 hx4 r_1 (lv_sub hl [0, 1, 2, 4] rfl)
set_option maxRecDepth 100000 in
set_option maxHeartbeats 4000000 in
theorem c_X11_off {l : Launch} {D : va_G} {cA : Nat → ClassId} {ad : Nat → Nat} (hdj : Zdj ad) {z z1 : ZI} {x1 : Int} {x2 : Int} {r : Int} (hzz : Zok z) (hx1 : InR x1) (hx2 : InR x2) (hF : F_X11_off z x1 x2 = some (r, z1)) : YMi l D cA ad (2) yX11_off cX11_off 6 (some .int) [.ref (ad 68), .int (i32 x1), .int (i32 x2)] z r z1 :=
  Zmet hdj (by decide) rfl (Nat.le_of_ble_eq_true rfl) (lv := [(0, .ref (ad 68)), (1, .int (i32 (x1))), (2, .int (i32 (x2)))]) rfl (fun p e s m args below meth c ls S hr hlk hw hl => by
    have hR : 2 ≤ (Zrm (2)).frames ∧ 60 * (2) ≤ (Zrm (2)).locals := ⟨Nat.le_refl _, Nat.le_refl _⟩
    unfold F_X11_off at hF
    revert hR
    generalize Zrm (2) = R
    intro hR
    refine lv_iload_n S.1 S.2.1 dX11_off_0 rfl (lv_at hl 1 rfl) ?_
    refine Yi2l S hx1 dX11_off_1 ?_
    refine lv_lconst (v := i64 0) S.1 S.2.1 dX11_off_2 lc_0 ?_
    refine lv_ldc2 (own := RX11) (v := i64 3) S.1 S.2.1 S.2.2.2.1 (S.2.2.2.2 _ yl_X11_224) dX11_off_3 ?_
    obtain ⟨r3_, z1_, h2_, hF⟩ := Ybs hF
    refine YcallSi (rest := []) S hw (c_X11_isIn hdj hzz (InR_L hx1) (InR_L r_0) (InR_L r_3) h2_) my_X11_isIn ms_X11_isIn ml_X11_226 (Zrr hR (by decide)) ⟨Nat.zero_le _, Nat.zero_le _⟩ hl.1 rfl rfl (Nat.le_of_ble_eq_true rfl) dX11_off_6 (fun hrr3_ hzz1_ H locs hw => ?_)
    refine Yif_ne (tgt := 18) S hrr3_ dX11_off_9 (by decide) (fun c4_ => ?_) (fun c4_ => ?_)
    · replace hF := ZtN c4_ hF
      refine lv_iload_n S.1 S.2.1 dX11_off_18 rfl (lv_at hl 2 rfl) ?_
      refine Yi2l S hx2 dX11_off_19 ?_
      refine lv_lconst (v := i64 0) S.1 S.2.1 dX11_off_20 lc_0 ?_
      refine lv_ldc2 (own := RX11) (v := i64 999) S.1 S.2.1 S.2.2.2.1 (S.2.2.2.2 _ yl_X11_256) dX11_off_21 ?_
      obtain ⟨r7_, z5_, h6_, hF⟩ := Ybs hF
      refine YcallSi (rest := []) S hw (c_X11_out hdj hzz1_ (InR_L hx2) (InR_L r_0) (InR_L r_999) h6_) my_X11_out ms_X11_out ml_X11_203 (Zrr hR (by decide)) ⟨Nat.zero_le _, Nat.zero_le _⟩ hl.1 rfl rfl (Nat.le_of_ble_eq_true rfl) dX11_off_24 (fun hrr7_ hzz5_ H locs hw => ?_)
      refine lv_istore_n (lv' := [(3, .int (i32 (r7_))), (0, .ref (ad 68)), (1, .int (i32 (x1))), (2, .int (i32 (x2)))]) S.1 S.2.1 dX11_off_27 rfl hl (by decide) rfl (fun ls hl => ?_)
      refine lv_iload_n S.1 S.2.1 dX11_off_28 rfl (lv_at hl 0 rfl) ?_
      refine Yif_eq (tgt := 38) S hrr7_ dX11_off_29 (by decide) (fun c8_ => ?_) (fun c8_ => ?_)
      · replace hF := ZtP c8_ hF
        refine lv_aload_n S.1 S.2.1 dX11_off_38 rfl (lv_at hl 1 rfl) ?_
        refine lv_iload_n S.1 S.2.1 dX11_off_39 rfl (lv_at hl 2 rfl) ?_
        refine lv_iload_n S.1 S.2.1 dX11_off_40 rfl (lv_at hl 3 rfl) ?_
        refine lv_aload_n S.1 S.2.1 dX11_off_41 rfl (lv_at hl 1 rfl) ?_
        refine gg_X11_200 S hw dX11_off_42 ?_
        obtain ⟨r11_, z9_, h10_, hF⟩ := Ybs hF
        refine YcallVi (rest := []) S hw (c_X11_countOf hdj hzz5_ hx1 hx2 (hzz5_.1 68 11 (by decide)) h10_) my_X11_countOf mi_X11_countOf ml_X11_459 zd_68 zc_X11 rfl (Zrr hR (by decide)) ⟨Nat.zero_le _, Nat.zero_le _⟩ hl.1 rfl rfl (Nat.le_of_ble_eq_true rfl) dX11_off_45 (fun hrr11_ hzz9_ H locs hw => ?_)
        refine lv_istore (lv' := [(4, .int (i32 (r11_))), (3, .int (i32 (r7_))), (0, .ref (ad 68)), (1, .int (i32 (x1))), (2, .int (i32 (x2)))]) S.1 S.2.1 dX11_off_48 hl (by decide) rfl (fun ls hl => ?_)
        refine lv_iload S.1 S.2.1 dX11_off_50 (lv_at hl 0 rfl) ?_
        refine Yif_ge (tgt := 62) S hrr11_ dX11_off_52 (by decide) (fun c12_ => ?_) (fun c12_ => ?_)
        · replace hF := ZtP c12_ hF
          refine lv_iconst (v := i32 0) S.1 S.2.1 dX11_off_62 ic_0 ?_
          refine lv_istore (lv' := [(5, .int (i32 (0))), (4, .int (i32 (r11_))), (3, .int (i32 (r7_))), (0, .ref (ad 68)), (1, .int (i32 (x1))), (2, .int (i32 (x2)))]) S.1 S.2.1 dX11_off_63 hl (by decide) rfl (fun ls hl => ?_)
          exact w_X11_off_L65 S hr hlk hR hdj Zfuel _ _ _ _ _ _ _ _ hF hw hzz9_ hx1 hx2 hrr11_ r_0 (lv_sub hl [3, 4, 5, 1, 0] rfl)
        · replace hF := ZtN c12_ hF
          refine lv_aload_n S.1 S.2.1 dX11_off_55 rfl (lv_at hl 2 rfl) ?_
          refine lv_bipush (v := i32 (-3)) S.1 S.2.1 dX11_off_56 bp_m3 ?_
          obtain ⟨r15_, z13_, h14_, hF⟩ := Ybs hF
          refine YcallVi (rest := []) S hw (c_X11_lower hdj hzz9_ r_m3 h14_) my_X11_lower mi_X11_lower ml_X11_338 zd_68 zc_X11 rfl (Zrr hR (by decide)) ⟨Nat.zero_le _, Nat.zero_le _⟩ hl.1 rfl rfl (Nat.le_of_ble_eq_true rfl) dX11_off_58 (fun hrr15_ hzz13_ H locs hw => ?_)
          exact Yireti S hw hzz13_ hrr15_ hr hlk hF dX11_off_61
      · replace hF := ZtN c8_ hF
        refine lv_aload_n S.1 S.2.1 dX11_off_32 rfl (lv_at hl 1 rfl) ?_
        refine lv_iload_n S.1 S.2.1 dX11_off_33 rfl (lv_at hl 0 rfl) ?_
        obtain ⟨r18_, z16_, h17_, hF⟩ := Ybs hF
        refine YcallVi (rest := []) S hw (c_X11_lower hdj hzz5_ hrr7_ h17_) my_X11_lower mi_X11_lower ml_X11_338 zd_68 zc_X11 rfl (Zrr hR (by decide)) ⟨Nat.zero_le _, Nat.zero_le _⟩ hl.1 rfl rfl (Nat.le_of_ble_eq_true rfl) dX11_off_34 (fun hrr18_ hzz16_ H locs hw => ?_)
        exact Yireti S hw hzz16_ hrr18_ hr hlk hF dX11_off_37
    · replace hF := ZtP c4_ hF
      refine lv_aload_n S.1 S.2.1 dX11_off_12 rfl (lv_at hl 0 rfl) ?_
      refine lv_iconst (v := i32 (-1)) S.1 S.2.1 dX11_off_13 ic_m1 ?_
      obtain ⟨r21_, z19_, h20_, hF⟩ := Ybs hF
      refine YcallVi (rest := []) S hw (c_X11_lower hdj hzz1_ r_m1 h20_) my_X11_lower mi_X11_lower ml_X11_338 zd_68 zc_X11 rfl (Zrr hR (by decide)) ⟨Nat.zero_le _, Nat.zero_le _⟩ hl.1 rfl rfl (Nat.le_of_ble_eq_true rfl) dX11_off_14 (fun hrr21_ hzz19_ H locs hw => ?_)
      exact Yireti S hw hzz19_ hrr21_ hr hlk hF dX11_off_17)
set_option maxRecDepth 100000 in
set_option maxHeartbeats 4000000 in
theorem w_X11_pairs_b25 {RR : Int × ZI} (S : CallFix p m c cX11_pairs 4 s args Ztbl RX11) (hr : meth.sig.returnType = some .int) (hlk : meth.locks = false) (hR : 3 ≤ R.frames ∧ 60 * (3) ≤ R.locals) (hdj : Zdj ad) : ∀ (z : ZI) (y0 : Int) (H : Heap) (locs : List Loc) (ls : Array Slot), X11_pairs_b25 z y0 = some RR → ZW D cA ad (ZA ad) (Zc z) s H locs → Zok z → InR y0 → lv_has ls 4 [] → W p l e R s m args below meth c H locs 0 0 (MQ below (YQi D cA ad RR.1 RR.2) args s 0 0 (ZA ad)) (F0 m 25 ls [.int (i32 (y0))]) := by
  intro z y0 H locs ls hF hw hzz hy0 hl
  unfold X11_pairs_b25 at hF
  exact Yireti S hw hzz hy0 hr hlk hF dX11_pairs_25
set_option maxRecDepth 100000 in
set_option maxHeartbeats 4000000 in
theorem c_X11_pairs {l : Launch} {D : va_G} {cA : Nat → ClassId} {ad : Nat → Nat} (hdj : Zdj ad) {z z1 : ZI} {x1 : Int} {x2 : Int} {r : Int} (hzz : Zok z) (hx1 : InR x1) (hx2 : InR x2) (hF : F_X11_pairs z x1 x2 = some (r, z1)) : YMi l D cA ad (3) yX11_pairs cX11_pairs 4 (some .int) [.ref (ad 68), .int (i32 x1), .int (i32 x2)] z r z1 :=
  Zmet hdj (by decide) rfl (Nat.le_of_ble_eq_true rfl) (lv := [(0, .ref (ad 68)), (1, .int (i32 (x1))), (2, .int (i32 (x2)))]) rfl (fun p e s m args below meth c ls S hr hlk hw hl => by
    have hR : 3 ≤ (Zrm (3)).frames ∧ 60 * (3) ≤ (Zrm (3)).locals := ⟨Nat.le_refl _, Nat.le_refl _⟩
    unfold F_X11_pairs at hF
    revert hR
    generalize Zrm (3) = R
    intro hR
    refine lv_aload_n S.1 S.2.1 dX11_pairs_0 rfl (lv_at hl 0 rfl) ?_
    refine lv_iload_n S.1 S.2.1 dX11_pairs_1 rfl (lv_at hl 1 rfl) ?_
    refine lv_iload_n S.1 S.2.1 dX11_pairs_2 rfl (lv_at hl 2 rfl) ?_
    obtain ⟨r3_, z1_, h2_, hF⟩ := Ybs hF
    refine YcallVi (rest := []) S hw (c_X11_notTwo hdj hzz hx1 hx2 h2_) my_X11_notTwo mi_X11_notTwo ml_X11_357 zd_68 zc_X11 rfl (Zrr hR (by decide)) ⟨Nat.zero_le _, Nat.zero_le _⟩ hl.1 rfl rfl (Nat.le_of_ble_eq_true rfl) dX11_pairs_3 (fun hrr3_ hzz1_ H locs hw => ?_)
    refine lv_istore_n (lv' := [(3, .int (i32 (r3_))), (0, .ref (ad 68)), (1, .int (i32 (x1))), (2, .int (i32 (x2)))]) S.1 S.2.1 dX11_pairs_6 rfl hl (by decide) rfl (fun ls hl => ?_)
    refine lv_iload_n S.1 S.2.1 dX11_pairs_7 rfl (lv_at hl 0 rfl) ?_
    refine Yif_eq (tgt := 19) S hrr3_ dX11_pairs_8 (by decide) (fun c4_ => ?_) (fun c4_ => ?_)
    · replace hF := ZtP c4_ hF
      refine lv_aload_n S.1 S.2.1 dX11_pairs_19 rfl (lv_at hl 1 rfl) ?_
      refine lv_iload_n S.1 S.2.1 dX11_pairs_20 rfl (lv_at hl 2 rfl) ?_
      refine lv_iload_n S.1 S.2.1 dX11_pairs_21 rfl (lv_at hl 3 rfl) ?_
      obtain ⟨r7_, z5_, h6_, hF⟩ := Ybs hF
      refine YcallVi (rest := []) S hw (c_X11_pairsOf hdj hzz1_ hx1 hx2 h6_) my_X11_pairsOf mi_X11_pairsOf ml_X11_360 zd_68 zc_X11 rfl (Zrr hR (by decide)) ⟨Nat.zero_le _, Nat.zero_le _⟩ hl.1 rfl rfl (Nat.le_of_ble_eq_true rfl) dX11_pairs_22 (fun hrr7_ hzz5_ H locs hw => ?_)
      exact w_X11_pairs_b25 S hr hlk hR hdj _ _ _ _ _ hF hw hzz5_ hrr7_ (lv_sub hl [] rfl)
    · replace hF := ZtN c4_ hF
      refine lv_aload_n S.1 S.2.1 dX11_pairs_11 rfl (lv_at hl 1 rfl) ?_
      refine lv_iload_n S.1 S.2.1 dX11_pairs_12 rfl (lv_at hl 0 rfl) ?_
      obtain ⟨r10_, z8_, h9_, hF⟩ := Ybs hF
      refine YcallVi (rest := []) S hw (c_X11_no hdj hzz1_ hrr3_ h9_) my_X11_no mi_X11_no ml_X11_207 zd_68 zc_X11 rfl (Zrr hR (by decide)) ⟨Nat.zero_le _, Nat.zero_le _⟩ hl.1 rfl rfl (Nat.le_of_ble_eq_true rfl) dX11_pairs_13 (fun hrr10_ hzz8_ H locs hw => ?_)
      refine lv_goto (tgt := 25) S.1 S.2.1 dX11_pairs_16 (by decide) ?_
      exact w_X11_pairs_b25 S hr hlk hR hdj _ _ _ _ _ hF hw hzz8_ hrr10_ (lv_sub hl [] rfl))
set_option maxRecDepth 100000 in
set_option maxHeartbeats 4000000 in
theorem w_X11_sign_b24 {RR : Int × ZI} (S : CallFix p m c cX11_sign 1 s args Ztbl RX11) (hr : meth.sig.returnType = some .int) (hlk : meth.locks = false) (hR : 0 ≤ R.frames ∧ 60 * (0) ≤ R.locals) (hdj : Zdj ad) : ∀ (z : ZI) (y0 : Int) (H : Heap) (locs : List Loc) (ls : Array Slot), X11_sign_b24 z y0 = some RR → ZW D cA ad (ZA ad) (Zc z) s H locs → Zok z → InR y0 → lv_has ls 1 [] → W p l e R s m args below meth c H locs 0 0 (MQ below (YQi D cA ad RR.1 RR.2) args s 0 0 (ZA ad)) (F0 m 24 ls [.int (i32 (y0))]) := by
  intro z y0 H locs ls hF hw hzz hy0 hl
  unfold X11_sign_b24 at hF
  exact Yireti S hw hzz hy0 hr hlk hF dX11_sign_24
set_option maxRecDepth 100000 in
set_option maxHeartbeats 4000000 in
theorem c_X11_sign {l : Launch} {D : va_G} {cA : Nat → ClassId} {ad : Nat → Nat} (hdj : Zdj ad) {z z1 : ZI} {r : Int} (hzz : Zok z) (hF : F_X11_sign z  = some (r, z1)) : YMi l D cA ad (0) yX11_sign cX11_sign 1 (some .int) [.ref (ad 68)] z r z1 :=
  Zmet hdj (by decide) rfl (Nat.le_of_ble_eq_true rfl) (lv := [(0, .ref (ad 68))]) rfl (fun p e s m args below meth c ls S hr hlk hw hl => by
    have hR : 0 ≤ (Zrm (0)).frames ∧ 60 * (0) ≤ (Zrm (0)).locals := ⟨Nat.le_refl _, Nat.le_refl _⟩
    unfold F_X11_sign at hF
    revert hR
    generalize Zrm (0) = R
    intro hR
    refine lv_aload_n S.1 S.2.1 dX11_sign_0 rfl (lv_at hl 0 rfl) ?_
    refine gg_X11_272 S hw dX11_sign_1 ?_
    refine lv_aload_n S.1 S.2.1 dX11_sign_4 rfl (lv_at hl 0 rfl) ?_
    refine gg_X11_267 S hw dX11_sign_5 ?_
    refine Yicmp_ge (tgt := 23) S (hzz.1 68 23 (by decide)) (hzz.1 68 21 (by decide)) dX11_sign_8 (by decide) (fun c1_ => ?_) (fun c1_ => ?_)
    · replace hF := ZtP c1_ hF
      refine lv_iconst (v := i32 (-1)) S.1 S.2.1 dX11_sign_23 ic_m1 ?_
      exact w_X11_sign_b24 S hr hlk hR hdj _ _ _ _ _ hF hw hzz r_m1 (lv_sub hl [] rfl)
    · replace hF := ZtN c1_ hF
      refine lv_aload_n S.1 S.2.1 dX11_sign_11 rfl (lv_at hl 0 rfl) ?_
      refine gf_X11_43 S hw dX11_sign_12 ?_
      refine lv_aload_n S.1 S.2.1 dX11_sign_15 rfl (lv_at hl 0 rfl) ?_
      refine gg_X11_272 S hw dX11_sign_16 ?_
      obtain ⟨b2_, hF⟩ := Zgs hF
      refine Yiald S hw zd_80 (by decide) (hzz.1 68 23 (by decide)) b2_ dX11_sign_19 ?_
      refine lv_goto (tgt := 24) S.1 S.2.1 dX11_sign_20 (by decide) ?_
      exact w_X11_sign_b24 S hr hlk hR hdj _ _ _ _ _ hF hw hzz (hzz.1 _ _ (by decide)) (lv_sub hl [] rfl))
set_option maxRecDepth 100000 in
set_option maxHeartbeats 4000000 in
theorem w_X11_parses_b216 {RR : Int × ZI} (S : CallFix p m c cX11_parses 4 s args Ztbl RX11) (hr : meth.sig.returnType = some .boolean) (hlk : meth.locks = false) (hR : 1 ≤ R.frames ∧ 60 * (1) ≤ R.locals) (hdj : Zdj ad) {k9 : ZI → Int → Int → Option (Int × ZI)} (hk9 : ∀ (z : ZI) (x1 : Int) (x2 : Int) (H : Heap) (locs : List Loc) (ls : Array Slot), k9 z x1 x2 = some RR → ZW D cA ad (ZA ad) (Zc z) s H locs → Zok z → InR x1 → InR x2 → lv_has ls 4 [(0, .ref (ad 68)), (1, .int (i32 (x1))), (2, .int (i32 (x2)))] → W p l e R s m args below meth c H locs 0 0 (MQ below (YQi D cA ad RR.1 RR.2) args s 0 0 (ZA ad)) (F0 m 9 ls [])) : ∀ (z : ZI) (x1 : Int) (x2 : Int) (H : Heap) (locs : List Loc) (ls : Array Slot), X11_parses_b216 k9 z x1 x2 = some RR → ZW D cA ad (ZA ad) (Zc z) s H locs → Zok z → InR x1 → InR x2 → lv_has ls 4 [(0, .ref (ad 68)), (1, .int (i32 (x1))), (2, .int (i32 (x2)))] → W p l e R s m args below meth c H locs 0 0 (MQ below (YQi D cA ad RR.1 RR.2) args s 0 0 (ZA ad)) (F0 m 216 ls []) := by
  intro z x1 x2 H locs ls hF hw hzz hx1 hx2 hl
  unfold X11_parses_b216 at hF
  refine lv_aload_n S.1 S.2.1 dX11_parses_216 rfl (lv_at hl 0 rfl) ?_
  refine lv_dup S.1 S.2.1 dX11_parses_217 rfl ?_
  refine gg_X11_272 S hw dX11_parses_218 ?_
  refine lv_iconst (v := i32 1) S.1 S.2.1 dX11_parses_221 ic_1 ?_
  obtain ⟨g1_, hF⟩ := Zgs hF
  refine Yiadd S dX11_parses_222 ?_
  refine pp_X11_272 S hw hzz g1_ dX11_parses_223 (fun z2_ H locs ez hzz2_ hw => ?_)
  replace hF := Zle ez hF; clear ez
  refine lv_goto (tgt := 9) S.1 S.2.1 dX11_parses_226 (by decide) ?_
  exact hk9 _ _ _ _ _ _ hF hw hzz2_ hx1 hx2 (lv_sub hl [0, 1, 2] rfl)
set_option maxRecDepth 100000 in
set_option maxHeartbeats 4000000 in
theorem w_X11_parses_b190 {RR : Int × ZI} (S : CallFix p m c cX11_parses 4 s args Ztbl RX11) (hr : meth.sig.returnType = some .boolean) (hlk : meth.locks = false) (hR : 1 ≤ R.frames ∧ 60 * (1) ≤ R.locals) (hdj : Zdj ad) {k9 : ZI → Int → Int → Option (Int × ZI)} (hk9 : ∀ (z : ZI) (x1 : Int) (x2 : Int) (H : Heap) (locs : List Loc) (ls : Array Slot), k9 z x1 x2 = some RR → ZW D cA ad (ZA ad) (Zc z) s H locs → Zok z → InR x1 → InR x2 → lv_has ls 4 [(0, .ref (ad 68)), (1, .int (i32 (x1))), (2, .int (i32 (x2)))] → W p l e R s m args below meth c H locs 0 0 (MQ below (YQi D cA ad RR.1 RR.2) args s 0 0 (ZA ad)) (F0 m 9 ls [])) : ∀ (z : ZI) (x1 : Int) (x2 : Int) (x3 : Int) (H : Heap) (locs : List Loc) (ls : Array Slot), X11_parses_b190 k9 z x1 x2 x3 = some RR → ZW D cA ad (ZA ad) (Zc z) s H locs → Zok z → InR x1 → InR x2 → InR x3 → lv_has ls 4 [(0, .ref (ad 68)), (1, .int (i32 (x1))), (2, .int (i32 (x2))), (3, .int (i32 (x3)))] → W p l e R s m args below meth c H locs 0 0 (MQ below (YQi D cA ad RR.1 RR.2) args s 0 0 (ZA ad)) (F0 m 190 ls []) := by
  intro z x1 x2 x3 H locs ls hF hw hzz hx1 hx2 hx3 hl
  unfold X11_parses_b190 at hF
  refine lv_iload_n S.1 S.2.1 dX11_parses_190 rfl (lv_at hl 3 rfl) ?_
  refine lv_bipush (v := i32 43) S.1 S.2.1 dX11_parses_191 bp_43 ?_
  refine Yicmp_eq (tgt := 216) S hx3 r_43 dX11_parses_193 (by decide) (fun c1_ => ?_) (fun c1_ => ?_)
  · replace hF := ZtP c1_ hF
    exact w_X11_parses_b216 S hr hlk hR hdj hk9 _ _ _ _ _ _ hF hw hzz hx1 hx2 (lv_sub hl [0, 1, 2] rfl)
  · replace hF := ZtN c1_ hF
    refine lv_iload_n S.1 S.2.1 dX11_parses_196 rfl (lv_at hl 3 rfl) ?_
    refine lv_bipush (v := i32 45) S.1 S.2.1 dX11_parses_197 bp_45 ?_
    refine Yicmp_eq (tgt := 216) S hx3 r_45 dX11_parses_199 (by decide) (fun c2_ => ?_) (fun c2_ => ?_)
    · replace hF := ZtP c2_ hF
      exact w_X11_parses_b216 S hr hlk hR hdj hk9 _ _ _ _ _ _ hF hw hzz hx1 hx2 (lv_sub hl [0, 1, 2] rfl)
    · replace hF := ZtN c2_ hF
      refine lv_iload_n S.1 S.2.1 dX11_parses_202 rfl (lv_at hl 3 rfl) ?_
      refine lv_bipush (v := i32 42) S.1 S.2.1 dX11_parses_203 bp_42 ?_
      refine Yicmp_eq (tgt := 216) S hx3 r_42 dX11_parses_205 (by decide) (fun c3_ => ?_) (fun c3_ => ?_)
      · replace hF := ZtP c3_ hF
        exact w_X11_parses_b216 S hr hlk hR hdj hk9 _ _ _ _ _ _ hF hw hzz hx1 hx2 (lv_sub hl [0, 1, 2] rfl)
      · replace hF := ZtN c3_ hF
        refine lv_iload_n S.1 S.2.1 dX11_parses_208 rfl (lv_at hl 3 rfl) ?_
        refine lv_bipush (v := i32 47) S.1 S.2.1 dX11_parses_209 bp_47 ?_
        refine Yicmp_eq (tgt := 216) S hx3 r_47 dX11_parses_211 (by decide) (fun c4_ => ?_) (fun c4_ => ?_)
        · replace hF := ZtP c4_ hF
          exact w_X11_parses_b216 S hr hlk hR hdj hk9 _ _ _ _ _ _ hF hw hzz hx1 hx2 (lv_sub hl [0, 1, 2] rfl)
        · replace hF := ZtN c4_ hF
          refine lv_iconst (v := i32 0) S.1 S.2.1 dX11_parses_214 ic_0 ?_
          exact Yiretz S hw hzz r_0 hr hlk (Or.inl rfl) hF dX11_parses_215
set_option maxRecDepth 100000 in
set_option maxHeartbeats 4000000 in
theorem w_X11_parses_b162 {RR : Int × ZI} (S : CallFix p m c cX11_parses 4 s args Ztbl RX11) (hr : meth.sig.returnType = some .boolean) (hlk : meth.locks = false) (hR : 1 ≤ R.frames ∧ 60 * (1) ≤ R.locals) (hdj : Zdj ad) {k9 : ZI → Int → Int → Option (Int × ZI)} (hk9 : ∀ (z : ZI) (x1 : Int) (x2 : Int) (H : Heap) (locs : List Loc) (ls : Array Slot), k9 z x1 x2 = some RR → ZW D cA ad (ZA ad) (Zc z) s H locs → Zok z → InR x1 → InR x2 → lv_has ls 4 [(0, .ref (ad 68)), (1, .int (i32 (x1))), (2, .int (i32 (x2)))] → W p l e R s m args below meth c H locs 0 0 (MQ below (YQi D cA ad RR.1 RR.2) args s 0 0 (ZA ad)) (F0 m 9 ls [])) : ∀ (z : ZI) (x1 : Int) (x2 : Int) (x3 : Int) (H : Heap) (locs : List Loc) (ls : Array Slot), X11_parses_b162 k9 z x1 x2 x3 = some RR → ZW D cA ad (ZA ad) (Zc z) s H locs → Zok z → InR x1 → InR x2 → InR x3 → lv_has ls 4 [(0, .ref (ad 68)), (1, .int (i32 (x1))), (2, .int (i32 (x2))), (3, .int (i32 (x3)))] → W p l e R s m args below meth c H locs 0 0 (MQ below (YQi D cA ad RR.1 RR.2) args s 0 0 (ZA ad)) (F0 m 162 ls []) := by
  intro z x1 x2 x3 H locs ls hF hw hzz hx1 hx2 hx3 hl
  unfold X11_parses_b162 at hF
  refine lv_iload_n S.1 S.2.1 dX11_parses_162 rfl (lv_at hl 3 rfl) ?_
  obtain ⟨r3_, z1_, h2_, hF⟩ := Ybs hF
  refine YcallSi (rest := []) S hw (c_X11_isCompare hdj hzz hx3 h2_) my_X11_isCompare ms_X11_isCompare ml_X11_285 (Zrr hR (by decide)) ⟨Nat.zero_le _, Nat.zero_le _⟩ hl.1 rfl rfl (Nat.le_of_ble_eq_true rfl) dX11_parses_163 (fun hrr3_ hzz1_ H locs hw => ?_)
  refine Yif_eq (tgt := 190) S hrr3_ dX11_parses_166 (by decide) (fun c4_ => ?_) (fun c4_ => ?_)
  · replace hF := ZtP c4_ hF
    exact w_X11_parses_b190 S hr hlk hR hdj hk9 _ _ _ _ _ _ _ hF hw hzz1_ hx1 hx2 hx3 (lv_sub hl [0, 1, 2, 3] rfl)
  · replace hF := ZtN c4_ hF
    refine lv_iload_n S.1 S.2.1 dX11_parses_169 rfl (lv_at hl 1 rfl) ?_
    refine Yif_le (tgt := 190) S hx1 dX11_parses_170 (by decide) (fun c5_ => ?_) (fun c5_ => ?_)
    · replace hF := ZtP c5_ hF
      exact w_X11_parses_b190 S hr hlk hR hdj hk9 _ _ _ _ _ _ _ hF hw hzz1_ hx1 hx2 hx3 (lv_sub hl [0, 1, 2, 3] rfl)
    · replace hF := ZtN c5_ hF
      refine lv_iload_n S.1 S.2.1 dX11_parses_173 rfl (lv_at hl 2 rfl) ?_
      refine lv_iload_n S.1 S.2.1 dX11_parses_174 rfl (lv_at hl 1 rfl) ?_
      refine Yishr S dX11_parses_175 ?_
      refine lv_iconst (v := i32 1) S.1 S.2.1 dX11_parses_176 ic_1 ?_
      refine Yiand S dX11_parses_177 ?_
      refine Yif_ne (tgt := 190) S (InR_of _) dX11_parses_178 (by decide) (fun c6_ => ?_) (fun c6_ => ?_)
      · replace hF := ZtN c6_ hF
        exact w_X11_parses_b190 S hr hlk hR hdj hk9 _ _ _ _ _ _ _ hF hw hzz1_ hx1 hx2 hx3 (lv_sub hl [0, 1, 2, 3] rfl)
      · replace hF := ZtP c6_ hF
        refine lv_iload_n S.1 S.2.1 dX11_parses_181 rfl (lv_at hl 2 rfl) ?_
        refine lv_iconst (v := i32 1) S.1 S.2.1 dX11_parses_182 ic_1 ?_
        refine lv_iload_n S.1 S.2.1 dX11_parses_183 rfl (lv_at hl 1 rfl) ?_
        refine Yishl S dX11_parses_184 ?_
        refine Yior S dX11_parses_185 ?_
        refine lv_istore_n (lv' := [(2, .int (i32 (jor x2 (jshl 1 x1)))), (0, .ref (ad 68)), (1, .int (i32 (x1))), (3, .int (i32 (x3)))]) S.1 S.2.1 dX11_parses_186 rfl hl (by decide) rfl (fun ls hl => ?_)
        refine lv_goto (tgt := 216) S.1 S.2.1 dX11_parses_187 (by decide) ?_
        exact w_X11_parses_b216 S hr hlk hR hdj hk9 _ _ _ _ _ _ hF hw hzz1_ hx1 (InR_of _) (lv_sub hl [1, 2, 0] rfl)
set_option maxRecDepth 100000 in
set_option maxHeartbeats 4000000 in
theorem w_X11_parses_b146 {RR : Int × ZI} (S : CallFix p m c cX11_parses 4 s args Ztbl RX11) (hr : meth.sig.returnType = some .boolean) (hlk : meth.locks = false) (hR : 1 ≤ R.frames ∧ 60 * (1) ≤ R.locals) (hdj : Zdj ad) {k9 : ZI → Int → Int → Option (Int × ZI)} (hk9 : ∀ (z : ZI) (x1 : Int) (x2 : Int) (H : Heap) (locs : List Loc) (ls : Array Slot), k9 z x1 x2 = some RR → ZW D cA ad (ZA ad) (Zc z) s H locs → Zok z → InR x1 → InR x2 → lv_has ls 4 [(0, .ref (ad 68)), (1, .int (i32 (x1))), (2, .int (i32 (x2)))] → W p l e R s m args below meth c H locs 0 0 (MQ below (YQi D cA ad RR.1 RR.2) args s 0 0 (ZA ad)) (F0 m 9 ls [])) : ∀ (z : ZI) (x1 : Int) (x2 : Int) (H : Heap) (locs : List Loc) (ls : Array Slot), X11_parses_b146 k9 z x1 x2 = some RR → ZW D cA ad (ZA ad) (Zc z) s H locs → Zok z → InR x1 → InR x2 → lv_has ls 4 [(0, .ref (ad 68)), (1, .int (i32 (x1))), (2, .int (i32 (x2)))] → W p l e R s m args below meth c H locs 0 0 (MQ below (YQi D cA ad RR.1 RR.2) args s 0 0 (ZA ad)) (F0 m 146 ls []) := by
  intro z x1 x2 H locs ls hF hw hzz hx1 hx2 hl
  unfold X11_parses_b146 at hF
  refine lv_aload_n S.1 S.2.1 dX11_parses_146 rfl (lv_at hl 0 rfl) ?_
  obtain ⟨r3_, z1_, h2_, hF⟩ := Ybs hF
  refine YcallVi (rest := []) S hw (c_X11_sign hdj hzz  h2_) my_X11_sign mi_X11_sign ml_X11_275 zd_68 zc_X11 rfl (Zrr hR (by decide)) ⟨Nat.zero_le _, Nat.zero_le _⟩ hl.1 rfl rfl (Nat.le_of_ble_eq_true rfl) dX11_parses_147 (fun hrr3_ hzz1_ H locs hw => ?_)
  refine lv_istore_n (lv' := [(3, .int (i32 (r3_))), (0, .ref (ad 68)), (1, .int (i32 (x1))), (2, .int (i32 (x2)))]) S.1 S.2.1 dX11_parses_150 rfl hl (by decide) rfl (fun ls hl => ?_)
  refine lv_iload_n S.1 S.2.1 dX11_parses_151 rfl (lv_at hl 0 rfl) ?_
  refine lv_iconst (v := i32 (-1)) S.1 S.2.1 dX11_parses_152 ic_m1 ?_
  refine Yicmp_ne (tgt := 162) S hrr3_ r_m1 dX11_parses_153 (by decide) (fun c4_ => ?_) (fun c4_ => ?_)
  · replace hF := ZtN c4_ hF
    exact w_X11_parses_b162 S hr hlk hR hdj hk9 _ _ _ _ _ _ _ hF hw hzz1_ hx1 hx2 hrr3_ (lv_sub hl [1, 2, 3, 0] rfl)
  · replace hF := ZtP c4_ hF
    refine lv_iload_n S.1 S.2.1 dX11_parses_156 rfl (lv_at hl 2 rfl) ?_
    refine Yif_ne (tgt := 162) S hx1 dX11_parses_157 (by decide) (fun c5_ => ?_) (fun c5_ => ?_)
    · replace hF := ZtN c5_ hF
      exact w_X11_parses_b162 S hr hlk hR hdj hk9 _ _ _ _ _ _ _ hF hw hzz1_ hx1 hx2 hrr3_ (lv_sub hl [1, 2, 3, 0] rfl)
    · replace hF := ZtP c5_ hF
      refine lv_iconst (v := i32 1) S.1 S.2.1 dX11_parses_160 ic_1 ?_
      exact Yiretz S hw hzz1_ r_1 hr hlk (Or.inr rfl) hF dX11_parses_161
set_option maxRecDepth 100000 in
set_option maxHeartbeats 4000000 in
theorem w_X11_parses_L117 {RR : Int × ZI} (S : CallFix p m c cX11_parses 4 s args Ztbl RX11) (hr : meth.sig.returnType = some .boolean) (hlk : meth.locks = false) (hR : 1 ≤ R.frames ∧ 60 * (1) ≤ R.locals) (hdj : Zdj ad) {k9 : ZI → Int → Int → Option (Int × ZI)} (hk9 : ∀ (z : ZI) (x1 : Int) (x2 : Int) (H : Heap) (locs : List Loc) (ls : Array Slot), k9 z x1 x2 = some RR → ZW D cA ad (ZA ad) (Zc z) s H locs → Zok z → InR x1 → InR x2 → lv_has ls 4 [(0, .ref (ad 68)), (1, .int (i32 (x1))), (2, .int (i32 (x2)))] → W p l e R s m args below meth c H locs 0 0 (MQ below (YQi D cA ad RR.1 RR.2) args s 0 0 (ZA ad)) (F0 m 9 ls [])) : ∀ (n : Nat) (z : ZI) (x1 : Int) (x2 : Int) (H : Heap) (locs : List Loc) (ls : Array Slot), X11_parses_L117 k9 n z x1 x2 = some RR → ZW D cA ad (ZA ad) (Zc z) s H locs → Zok z → InR x1 → InR x2 → lv_has ls 4 [(0, .ref (ad 68)), (1, .int (i32 (x1))), (2, .int (i32 (x2)))] → W p l e R s m args below meth c H locs 0 0 (MQ below (YQi D cA ad RR.1 RR.2) args s 0 0 (ZA ad)) (F0 m 117 ls []) := by
  intro n
  induction n with
  | zero => intro z x1 x2 H locs ls hF; exact nomatch hF
  | succ n hk117 =>
    intro z x1 x2 H locs ls hF hw hzz hx1 hx2 hl
    replace hF : X11_parses_L117b k9 (X11_parses_L117 k9 n) z x1 x2 = some RR := hF
    unfold X11_parses_L117b at hF
    refine lv_aload_n S.1 S.2.1 dX11_parses_117 rfl (lv_at hl 0 rfl) ?_
    obtain ⟨r3_, z1_, h2_, hF⟩ := Ybs hF
    refine YcallVi (rest := []) S hw (c_X11_sign hdj hzz  h2_) my_X11_sign mi_X11_sign ml_X11_275 zd_68 zc_X11 rfl (Zrr hR (by decide)) ⟨Nat.zero_le _, Nat.zero_le _⟩ hl.1 rfl rfl (Nat.le_of_ble_eq_true rfl) dX11_parses_118 (fun hrr3_ hzz1_ H locs hw => ?_)
    refine lv_bipush (v := i32 41) S.1 S.2.1 dX11_parses_121 bp_41 ?_
    refine Yicmp_ne (tgt := 146) S hrr3_ r_41 dX11_parses_123 (by decide) (fun c4_ => ?_) (fun c4_ => ?_)
    · replace hF := ZtN c4_ hF
      exact w_X11_parses_b146 S hr hlk hR hdj hk9 _ _ _ _ _ _ hF hw hzz1_ hx1 hx2 (lv_sub hl [0, 1, 2] rfl)
    · replace hF := ZtP c4_ hF
      refine lv_iload_n S.1 S.2.1 dX11_parses_126 rfl (lv_at hl 1 rfl) ?_
      refine Yif_le (tgt := 146) S hx1 dX11_parses_127 (by decide) (fun c5_ => ?_) (fun c5_ => ?_)
      · replace hF := ZtP c5_ hF
        exact w_X11_parses_b146 S hr hlk hR hdj hk9 _ _ _ _ _ _ hF hw hzz1_ hx1 hx2 (lv_sub hl [0, 1, 2] rfl)
      · replace hF := ZtN c5_ hF
        refine lv_aload_n S.1 S.2.1 dX11_parses_130 rfl (lv_at hl 0 rfl) ?_
        refine lv_dup S.1 S.2.1 dX11_parses_131 rfl ?_
        refine gg_X11_272 S hw dX11_parses_132 ?_
        refine lv_iconst (v := i32 1) S.1 S.2.1 dX11_parses_135 ic_1 ?_
        obtain ⟨g6_, hF⟩ := Zgs hF
        refine Yiadd S dX11_parses_136 ?_
        refine pp_X11_272 S hw hzz1_ g6_ dX11_parses_137 (fun z7_ H locs ez hzz7_ hw => ?_)
        replace hF := Zle ez hF; clear ez
        obtain ⟨g8_, hF⟩ := Zgs hF
        refine lv_iinc (v := i32 (x1 + (-1))) (lv' := [(1, .int (i32 (x1 + (-1)))), (0, .ref (ad 68)), (2, .int (i32 (x2)))]) S.1 S.2.1 dX11_parses_140 hl (k := 1) rfl Yiinc (by decide) rfl (fun ls hl => ?_)
        refine lv_goto (tgt := 117) S.1 S.2.1 dX11_parses_143 (by decide) ?_
        exact hk117 _ _ _ _ _ _ hF hw hzz7_ g8_ hx2 (lv_sub hl [1, 0, 2] rfl)
set_option maxRecDepth 100000 in
set_option maxHeartbeats 4000000 in
theorem w_X11_parses_L86 {RR : Int × ZI} (S : CallFix p m c cX11_parses 4 s args Ztbl RX11) (hr : meth.sig.returnType = some .boolean) (hlk : meth.locks = false) (hR : 1 ≤ R.frames ∧ 60 * (1) ≤ R.locals) (hdj : Zdj ad) {k9 : ZI → Int → Int → Option (Int × ZI)} (hk9 : ∀ (z : ZI) (x1 : Int) (x2 : Int) (H : Heap) (locs : List Loc) (ls : Array Slot), k9 z x1 x2 = some RR → ZW D cA ad (ZA ad) (Zc z) s H locs → Zok z → InR x1 → InR x2 → lv_has ls 4 [(0, .ref (ad 68)), (1, .int (i32 (x1))), (2, .int (i32 (x2)))] → W p l e R s m args below meth c H locs 0 0 (MQ below (YQi D cA ad RR.1 RR.2) args s 0 0 (ZA ad)) (F0 m 9 ls [])) : ∀ (n : Nat) (z : ZI) (x1 : Int) (x2 : Int) (x3 : Int) (H : Heap) (locs : List Loc) (ls : Array Slot), X11_parses_L86 k9 n z x1 x2 x3 = some RR → ZW D cA ad (ZA ad) (Zc z) s H locs → Zok z → InR x1 → InR x2 → InR x3 → lv_has ls 4 [(0, .ref (ad 68)), (1, .int (i32 (x1))), (2, .int (i32 (x2))), (3, .int (i32 (x3)))] → W p l e R s m args below meth c H locs 0 0 (MQ below (YQi D cA ad RR.1 RR.2) args s 0 0 (ZA ad)) (F0 m 86 ls []) := by
  intro n
  induction n with
  | zero => intro z x1 x2 x3 H locs ls hF; exact nomatch hF
  | succ n hk86 =>
    intro z x1 x2 x3 H locs ls hF hw hzz hx1 hx2 hx3 hl
    replace hF : X11_parses_L86b k9 (X11_parses_L86 k9 n) z x1 x2 x3 = some RR := hF
    unfold X11_parses_L86b at hF
    refine lv_iload_n S.1 S.2.1 dX11_parses_86 rfl (lv_at hl 3 rfl) ?_
    refine lv_iconst (v := i32 4) S.1 S.2.1 dX11_parses_87 ic_4 ?_
    refine Yicmp_ge (tgt := 117) S hx3 r_4 dX11_parses_88 (by decide) (fun c1_ => ?_) (fun c1_ => ?_)
    · replace hF := ZtP c1_ hF
      exact w_X11_parses_L117 S hr hlk hR hdj hk9 Zfuel _ _ _ _ _ _ hF hw hzz hx1 hx2 (lv_sub hl [0, 1, 2] rfl)
    · replace hF := ZtN c1_ hF
      refine lv_aload_n S.1 S.2.1 dX11_parses_91 rfl (lv_at hl 0 rfl) ?_
      obtain ⟨r4_, z2_, h3_, hF⟩ := Ybs hF
      refine YcallVi (rest := []) S hw (c_X11_sign hdj hzz  h3_) my_X11_sign mi_X11_sign ml_X11_275 zd_68 zc_X11 rfl (Zrr hR (by decide)) ⟨Nat.zero_le _, Nat.zero_le _⟩ hl.1 rfl rfl (Nat.le_of_ble_eq_true rfl) dX11_parses_92 (fun hrr4_ hzz2_ H locs hw => ?_)
      obtain ⟨r7_, z5_, h6_, hF⟩ := Ybs hF
      refine YcallSi (rest := []) S hw (c_X11_isDigit hdj hzz2_ hrr4_ h6_) my_X11_isDigit ms_X11_isDigit ml_X11_282 (Zrr hR (by decide)) ⟨Nat.zero_le _, Nat.zero_le _⟩ hl.1 rfl rfl (Nat.le_of_ble_eq_true rfl) dX11_parses_95 (fun hrr7_ hzz5_ H locs hw => ?_)
      refine Yif_eq (tgt := 117) S hrr7_ dX11_parses_98 (by decide) (fun c8_ => ?_) (fun c8_ => ?_)
      · replace hF := ZtP c8_ hF
        exact w_X11_parses_L117 S hr hlk hR hdj hk9 Zfuel _ _ _ _ _ _ hF hw hzz5_ hx1 hx2 (lv_sub hl [0, 1, 2] rfl)
      · replace hF := ZtN c8_ hF
        refine lv_aload_n S.1 S.2.1 dX11_parses_101 rfl (lv_at hl 0 rfl) ?_
        refine lv_dup S.1 S.2.1 dX11_parses_102 rfl ?_
        refine gg_X11_272 S hw dX11_parses_103 ?_
        refine lv_iconst (v := i32 1) S.1 S.2.1 dX11_parses_106 ic_1 ?_
        obtain ⟨g9_, hF⟩ := Zgs hF
        refine Yiadd S dX11_parses_107 ?_
        refine pp_X11_272 S hw hzz5_ g9_ dX11_parses_108 (fun z10_ H locs ez hzz10_ hw => ?_)
        replace hF := Zle ez hF; clear ez
        obtain ⟨g11_, hF⟩ := Zgs hF
        refine lv_iinc (v := i32 (x3 + 1)) (lv' := [(3, .int (i32 (x3 + 1))), (0, .ref (ad 68)), (1, .int (i32 (x1))), (2, .int (i32 (x2)))]) S.1 S.2.1 dX11_parses_111 hl (k := 3) rfl Yiinc (by decide) rfl (fun ls hl => ?_)
        refine lv_goto (tgt := 86) S.1 S.2.1 dX11_parses_114 (by decide) ?_
        exact hk86 _ _ _ _ _ _ _ hF hw hzz10_ hx1 hx2 g11_ (lv_sub hl [1, 2, 3, 0] rfl)
set_option maxRecDepth 100000 in
set_option maxHeartbeats 4000000 in
theorem w_X11_parses_L9 {RR : Int × ZI} (S : CallFix p m c cX11_parses 4 s args Ztbl RX11) (hr : meth.sig.returnType = some .boolean) (hlk : meth.locks = false) (hR : 1 ≤ R.frames ∧ 60 * (1) ≤ R.locals) (hdj : Zdj ad) : ∀ (n : Nat) (z : ZI) (x1 : Int) (x2 : Int) (H : Heap) (locs : List Loc) (ls : Array Slot), X11_parses_L9 n z x1 x2 = some RR → ZW D cA ad (ZA ad) (Zc z) s H locs → Zok z → InR x1 → InR x2 → lv_has ls 4 [(0, .ref (ad 68)), (1, .int (i32 (x1))), (2, .int (i32 (x2)))] → W p l e R s m args below meth c H locs 0 0 (MQ below (YQi D cA ad RR.1 RR.2) args s 0 0 (ZA ad)) (F0 m 9 ls []) := by
  intro n
  induction n with
  | zero => intro z x1 x2 H locs ls hF; exact nomatch hF
  | succ n hk9 =>
    intro z x1 x2 H locs ls hF hw hzz hx1 hx2 hl
    replace hF : X11_parses_L9b (X11_parses_L9 n) z x1 x2 = some RR := hF
    unfold X11_parses_L9b at hF
    refine lv_aload_n S.1 S.2.1 dX11_parses_9 rfl (lv_at hl 0 rfl) ?_
    obtain ⟨r3_, z1_, h2_, hF⟩ := Ybs hF
    refine YcallVi (rest := []) S hw (c_X11_sign hdj hzz  h2_) my_X11_sign mi_X11_sign ml_X11_275 zd_68 zc_X11 rfl (Zrr hR (by decide)) ⟨Nat.zero_le _, Nat.zero_le _⟩ hl.1 rfl rfl (Nat.le_of_ble_eq_true rfl) dX11_parses_10 (fun hrr3_ hzz1_ H locs hw => ?_)
    refine lv_bipush (v := i32 40) S.1 S.2.1 dX11_parses_13 bp_40 ?_
    refine Yicmp_ne (tgt := 49) S hrr3_ r_40 dX11_parses_15 (by decide) (fun c4_ => ?_) (fun c4_ => ?_)
    · replace hF := ZtN c4_ hF
      refine lv_aload_n S.1 S.2.1 dX11_parses_49 rfl (lv_at hl 0 rfl) ?_
      obtain ⟨r7_, z5_, h6_, hF⟩ := Ybs hF
      refine YcallVi (rest := []) S hw (c_X11_sign hdj hzz1_  h6_) my_X11_sign mi_X11_sign ml_X11_275 zd_68 zc_X11 rfl (Zrr hR (by decide)) ⟨Nat.zero_le _, Nat.zero_le _⟩ hl.1 rfl rfl (Nat.le_of_ble_eq_true rfl) dX11_parses_50 (fun hrr7_ hzz5_ H locs hw => ?_)
      obtain ⟨r10_, z8_, h9_, hF⟩ := Ybs hF
      refine YcallSi (rest := []) S hw (c_X11_isLetter hdj hzz5_ hrr7_ h9_) my_X11_isLetter ms_X11_isLetter ml_X11_279 (Zrr hR (by decide)) ⟨Nat.zero_le _, Nat.zero_le _⟩ hl.1 rfl rfl (Nat.le_of_ble_eq_true rfl) dX11_parses_53 (fun hrr10_ hzz8_ H locs hw => ?_)
      refine Yif_eq (tgt := 72) S hrr10_ dX11_parses_56 (by decide) (fun c11_ => ?_) (fun c11_ => ?_)
      · replace hF := ZtP c11_ hF
        refine lv_aload_n S.1 S.2.1 dX11_parses_72 rfl (lv_at hl 0 rfl) ?_
        obtain ⟨r14_, z12_, h13_, hF⟩ := Ybs hF
        refine YcallVi (rest := []) S hw (c_X11_sign hdj hzz8_  h13_) my_X11_sign mi_X11_sign ml_X11_275 zd_68 zc_X11 rfl (Zrr hR (by decide)) ⟨Nat.zero_le _, Nat.zero_le _⟩ hl.1 rfl rfl (Nat.le_of_ble_eq_true rfl) dX11_parses_73 (fun hrr14_ hzz12_ H locs hw => ?_)
        obtain ⟨r17_, z15_, h16_, hF⟩ := Ybs hF
        refine YcallSi (rest := []) S hw (c_X11_isDigit hdj hzz12_ hrr14_ h16_) my_X11_isDigit ms_X11_isDigit ml_X11_282 (Zrr hR (by decide)) ⟨Nat.zero_le _, Nat.zero_le _⟩ hl.1 rfl rfl (Nat.le_of_ble_eq_true rfl) dX11_parses_76 (fun hrr17_ hzz15_ H locs hw => ?_)
        refine Yif_ne (tgt := 84) S hrr17_ dX11_parses_79 (by decide) (fun c18_ => ?_) (fun c18_ => ?_)
        · replace hF := ZtN c18_ hF
          refine lv_iconst (v := i32 0) S.1 S.2.1 dX11_parses_84 ic_0 ?_
          refine lv_istore_n (lv' := [(3, .int (i32 (0))), (0, .ref (ad 68)), (1, .int (i32 (x1))), (2, .int (i32 (x2)))]) S.1 S.2.1 dX11_parses_85 rfl hl (by decide) rfl (fun ls hl => ?_)
          exact w_X11_parses_L86 S hr hlk hR hdj hk9 Zfuel _ _ _ _ _ _ _ hF hw hzz15_ hx1 hx2 r_0 (lv_sub hl [1, 2, 3, 0] rfl)
        · replace hF := ZtP c18_ hF
          refine lv_iconst (v := i32 0) S.1 S.2.1 dX11_parses_82 ic_0 ?_
          exact Yiretz S hw hzz15_ r_0 hr hlk (Or.inl rfl) hF dX11_parses_83
      · replace hF := ZtN c11_ hF
        refine lv_aload_n S.1 S.2.1 dX11_parses_59 rfl (lv_at hl 0 rfl) ?_
        refine lv_dup S.1 S.2.1 dX11_parses_60 rfl ?_
        refine gg_X11_272 S hw dX11_parses_61 ?_
        refine lv_iconst (v := i32 1) S.1 S.2.1 dX11_parses_64 ic_1 ?_
        obtain ⟨g19_, hF⟩ := Zgs hF
        refine Yiadd S dX11_parses_65 ?_
        refine pp_X11_272 S hw hzz8_ g19_ dX11_parses_66 (fun z20_ H locs ez hzz20_ hw => ?_)
        replace hF := Zle ez hF; clear ez
        refine lv_goto (tgt := 117) S.1 S.2.1 dX11_parses_69 (by decide) ?_
        exact w_X11_parses_L117 S hr hlk hR hdj hk9 Zfuel _ _ _ _ _ _ hF hw hzz20_ hx1 hx2 (lv_sub hl [0, 1, 2] rfl)
    · replace hF := ZtP c4_ hF
      refine lv_iload_n S.1 S.2.1 dX11_parses_18 rfl (lv_at hl 1 rfl) ?_
      refine lv_iconst (v := i32 5) S.1 S.2.1 dX11_parses_19 ic_5 ?_
      refine Yicmp_ne (tgt := 25) S hx1 r_5 dX11_parses_20 (by decide) (fun c21_ => ?_) (fun c21_ => ?_)
      · replace hF := ZtN c21_ hF
        obtain ⟨g22_, hF⟩ := Zgs hF
        refine lv_iinc (v := i32 (x1 + 1)) (lv' := [(1, .int (i32 (x1 + 1))), (0, .ref (ad 68)), (2, .int (i32 (x2)))]) S.1 S.2.1 dX11_parses_25 hl (k := 1) rfl Yiinc (by decide) rfl (fun ls hl => ?_)
        refine lv_iload_n S.1 S.2.1 dX11_parses_28 rfl (lv_at hl 2 rfl) ?_
        refine lv_iconst (v := i32 1) S.1 S.2.1 dX11_parses_29 ic_1 ?_
        refine lv_iload_n S.1 S.2.1 dX11_parses_30 rfl (lv_at hl 0 rfl) ?_
        refine Yishl S dX11_parses_31 ?_
        refine lv_iconst (v := i32 (-1)) S.1 S.2.1 dX11_parses_32 ic_m1 ?_
        refine Yixor S dX11_parses_33 ?_
        refine Yiand S dX11_parses_34 ?_
        refine lv_istore_n (lv' := [(2, .int (i32 (jand x2 (jxor (jshl 1 (x1 + 1)) (-1))))), (1, .int (i32 (x1 + 1))), (0, .ref (ad 68))]) S.1 S.2.1 dX11_parses_35 rfl hl (by decide) rfl (fun ls hl => ?_)
        refine lv_aload_n S.1 S.2.1 dX11_parses_36 rfl (lv_at hl 2 rfl) ?_
        refine lv_dup S.1 S.2.1 dX11_parses_37 rfl ?_
        refine gg_X11_272 S hw dX11_parses_38 ?_
        refine lv_iconst (v := i32 1) S.1 S.2.1 dX11_parses_41 ic_1 ?_
        obtain ⟨g23_, hF⟩ := Zgs hF
        refine Yiadd S dX11_parses_42 ?_
        refine pp_X11_272 S hw hzz1_ g23_ dX11_parses_43 (fun z24_ H locs ez hzz24_ hw => ?_)
        replace hF := Zle ez hF; clear ez
        refine lv_goto (tgt := 9) S.1 S.2.1 dX11_parses_46 (by decide) ?_
        exact hk9 _ _ _ _ _ _ hF hw hzz24_ g22_ (InR_of _) (lv_sub hl [2, 1, 0] rfl)
      · replace hF := ZtP c21_ hF
        refine lv_iconst (v := i32 0) S.1 S.2.1 dX11_parses_23 ic_0 ?_
        exact Yiretz S hw hzz1_ r_0 hr hlk (Or.inl rfl) hF dX11_parses_24
set_option maxRecDepth 100000 in
set_option maxHeartbeats 4000000 in
theorem c_X11_parses {l : Launch} {D : va_G} {cA : Nat → ClassId} {ad : Nat → Nat} (hdj : Zdj ad) {z z1 : ZI} {r : Int} (hzz : Zok z) (hF : F_X11_parses z  = some (r, z1)) : YMi l D cA ad (1) yX11_parses cX11_parses 4 (some .boolean) [.ref (ad 68)] z r z1 :=
  Zmet hdj (by decide) rfl (Nat.le_of_ble_eq_true rfl) (lv := [(0, .ref (ad 68))]) rfl (fun p e s m args below meth c ls S hr hlk hw hl => by
    have hR : 1 ≤ (Zrm (1)).frames ∧ 60 * (1) ≤ (Zrm (1)).locals := ⟨Nat.le_refl _, Nat.le_refl _⟩
    unfold F_X11_parses at hF
    revert hR
    generalize Zrm (1) = R
    intro hR
    refine lv_aload_n S.1 S.2.1 dX11_parses_0 rfl (lv_at hl 0 rfl) ?_
    refine lv_iconst (v := i32 0) S.1 S.2.1 dX11_parses_1 ic_0 ?_
    refine pp_X11_272 S hw hzz r_0 dX11_parses_2 (fun z1_ H locs ez hzz1_ hw => ?_)
    replace hF := Zle ez hF; clear ez
    refine lv_iconst (v := i32 0) S.1 S.2.1 dX11_parses_5 ic_0 ?_
    refine lv_istore_n (lv' := [(1, .int (i32 (0))), (0, .ref (ad 68))]) S.1 S.2.1 dX11_parses_6 rfl hl (by decide) rfl (fun ls hl => ?_)
    refine lv_iconst (v := i32 0) S.1 S.2.1 dX11_parses_7 ic_0 ?_
    refine lv_istore_n (lv' := [(2, .int (i32 (0))), (1, .int (i32 (0))), (0, .ref (ad 68))]) S.1 S.2.1 dX11_parses_8 rfl hl (by decide) rfl (fun ls hl => ?_)
    exact w_X11_parses_L9 S hr hlk hR hdj Zfuel _ _ _ _ _ _ hF hw hzz1_ r_0 r_0 (lv_sub hl [2, 1, 0] rfl))
set_option maxRecDepth 100000 in
set_option maxHeartbeats 4000000 in
theorem w_X11_person_b66 {RR : Int × ZI} (S : CallFix p m c cX11_person 5 s args Ztbl RX11) (hr : meth.sig.returnType = some .int) (hlk : meth.locks = false) (hR : 1 ≤ R.frames ∧ 60 * (1) ≤ R.locals) (hdj : Zdj ad) : ∀ (z : ZI) (x1 : Int) (x2 : Int) (x3 : Int) (x4 : Int) (H : Heap) (locs : List Loc) (ls : Array Slot), X11_person_b66 z x1 x2 x3 x4 = some RR → ZW D cA ad (ZA ad) (Zc z) s H locs → Zok z → InR x1 → InR x2 → InR x3 → InR x4 → lv_has ls 5 [(0, .ref (ad 68)), (1, .int (i32 (x1))), (2, .int (i32 (x2))), (3, .int (i32 (x3))), (4, .int (i32 (x4)))] → W p l e R s m args below meth c H locs 0 0 (MQ below (YQi D cA ad RR.1 RR.2) args s 0 0 (ZA ad)) (F0 m 66 ls []) := by
  intro z x1 x2 x3 x4 H locs ls hF hw hzz hx1 hx2 hx3 hx4 hl
  unfold X11_person_b66 at hF
  refine lv_iload S.1 S.2.1 dX11_person_66 (lv_at hl 4 rfl) ?_
  refine Yif_eq (tgt := 78) S hx4 dX11_person_68 (by decide) (fun c1_ => ?_) (fun c1_ => ?_)
  · replace hF := ZtP c1_ hF
    refine lv_aload_n S.1 S.2.1 dX11_person_78 rfl (lv_at hl 0 rfl) ?_
    refine gf_X11_22 S hw dX11_person_79 ?_
    refine lv_aload_n S.1 S.2.1 dX11_person_82 rfl (lv_at hl 0 rfl) ?_
    refine gg_X11_197 S hw dX11_person_83 ?_
    refine lv_iload_n S.1 S.2.1 dX11_person_86 rfl (lv_at hl 1 rfl) ?_
    obtain ⟨b2_, hF⟩ := Zgs hF
    refine Yiast S hw hzz zd_73 (by decide) (hzz.1 68 13 (by decide)) hx1 b2_ dX11_person_87 (fun z3_ H locs ez hzz3_ hw => ?_)
    replace hF := Zle ez hF; clear ez
    refine lv_aload_n S.1 S.2.1 dX11_person_88 rfl (lv_at hl 0 rfl) ?_
    refine gf_X11_25 S hw dX11_person_89 ?_
    refine lv_aload_n S.1 S.2.1 dX11_person_92 rfl (lv_at hl 0 rfl) ?_
    refine gg_X11_197 S hw dX11_person_93 ?_
    refine lv_iload_n S.1 S.2.1 dX11_person_96 rfl (lv_at hl 2 rfl) ?_
    obtain ⟨b4_, hF⟩ := Zgs hF
    refine Yiast S hw hzz3_ zd_74 (by decide) (hzz3_.1 68 13 (by decide)) hx2 b4_ dX11_person_97 (fun z5_ H locs ez hzz5_ hw => ?_)
    replace hF := Zle ez hF; clear ez
    refine lv_aload_n S.1 S.2.1 dX11_person_98 rfl (lv_at hl 0 rfl) ?_
    refine gf_X11_28 S hw dX11_person_99 ?_
    refine lv_aload_n S.1 S.2.1 dX11_person_102 rfl (lv_at hl 0 rfl) ?_
    refine gg_X11_197 S hw dX11_person_103 ?_
    refine lv_iload_n S.1 S.2.1 dX11_person_106 rfl (lv_at hl 3 rfl) ?_
    obtain ⟨b6_, hF⟩ := Zgs hF
    refine Yiast S hw hzz5_ zd_75 (by decide) (hzz5_.1 68 13 (by decide)) hx3 b6_ dX11_person_107 (fun z7_ H locs ez hzz7_ hw => ?_)
    replace hF := Zle ez hF; clear ez
    refine lv_aload_n S.1 S.2.1 dX11_person_108 rfl (lv_at hl 0 rfl) ?_
    refine gf_X11_31 S hw dX11_person_109 ?_
    refine lv_aload_n S.1 S.2.1 dX11_person_112 rfl (lv_at hl 0 rfl) ?_
    refine gg_X11_197 S hw dX11_person_113 ?_
    refine lv_aload_n S.1 S.2.1 dX11_person_116 rfl (lv_at hl 0 rfl) ?_
    refine gg_X11_200 S hw dX11_person_117 ?_
    obtain ⟨b8_, hF⟩ := Zgs hF
    refine Yiast S hw hzz7_ zd_76 (by decide) (hzz7_.1 68 13 (by decide)) (hzz7_.1 68 11 (by decide)) b8_ dX11_person_120 (fun z9_ H locs ez hzz9_ hw => ?_)
    replace hF := Zle ez hF; clear ez
    refine lv_aload_n S.1 S.2.1 dX11_person_121 rfl (lv_at hl 0 rfl) ?_
    refine lv_dup S.1 S.2.1 dX11_person_122 rfl ?_
    refine gg_X11_197 S hw dX11_person_123 ?_
    refine lv_iconst (v := i32 1) S.1 S.2.1 dX11_person_126 ic_1 ?_
    obtain ⟨g10_, hF⟩ := Zgs hF
    refine Yiadd S dX11_person_127 ?_
    refine pp_X11_197 S hw hzz9_ g10_ dX11_person_128 (fun z11_ H locs ez hzz11_ hw => ?_)
    replace hF := Zle ez hF; clear ez
    refine lv_aload_n S.1 S.2.1 dX11_person_131 rfl (lv_at hl 0 rfl) ?_
    refine gg_X11_197 S hw dX11_person_132 ?_
    refine lv_iconst (v := i32 1) S.1 S.2.1 dX11_person_135 ic_1 ?_
    obtain ⟨g12_, hF⟩ := Zgs hF
    refine Yisub S dX11_person_136 ?_
    exact Yireti S hw hzz11_ g12_ hr hlk hF dX11_person_137
  · replace hF := ZtN c1_ hF
    refine lv_aload_n S.1 S.2.1 dX11_person_71 rfl (lv_at hl 0 rfl) ?_
    refine lv_iload S.1 S.2.1 dX11_person_72 (lv_at hl 4 rfl) ?_
    obtain ⟨r15_, z13_, h14_, hF⟩ := Ybs hF
    refine YcallVi (rest := []) S hw (c_X11_no hdj hzz hx4 h14_) my_X11_no mi_X11_no ml_X11_207 zd_68 zc_X11 rfl (Zrr hR (by decide)) ⟨Nat.zero_le _, Nat.zero_le _⟩ hl.1 rfl rfl (Nat.le_of_ble_eq_true rfl) dX11_person_74 (fun hrr15_ hzz13_ H locs hw => ?_)
    exact Yireti S hw hzz13_ hrr15_ hr hlk hF dX11_person_77
set_option maxRecDepth 100000 in
set_option maxHeartbeats 4000000 in
theorem c_X11_person {l : Launch} {D : va_G} {cA : Nat → ClassId} {ad : Nat → Nat} (hdj : Zdj ad) {z z1 : ZI} {x1 : Int} {x2 : Int} {x3 : Int} {r : Int} (hzz : Zok z) (hx1 : InR x1) (hx2 : InR x2) (hx3 : InR x3) (hF : F_X11_person z x1 x2 x3 = some (r, z1)) : YMi l D cA ad (1) yX11_person cX11_person 5 (some .int) [.ref (ad 68), .int (i32 x1), .int (i32 x2), .int (i32 x3)] z r z1 :=
  Zmet hdj (by decide) rfl (Nat.le_of_ble_eq_true rfl) (lv := [(0, .ref (ad 68)), (1, .int (i32 (x1))), (2, .int (i32 (x2))), (3, .int (i32 (x3)))]) rfl (fun p e s m args below meth c ls S hr hlk hw hl => by
    have hR : 1 ≤ (Zrm (1)).frames ∧ 60 * (1) ≤ (Zrm (1)).locals := ⟨Nat.le_refl _, Nat.le_refl _⟩
    unfold F_X11_person at hF
    revert hR
    generalize Zrm (1) = R
    intro hR
    refine lv_aload_n S.1 S.2.1 dX11_person_0 rfl (lv_at hl 0 rfl) ?_
    refine lv_iload_n S.1 S.2.1 dX11_person_1 rfl (lv_at hl 1 rfl) ?_
    obtain ⟨r3_, z1_, h2_, hF⟩ := Ybs hF
    refine YcallVi (rest := []) S hw (c_X11_isHouse hdj hzz hx1 h2_) my_X11_isHouse mi_X11_isHouse ml_X11_233 zd_68 zc_X11 rfl (Zrr hR (by decide)) ⟨Nat.zero_le _, Nat.zero_le _⟩ hl.1 rfl rfl (Nat.le_of_ble_eq_true rfl) dX11_person_2 (fun hrr3_ hzz1_ H locs hw => ?_)
    refine Yif_ne (tgt := 14) S hrr3_ dX11_person_5 (by decide) (fun c4_ => ?_) (fun c4_ => ?_)
    · replace hF := ZtN c4_ hF
      refine lv_iload_n S.1 S.2.1 dX11_person_14 rfl (lv_at hl 3 rfl) ?_
      refine Yi2l S hx3 dX11_person_15 ?_
      refine lv_lconst (v := i64 0) S.1 S.2.1 dX11_person_16 lc_0 ?_
      refine lv_ldc2 (own := RX11) (v := i64 5) S.1 S.2.1 S.2.2.2.1 (S.2.2.2.2 _ yl_X11_236) dX11_person_17 ?_
      obtain ⟨r7_, z5_, h6_, hF⟩ := Ybs hF
      refine YcallSi (rest := []) S hw (c_X11_isIn hdj hzz1_ (InR_L hx3) (InR_L r_0) (InR_L r_5) h6_) my_X11_isIn ms_X11_isIn ml_X11_226 (Zrr hR (by decide)) ⟨Nat.zero_le _, Nat.zero_le _⟩ hl.1 rfl rfl (Nat.le_of_ble_eq_true rfl) dX11_person_20 (fun hrr7_ hzz5_ H locs hw => ?_)
      refine Yif_ne (tgt := 33) S hrr7_ dX11_person_23 (by decide) (fun c8_ => ?_) (fun c8_ => ?_)
      · replace hF := ZtN c8_ hF
        refine lv_iload_n S.1 S.2.1 dX11_person_33 rfl (lv_at hl 2 rfl) ?_
        refine Yi2l S hx2 dX11_person_34 ?_
        refine lv_ldc2 (own := RX11) (v := i64 (-36500)) S.1 S.2.1 S.2.2.2.1 (S.2.2.2.2 _ yl_X11_238) dX11_person_35 ?_
        refine lv_aload_n S.1 S.2.1 dX11_person_38 rfl (lv_at hl 0 rfl) ?_
        refine gg_X11_200 S hw dX11_person_39 ?_
        refine Yi2l S (hzz5_.1 68 11 (by decide)) dX11_person_42 ?_
        obtain ⟨r11_, z9_, h10_, hF⟩ := Ybs hF
        refine YcallSi (rest := []) S hw (c_X11_out hdj hzz5_ (InR_L hx2) (InR_L r_m36500) (InR_L (hzz5_.1 68 11 (by decide))) h10_) my_X11_out ms_X11_out ml_X11_203 (Zrr hR (by decide)) ⟨Nat.zero_le _, Nat.zero_le _⟩ hl.1 rfl rfl (Nat.le_of_ble_eq_true rfl) dX11_person_43 (fun hrr11_ hzz9_ H locs hw => ?_)
        refine lv_istore (lv' := [(4, .int (i32 (r11_))), (0, .ref (ad 68)), (1, .int (i32 (x1))), (2, .int (i32 (x2))), (3, .int (i32 (x3)))]) S.1 S.2.1 dX11_person_46 hl (by decide) rfl (fun ls hl => ?_)
        refine lv_iload S.1 S.2.1 dX11_person_48 (lv_at hl 0 rfl) ?_
        refine Yif_ne (tgt := 66) S hrr11_ dX11_person_50 (by decide) (fun c12_ => ?_) (fun c12_ => ?_)
        · replace hF := ZtN c12_ hF
          exact w_X11_person_b66 S hr hlk hR hdj _ _ _ _ _ _ _ _ hF hw hzz9_ hx1 hx2 hx3 hrr11_ (lv_sub hl [1, 2, 3, 4, 0] rfl)
        · replace hF := ZtP c12_ hF
          refine lv_aload_n S.1 S.2.1 dX11_person_53 rfl (lv_at hl 1 rfl) ?_
          refine gg_X11_197 S hw dX11_person_54 ?_
          refine lv_bipush (v := i32 60) S.1 S.2.1 dX11_person_57 bp_60 ?_
          refine Yicmp_ne (tgt := 66) S (hzz9_.1 68 13 (by decide)) r_60 dX11_person_59 (by decide) (fun c13_ => ?_) (fun c13_ => ?_)
          · replace hF := ZtN c13_ hF
            exact w_X11_person_b66 S hr hlk hR hdj _ _ _ _ _ _ _ _ hF hw hzz9_ hx1 hx2 hx3 hrr11_ (lv_sub hl [1, 2, 3, 4, 0] rfl)
          · replace hF := ZtP c13_ hF
            refine lv_bipush (v := i32 (-6)) S.1 S.2.1 dX11_person_62 bp_m6 ?_
            refine lv_istore (lv' := [(4, .int (i32 ((-6)))), (0, .ref (ad 68)), (1, .int (i32 (x1))), (2, .int (i32 (x2))), (3, .int (i32 (x3)))]) S.1 S.2.1 dX11_person_64 hl (by decide) rfl (fun ls hl => ?_)
            exact w_X11_person_b66 S hr hlk hR hdj _ _ _ _ _ _ _ _ hF hw hzz9_ hx1 hx2 hx3 r_m6 (lv_sub hl [1, 2, 3, 4, 0] rfl)
      · replace hF := ZtP c8_ hF
        refine lv_aload_n S.1 S.2.1 dX11_person_26 rfl (lv_at hl 0 rfl) ?_
        refine lv_bipush (v := i32 (-2)) S.1 S.2.1 dX11_person_27 bp_m2 ?_
        obtain ⟨r16_, z14_, h15_, hF⟩ := Ybs hF
        refine YcallVi (rest := []) S hw (c_X11_no hdj hzz5_ r_m2 h15_) my_X11_no mi_X11_no ml_X11_207 zd_68 zc_X11 rfl (Zrr hR (by decide)) ⟨Nat.zero_le _, Nat.zero_le _⟩ hl.1 rfl rfl (Nat.le_of_ble_eq_true rfl) dX11_person_29 (fun hrr16_ hzz14_ H locs hw => ?_)
        exact Yireti S hw hzz14_ hrr16_ hr hlk hF dX11_person_32
    · replace hF := ZtP c4_ hF
      refine lv_aload_n S.1 S.2.1 dX11_person_8 rfl (lv_at hl 0 rfl) ?_
      refine lv_iconst (v := i32 (-1)) S.1 S.2.1 dX11_person_9 ic_m1 ?_
      obtain ⟨r19_, z17_, h18_, hF⟩ := Ybs hF
      refine YcallVi (rest := []) S hw (c_X11_no hdj hzz1_ r_m1 h18_) my_X11_no mi_X11_no ml_X11_207 zd_68 zc_X11 rfl (Zrr hR (by decide)) ⟨Nat.zero_le _, Nat.zero_le _⟩ hl.1 rfl rfl (Nat.le_of_ble_eq_true rfl) dX11_person_10 (fun hrr19_ hzz17_ H locs hw => ?_)
      exact Yireti S hw hzz17_ hrr19_ hr hlk hF dX11_person_13)
set_option maxRecDepth 100000 in
set_option maxHeartbeats 4000000 in
theorem w_X11_points_b42 {RR : Int × ZI} (S : CallFix p m c cX11_points 4 s args Ztbl RX11) (hr : meth.sig.returnType = some .int) (hlk : meth.locks = false) (hR : 4 ≤ R.frames ∧ 60 * (4) ≤ R.locals) (hdj : Zdj ad) : ∀ (z : ZI) (y0 : Int) (H : Heap) (locs : List Loc) (ls : Array Slot), X11_points_b42 z y0 = some RR → ZW D cA ad (ZA ad) (Zc z) s H locs → Zok z → InR y0 → lv_has ls 4 [] → W p l e R s m args below meth c H locs 0 0 (MQ below (YQi D cA ad RR.1 RR.2) args s 0 0 (ZA ad)) (F0 m 42 ls [.int (i32 (y0))]) := by
  intro z y0 H locs ls hF hw hzz hy0 hl
  unfold X11_points_b42 at hF
  exact Yireti S hw hzz hy0 hr hlk hF dX11_points_42
set_option maxRecDepth 100000 in
set_option maxHeartbeats 4000000 in
theorem c_X11_points {l : Launch} {D : va_G} {cA : Nat → ClassId} {ad : Nat → Nat} (hdj : Zdj ad) {z z1 : ZI} {x1 : Int} {x2 : Int} {r : Int} (hzz : Zok z) (hx1 : InR x1) (hx2 : InR x2) (hF : F_X11_points z x1 x2 = some (r, z1)) : YMi l D cA ad (4) yX11_points cX11_points 4 (some .int) [.ref (ad 68), .int (i32 x1), .int (i32 x2)] z r z1 :=
  Zmet hdj (by decide) rfl (Nat.le_of_ble_eq_true rfl) (lv := [(0, .ref (ad 68)), (1, .int (i32 (x1))), (2, .int (i32 (x2)))]) rfl (fun p e s m args below meth c ls S hr hlk hw hl => by
    have hR : 4 ≤ (Zrm (4)).frames ∧ 60 * (4) ≤ (Zrm (4)).locals := ⟨Nat.le_refl _, Nat.le_refl _⟩
    unfold F_X11_points at hF
    revert hR
    generalize Zrm (4) = R
    intro hR
    refine lv_aload_n S.1 S.2.1 dX11_points_0 rfl (lv_at hl 0 rfl) ?_
    refine lv_iload_n S.1 S.2.1 dX11_points_1 rfl (lv_at hl 1 rfl) ?_
    obtain ⟨r3_, z1_, h2_, hF⟩ := Ybs hF
    refine YcallVi (rest := []) S hw (c_X11_isPerson hdj hzz hx1 h2_) my_X11_isPerson mi_X11_isPerson ml_X11_243 zd_68 zc_X11 rfl (Zrr hR (by decide)) ⟨Nat.zero_le _, Nat.zero_le _⟩ hl.1 rfl rfl (Nat.le_of_ble_eq_true rfl) dX11_points_2 (fun hrr3_ hzz1_ H locs hw => ?_)
    refine Yif_ne (tgt := 14) S hrr3_ dX11_points_5 (by decide) (fun c4_ => ?_) (fun c4_ => ?_)
    · replace hF := ZtN c4_ hF
      refine lv_iload_n S.1 S.2.1 dX11_points_14 rfl (lv_at hl 2 rfl) ?_
      refine Yi2l S hx2 dX11_points_15 ?_
      refine lv_lconst (v := i64 0) S.1 S.2.1 dX11_points_16 lc_0 ?_
      refine lv_ldc2 (own := RX11) (v := i64 999) S.1 S.2.1 S.2.2.2.1 (S.2.2.2.2 _ yl_X11_256) dX11_points_17 ?_
      obtain ⟨r7_, z5_, h6_, hF⟩ := Ybs hF
      refine YcallSi (rest := []) S hw (c_X11_out hdj hzz1_ (InR_L hx2) (InR_L r_0) (InR_L r_999) h6_) my_X11_out ms_X11_out ml_X11_203 (Zrr hR (by decide)) ⟨Nat.zero_le _, Nat.zero_le _⟩ hl.1 rfl rfl (Nat.le_of_ble_eq_true rfl) dX11_points_20 (fun hrr7_ hzz5_ H locs hw => ?_)
      refine lv_istore_n (lv' := [(3, .int (i32 (r7_))), (0, .ref (ad 68)), (1, .int (i32 (x1))), (2, .int (i32 (x2)))]) S.1 S.2.1 dX11_points_23 rfl hl (by decide) rfl (fun ls hl => ?_)
      refine lv_iload_n S.1 S.2.1 dX11_points_24 rfl (lv_at hl 0 rfl) ?_
      refine Yif_eq (tgt := 36) S hrr7_ dX11_points_25 (by decide) (fun c8_ => ?_) (fun c8_ => ?_)
      · replace hF := ZtP c8_ hF
        refine lv_aload_n S.1 S.2.1 dX11_points_36 rfl (lv_at hl 1 rfl) ?_
        refine lv_iload_n S.1 S.2.1 dX11_points_37 rfl (lv_at hl 2 rfl) ?_
        refine lv_iload_n S.1 S.2.1 dX11_points_38 rfl (lv_at hl 3 rfl) ?_
        obtain ⟨r11_, z9_, h10_, hF⟩ := Ybs hF
        refine YcallVi (rest := []) S hw (c_X11_pointsOf hdj hzz5_ hx1 hx2 h10_) my_X11_pointsOf mi_X11_pointsOf ml_X11_341 zd_68 zc_X11 rfl (Zrr hR (by decide)) ⟨Nat.zero_le _, Nat.zero_le _⟩ hl.1 rfl rfl (Nat.le_of_ble_eq_true rfl) dX11_points_39 (fun hrr11_ hzz9_ H locs hw => ?_)
        exact w_X11_points_b42 S hr hlk hR hdj _ _ _ _ _ hF hw hzz9_ hrr11_ (lv_sub hl [] rfl)
      · replace hF := ZtN c8_ hF
        refine lv_aload_n S.1 S.2.1 dX11_points_28 rfl (lv_at hl 1 rfl) ?_
        refine lv_iload_n S.1 S.2.1 dX11_points_29 rfl (lv_at hl 0 rfl) ?_
        obtain ⟨r14_, z12_, h13_, hF⟩ := Ybs hF
        refine YcallVi (rest := []) S hw (c_X11_lower hdj hzz5_ hrr7_ h13_) my_X11_lower mi_X11_lower ml_X11_338 zd_68 zc_X11 rfl (Zrr hR (by decide)) ⟨Nat.zero_le _, Nat.zero_le _⟩ hl.1 rfl rfl (Nat.le_of_ble_eq_true rfl) dX11_points_30 (fun hrr14_ hzz12_ H locs hw => ?_)
        refine lv_goto (tgt := 42) S.1 S.2.1 dX11_points_33 (by decide) ?_
        exact w_X11_points_b42 S hr hlk hR hdj _ _ _ _ _ hF hw hzz12_ hrr14_ (lv_sub hl [] rfl)
    · replace hF := ZtP c4_ hF
      refine lv_aload_n S.1 S.2.1 dX11_points_8 rfl (lv_at hl 0 rfl) ?_
      refine lv_iconst (v := i32 (-1)) S.1 S.2.1 dX11_points_9 ic_m1 ?_
      obtain ⟨r17_, z15_, h16_, hF⟩ := Ybs hF
      refine YcallVi (rest := []) S hw (c_X11_lower hdj hzz1_ r_m1 h16_) my_X11_lower mi_X11_lower ml_X11_338 zd_68 zc_X11 rfl (Zrr hR (by decide)) ⟨Nat.zero_le _, Nat.zero_le _⟩ hl.1 rfl rfl (Nat.le_of_ble_eq_true rfl) dX11_points_10 (fun hrr17_ hzz15_ H locs hw => ?_)
      exact Yireti S hw hzz15_ hrr17_ hr hlk hF dX11_points_13)
set_option maxRecDepth 100000 in
set_option maxHeartbeats 4000000 in
theorem w_X11_queue_b65 {RR : Int × ZI} (S : CallFix p m c cX11_queue 3 s args Ztbl RX11) (hr : meth.sig.returnType = some .int) (hlk : meth.locks = false) (hR : 2 ≤ R.frames ∧ 60 * (2) ≤ R.locals) (hdj : Zdj ad) : ∀ (z : ZI) (H : Heap) (locs : List Loc) (ls : Array Slot), X11_queue_b65 z  = some RR → ZW D cA ad (ZA ad) (Zc z) s H locs → Zok z → lv_has ls 3 [] → W p l e R s m args below meth c H locs 0 0 (MQ below (YQi D cA ad RR.1 RR.2) args s 0 0 (ZA ad)) (F0 m 65 ls []) := by
  intro z  H locs ls hF hw hzz  hl
  unfold X11_queue_b65 at hF
  refine lv_iconst (v := i32 1) S.1 S.2.1 dX11_queue_65 ic_1 ?_
  exact Yireti S hw hzz r_1 hr hlk hF dX11_queue_66
set_option maxRecDepth 100000 in
set_option maxHeartbeats 4000000 in
theorem w_X11_queue_b27 {RR : Int × ZI} (S : CallFix p m c cX11_queue 3 s args Ztbl RX11) (hr : meth.sig.returnType = some .int) (hlk : meth.locks = false) (hR : 2 ≤ R.frames ∧ 60 * (2) ≤ R.locals) (hdj : Zdj ad) : ∀ (z : ZI) (x1 : Int) (x2 : Int) (y0 : Int) (H : Heap) (locs : List Loc) (ls : Array Slot), X11_queue_b27 z x1 x2 y0 = some RR → ZW D cA ad (ZA ad) (Zc z) s H locs → Zok z → InR x1 → InR x2 → InR y0 → lv_has ls 3 [(0, .ref (ad 68)), (1, .int (i32 (x1))), (2, .int (i32 (x2)))] → W p l e R s m args below meth c H locs 0 0 (MQ below (YQi D cA ad RR.1 RR.2) args s 0 0 (ZA ad)) (F0 m 27 ls [.int (i32 (y0))]) := by
  intro z x1 x2 y0 H locs ls hF hw hzz hx1 hx2 hy0 hl
  unfold X11_queue_b27 at hF
  refine lv_iload_n S.1 S.2.1 dX11_queue_27 rfl (lv_at hl 2 rfl) ?_
  refine Yicmp_ne (tgt := 33) S hy0 hx2 dX11_queue_28 (by decide) (fun c1_ => ?_) (fun c1_ => ?_)
  · replace hF := ZtN c1_ hF
    refine lv_iload_n S.1 S.2.1 dX11_queue_33 rfl (lv_at hl 2 rfl) ?_
    refine Yif_eq (tgt := 60) S hx2 dX11_queue_34 (by decide) (fun c2_ => ?_) (fun c2_ => ?_)
    · replace hF := ZtP c2_ hF
      refine lv_aload_n S.1 S.2.1 dX11_queue_60 rfl (lv_at hl 0 rfl) ?_
      refine lv_iload_n S.1 S.2.1 dX11_queue_61 rfl (lv_at hl 1 rfl) ?_
      obtain ⟨r5_, z3_, h4_, hF⟩ := Ybs hF
      refine YcallVv (rest := []) S hw (c_X11_leaves hdj hzz hx1 h4_) my_X11_leaves mi_X11_leaves ml_X11_448 zd_68 zc_X11 rfl (Zrr hR (by decide)) ⟨Nat.zero_le _, Nat.zero_le _⟩ hl.1 rfl rfl (Nat.le_of_ble_eq_true rfl) dX11_queue_62 (fun hzz3_ H locs hw => ?_)
      exact w_X11_queue_b65 S hr hlk hR hdj _ _ _ _ hF hw hzz3_  (lv_sub hl [] rfl)
    · replace hF := ZtN c2_ hF
      refine lv_aload_n S.1 S.2.1 dX11_queue_37 rfl (lv_at hl 0 rfl) ?_
      refine gf_X11_171 S hw dX11_queue_38 ?_
      refine lv_aload_n S.1 S.2.1 dX11_queue_41 rfl (lv_at hl 0 rfl) ?_
      refine gg_X11_442 S hw dX11_queue_42 ?_
      refine lv_iload_n S.1 S.2.1 dX11_queue_45 rfl (lv_at hl 1 rfl) ?_
      obtain ⟨b6_, hF⟩ := Zgs hF
      refine Yiast S hw hzz zd_122 (by decide) (hzz.1 68 78 (by decide)) hx1 b6_ dX11_queue_46 (fun z7_ H locs ez hzz7_ hw => ?_)
      replace hF := Zle ez hF; clear ez
      refine lv_aload_n S.1 S.2.1 dX11_queue_47 rfl (lv_at hl 0 rfl) ?_
      refine lv_dup S.1 S.2.1 dX11_queue_48 rfl ?_
      refine gg_X11_442 S hw dX11_queue_49 ?_
      refine lv_iconst (v := i32 1) S.1 S.2.1 dX11_queue_52 ic_1 ?_
      obtain ⟨g8_, hF⟩ := Zgs hF
      refine Yiadd S dX11_queue_53 ?_
      refine pp_X11_442 S hw hzz7_ g8_ dX11_queue_54 (fun z9_ H locs ez hzz9_ hw => ?_)
      replace hF := Zle ez hF; clear ez
      refine lv_goto (tgt := 65) S.1 S.2.1 dX11_queue_57 (by decide) ?_
      exact w_X11_queue_b65 S hr hlk hR hdj _ _ _ _ hF hw hzz9_  (lv_sub hl [] rfl)
  · replace hF := ZtP c1_ hF
    refine lv_iconst (v := i32 0) S.1 S.2.1 dX11_queue_31 ic_0 ?_
    exact Yireti S hw hzz r_0 hr hlk hF dX11_queue_32
set_option maxRecDepth 100000 in
set_option maxHeartbeats 4000000 in
theorem c_X11_queue {l : Launch} {D : va_G} {cA : Nat → ClassId} {ad : Nat → Nat} (hdj : Zdj ad) {z z1 : ZI} {x1 : Int} {x2 : Int} {r : Int} (hzz : Zok z) (hx1 : InR x1) (hx2 : InR x2) (hF : F_X11_queue z x1 x2 = some (r, z1)) : YMi l D cA ad (2) yX11_queue cX11_queue 3 (some .int) [.ref (ad 68), .int (i32 x1), .int (i32 x2)] z r z1 :=
  Zmet hdj (by decide) rfl (Nat.le_of_ble_eq_true rfl) (lv := [(0, .ref (ad 68)), (1, .int (i32 (x1))), (2, .int (i32 (x2)))]) rfl (fun p e s m args below meth c ls S hr hlk hw hl => by
    have hR : 2 ≤ (Zrm (2)).frames ∧ 60 * (2) ≤ (Zrm (2)).locals := ⟨Nat.le_refl _, Nat.le_refl _⟩
    unfold F_X11_queue at hF
    revert hR
    generalize Zrm (2) = R
    intro hR
    refine lv_aload_n S.1 S.2.1 dX11_queue_0 rfl (lv_at hl 0 rfl) ?_
    refine lv_iload_n S.1 S.2.1 dX11_queue_1 rfl (lv_at hl 1 rfl) ?_
    obtain ⟨r3_, z1_, h2_, hF⟩ := Ybs hF
    refine YcallVi (rest := []) S hw (c_X11_isPerson hdj hzz hx1 h2_) my_X11_isPerson mi_X11_isPerson ml_X11_243 zd_68 zc_X11 rfl (Zrr hR (by decide)) ⟨Nat.zero_le _, Nat.zero_le _⟩ hl.1 rfl rfl (Nat.le_of_ble_eq_true rfl) dX11_queue_2 (fun hrr3_ hzz1_ H locs hw => ?_)
    refine Yif_ne (tgt := 14) S hrr3_ dX11_queue_5 (by decide) (fun c4_ => ?_) (fun c4_ => ?_)
    · replace hF := ZtN c4_ hF
      refine lv_aload_n S.1 S.2.1 dX11_queue_14 rfl (lv_at hl 0 rfl) ?_
      refine lv_iload_n S.1 S.2.1 dX11_queue_15 rfl (lv_at hl 1 rfl) ?_
      obtain ⟨r7_, z5_, h6_, hF⟩ := Ybs hF
      refine YcallVi (rest := []) S hw (c_X11_placeOf hdj hzz1_ hx1 h6_) my_X11_placeOf mi_X11_placeOf ml_X11_445 zd_68 zc_X11 rfl (Zrr hR (by decide)) ⟨Nat.zero_le _, Nat.zero_le _⟩ hl.1 rfl rfl (Nat.le_of_ble_eq_true rfl) dX11_queue_16 (fun hrr7_ hzz5_ H locs hw => ?_)
      refine Yif_lt (tgt := 26) S hrr7_ dX11_queue_19 (by decide) (fun c8_ => ?_) (fun c8_ => ?_)
      · replace hF := ZtP c8_ hF
        refine lv_iconst (v := i32 0) S.1 S.2.1 dX11_queue_26 ic_0 ?_
        exact w_X11_queue_b27 S hr hlk hR hdj _ _ _ _ _ _ _ hF hw hzz5_ hx1 hx2 r_0 (lv_sub hl [0, 1, 2] rfl)
      · replace hF := ZtN c8_ hF
        refine lv_iconst (v := i32 1) S.1 S.2.1 dX11_queue_22 ic_1 ?_
        refine lv_goto (tgt := 27) S.1 S.2.1 dX11_queue_23 (by decide) ?_
        exact w_X11_queue_b27 S hr hlk hR hdj _ _ _ _ _ _ _ hF hw hzz5_ hx1 hx2 r_1 (lv_sub hl [0, 1, 2] rfl)
    · replace hF := ZtP c4_ hF
      refine lv_aload_n S.1 S.2.1 dX11_queue_8 rfl (lv_at hl 0 rfl) ?_
      refine lv_iconst (v := i32 (-1)) S.1 S.2.1 dX11_queue_9 ic_m1 ?_
      obtain ⟨r11_, z9_, h10_, hF⟩ := Ybs hF
      refine YcallVi (rest := []) S hw (c_X11_no hdj hzz1_ r_m1 h10_) my_X11_no mi_X11_no ml_X11_207 zd_68 zc_X11 rfl (Zrr hR (by decide)) ⟨Nat.zero_le _, Nat.zero_le _⟩ hl.1 rfl rfl (Nat.le_of_ble_eq_true rfl) dX11_queue_10 (fun hrr11_ hzz9_ H locs hw => ?_)
      exact Yireti S hw hzz9_ hrr11_ hr hlk hF dX11_queue_13)
set_option maxRecDepth 100000 in
set_option maxHeartbeats 4000000 in
theorem w_X11_rule_b131 {RR : Int × ZI} (S : CallFix p m c cX11_rule 7 s args Ztbl RX11) (hr : meth.sig.returnType = some .int) (hlk : meth.locks = false) (hR : 2 ≤ R.frames ∧ 60 * (2) ≤ R.locals) (hdj : Zdj ad) : ∀ (z : ZI) (x1 : Int) (x2 : Int) (x5 : Int) (H : Heap) (locs : List Loc) (ls : Array Slot), X11_rule_b131 z x1 x2 x5 = some RR → ZW D cA ad (ZA ad) (Zc z) s H locs → Zok z → InR x1 → InR x2 → InR x5 → lv_has ls 7 [(0, .ref (ad 68)), (1, .int (i32 (x1))), (2, .int (i32 (x2))), (5, .int (i32 (x5)))] → W p l e R s m args below meth c H locs 0 0 (MQ below (YQi D cA ad RR.1 RR.2) args s 0 0 (ZA ad)) (F0 m 131 ls []) := by
  intro z x1 x2 x5 H locs ls hF hw hzz hx1 hx2 hx5 hl
  unfold X11_rule_b131 at hF
  refine lv_aload_n S.1 S.2.1 dX11_rule_131 rfl (lv_at hl 0 rfl) ?_
  refine gf_X11_49 S hw dX11_rule_132 ?_
  refine lv_aload_n S.1 S.2.1 dX11_rule_135 rfl (lv_at hl 0 rfl) ?_
  refine gg_X11_288 S hw dX11_rule_136 ?_
  refine lv_iload S.1 S.2.1 dX11_rule_139 (lv_at hl 3 rfl) ?_
  obtain ⟨b1_, hF⟩ := Zgs hF
  refine Yiast S hw hzz zd_82 (by decide) (hzz.1 68 22 (by decide)) hx5 b1_ dX11_rule_141 (fun z2_ H locs ez hzz2_ hw => ?_)
  replace hF := Zle ez hF; clear ez
  refine lv_aload_n S.1 S.2.1 dX11_rule_142 rfl (lv_at hl 0 rfl) ?_
  refine gf_X11_52 S hw dX11_rule_143 ?_
  refine lv_aload_n S.1 S.2.1 dX11_rule_146 rfl (lv_at hl 0 rfl) ?_
  refine gg_X11_288 S hw dX11_rule_147 ?_
  refine lv_iload_n S.1 S.2.1 dX11_rule_150 rfl (lv_at hl 1 rfl) ?_
  obtain ⟨b3_, hF⟩ := Zgs hF
  refine Yiast S hw hzz2_ zd_83 (by decide) (hzz2_.1 68 22 (by decide)) hx1 b3_ dX11_rule_151 (fun z4_ H locs ez hzz4_ hw => ?_)
  replace hF := Zle ez hF; clear ez
  refine lv_aload_n S.1 S.2.1 dX11_rule_152 rfl (lv_at hl 0 rfl) ?_
  refine gf_X11_55 S hw dX11_rule_153 ?_
  refine lv_aload_n S.1 S.2.1 dX11_rule_156 rfl (lv_at hl 0 rfl) ?_
  refine gg_X11_288 S hw dX11_rule_157 ?_
  refine lv_iload_n S.1 S.2.1 dX11_rule_160 rfl (lv_at hl 2 rfl) ?_
  obtain ⟨b5_, hF⟩ := Zgs hF
  refine Yiast S hw hzz4_ zd_84 (by decide) (hzz4_.1 68 22 (by decide)) hx2 b5_ dX11_rule_161 (fun z6_ H locs ez hzz6_ hw => ?_)
  replace hF := Zle ez hF; clear ez
  refine lv_aload_n S.1 S.2.1 dX11_rule_162 rfl (lv_at hl 0 rfl) ?_
  refine lv_dup S.1 S.2.1 dX11_rule_163 rfl ?_
  refine gg_X11_288 S hw dX11_rule_164 ?_
  refine lv_iconst (v := i32 1) S.1 S.2.1 dX11_rule_167 ic_1 ?_
  obtain ⟨g7_, hF⟩ := Zgs hF
  refine Yiadd S dX11_rule_168 ?_
  refine pp_X11_288 S hw hzz6_ g7_ dX11_rule_169 (fun z8_ H locs ez hzz8_ hw => ?_)
  replace hF := Zle ez hF; clear ez
  refine lv_aload_n S.1 S.2.1 dX11_rule_172 rfl (lv_at hl 0 rfl) ?_
  refine gg_X11_288 S hw dX11_rule_173 ?_
  exact Yireti S hw hzz8_ (hzz8_.1 68 22 (by decide)) hr hlk hF dX11_rule_176
set_option maxRecDepth 100000 in
set_option maxHeartbeats 4000000 in
theorem w_X11_rule_L96 {RR : Int × ZI} (S : CallFix p m c cX11_rule 7 s args Ztbl RX11) (hr : meth.sig.returnType = some .int) (hlk : meth.locks = false) (hR : 2 ≤ R.frames ∧ 60 * (2) ≤ R.locals) (hdj : Zdj ad) : ∀ (n : Nat) (z : ZI) (x1 : Int) (x2 : Int) (x5 : Int) (x6 : Int) (H : Heap) (locs : List Loc) (ls : Array Slot), X11_rule_L96 n z x1 x2 x5 x6 = some RR → ZW D cA ad (ZA ad) (Zc z) s H locs → Zok z → InR x1 → InR x2 → InR x5 → InR x6 → lv_has ls 7 [(0, .ref (ad 68)), (1, .int (i32 (x1))), (2, .int (i32 (x2))), (5, .int (i32 (x5))), (6, .int (i32 (x6)))] → W p l e R s m args below meth c H locs 0 0 (MQ below (YQi D cA ad RR.1 RR.2) args s 0 0 (ZA ad)) (F0 m 96 ls []) := by
  intro n
  induction n with
  | zero => intro z x1 x2 x5 x6 H locs ls hF; exact nomatch hF
  | succ n hk96 =>
    intro z x1 x2 x5 x6 H locs ls hF hw hzz hx1 hx2 hx5 hx6 hl
    replace hF : X11_rule_L96b (X11_rule_L96 n) z x1 x2 x5 x6 = some RR := hF
    unfold X11_rule_L96b at hF
    refine lv_iload S.1 S.2.1 dX11_rule_96 (lv_at hl 4 rfl) ?_
    refine lv_iload S.1 S.2.1 dX11_rule_98 (lv_at hl 3 rfl) ?_
    refine Yicmp_ge (tgt := 131) S hx6 hx5 dX11_rule_100 (by decide) (fun c1_ => ?_) (fun c1_ => ?_)
    · replace hF := ZtP c1_ hF
      exact w_X11_rule_b131 S hr hlk hR hdj _ _ _ _ _ _ _ hF hw hzz hx1 hx2 hx5 (lv_sub hl [0, 1, 2, 3] rfl)
    · replace hF := ZtN c1_ hF
      refine lv_aload_n S.1 S.2.1 dX11_rule_103 rfl (lv_at hl 0 rfl) ?_
      refine gf_X11_46 S hw dX11_rule_104 ?_
      refine lv_bipush (v := i32 60) S.1 S.2.1 dX11_rule_107 bp_60 ?_
      refine lv_aload_n S.1 S.2.1 dX11_rule_109 rfl (lv_at hl 0 rfl) ?_
      refine gg_X11_288 S hw dX11_rule_110 ?_
      obtain ⟨g2_, hF⟩ := Zgs hF
      refine Yimul S dX11_rule_113 ?_
      refine lv_iload S.1 S.2.1 dX11_rule_114 (lv_at hl 4 rfl) ?_
      obtain ⟨g3_, hF⟩ := Zgs hF
      refine Yiadd S dX11_rule_116 ?_
      refine lv_aload_n S.1 S.2.1 dX11_rule_117 rfl (lv_at hl 0 rfl) ?_
      refine gf_X11_43 S hw dX11_rule_118 ?_
      refine lv_iload S.1 S.2.1 dX11_rule_121 (lv_at hl 4 rfl) ?_
      obtain ⟨b4_, hF⟩ := Zgs hF
      refine Yiald S hw zd_80 (by decide) hx6 b4_ dX11_rule_123 ?_
      obtain ⟨b5_, hF⟩ := Zgs hF
      refine Yiast S hw hzz zd_81 (by decide) g3_ (hzz.1 _ _ (by decide)) b5_ dX11_rule_124 (fun z6_ H locs ez hzz6_ hw => ?_)
      replace hF := Zle ez hF; clear ez
      obtain ⟨g7_, hF⟩ := Zgs hF
      refine lv_iinc (v := i32 (x6 + 1)) (lv' := [(6, .int (i32 (x6 + 1))), (0, .ref (ad 68)), (1, .int (i32 (x1))), (2, .int (i32 (x2))), (5, .int (i32 (x5)))]) S.1 S.2.1 dX11_rule_125 hl (k := 4) rfl Yiinc (by decide) rfl (fun ls hl => ?_)
      refine lv_goto (tgt := 96) S.1 S.2.1 dX11_rule_128 (by decide) ?_
      exact hk96 _ _ _ _ _ _ _ _ hF hw hzz6_ hx1 hx2 hx5 g7_ (lv_sub hl [1, 2, 3, 4, 0] rfl)
set_option maxRecDepth 100000 in
set_option maxHeartbeats 4000000 in
theorem w_X11_rule_b52 {RR : Int × ZI} (S : CallFix p m c cX11_rule 7 s args Ztbl RX11) (hr : meth.sig.returnType = some .int) (hlk : meth.locks = false) (hR : 2 ≤ R.frames ∧ 60 * (2) ≤ R.locals) (hdj : Zdj ad) : ∀ (z : ZI) (x1 : Int) (x2 : Int) (y0 : Int) (H : Heap) (locs : List Loc) (ls : Array Slot), X11_rule_b52 z x1 x2 y0 = some RR → ZW D cA ad (ZA ad) (Zc z) s H locs → Zok z → InR x1 → InR x2 → InR y0 → lv_has ls 7 [(0, .ref (ad 68)), (1, .int (i32 (x1))), (2, .int (i32 (x2)))] → W p l e R s m args below meth c H locs 0 0 (MQ below (YQi D cA ad RR.1 RR.2) args s 0 0 (ZA ad)) (F0 m 52 ls [.int (i32 (y0))]) := by
  intro z x1 x2 y0 H locs ls hF hw hzz hx1 hx2 hy0 hl
  unfold X11_rule_b52 at hF
  refine lv_istore_n (lv' := [(3, .int (i32 (y0))), (0, .ref (ad 68)), (1, .int (i32 (x1))), (2, .int (i32 (x2)))]) S.1 S.2.1 dX11_rule_52 rfl hl (by decide) rfl (fun ls hl => ?_)
  refine lv_iload_n S.1 S.2.1 dX11_rule_53 rfl (lv_at hl 0 rfl) ?_
  refine Yif_eq (tgt := 63) S hy0 dX11_rule_54 (by decide) (fun c1_ => ?_) (fun c1_ => ?_)
  · replace hF := ZtP c1_ hF
    refine lv_aload_n S.1 S.2.1 dX11_rule_63 rfl (lv_at hl 1 rfl) ?_
    obtain ⟨r4_, z2_, h3_, hF⟩ := Ybs hF
    refine YcallVi (rest := []) S hw (c_X11_parses hdj hzz  h3_) my_X11_parses mi_X11_parses ml_X11_291 zd_68 zc_X11 rfl (Zrr hR (by decide)) ⟨Nat.zero_le _, Nat.zero_le _⟩ hl.1 rfl rfl (Nat.le_of_ble_eq_true rfl) dX11_rule_64 (fun hrr4_ hzz2_ H locs hw => ?_)
    refine lv_istore (lv' := [(4, .int (i32 (r4_))), (3, .int (i32 (y0))), (0, .ref (ad 68)), (1, .int (i32 (x1))), (2, .int (i32 (x2)))]) S.1 S.2.1 dX11_rule_67 hl (by decide) rfl (fun ls hl => ?_)
    refine lv_aload_n S.1 S.2.1 dX11_rule_69 rfl (lv_at hl 2 rfl) ?_
    refine gg_X11_267 S hw dX11_rule_70 ?_
    refine lv_istore (lv' := [(5, .int (i32 (z2_ 68 21))), (4, .int (i32 (r4_))), (3, .int (i32 (y0))), (0, .ref (ad 68)), (1, .int (i32 (x1))), (2, .int (i32 (x2)))]) S.1 S.2.1 dX11_rule_73 hl (by decide) rfl (fun ls hl => ?_)
    refine lv_aload_n S.1 S.2.1 dX11_rule_75 rfl (lv_at hl 3 rfl) ?_
    refine lv_iconst (v := i32 0) S.1 S.2.1 dX11_rule_76 ic_0 ?_
    refine pp_X11_267 S hw hzz2_ r_0 dX11_rule_77 (fun z5_ H locs ez hzz5_ hw => ?_)
    replace hF := Zle ez hF; clear ez
    refine lv_iload S.1 S.2.1 dX11_rule_80 (lv_at hl 1 rfl) ?_
    refine Yif_ne (tgt := 93) S hrr4_ dX11_rule_82 (by decide) (fun c6_ => ?_) (fun c6_ => ?_)
    · replace hF := ZtN c6_ hF
      refine lv_iconst (v := i32 0) S.1 S.2.1 dX11_rule_93 ic_0 ?_
      refine lv_istore (lv' := [(6, .int (i32 (0))), (5, .int (i32 (z2_ 68 21))), (4, .int (i32 (r4_))), (3, .int (i32 (y0))), (0, .ref (ad 68)), (1, .int (i32 (x1))), (2, .int (i32 (x2)))]) S.1 S.2.1 dX11_rule_94 hl (by decide) rfl (fun ls hl => ?_)
      exact w_X11_rule_L96 S hr hlk hR hdj Zfuel _ _ _ _ _ _ _ _ hF hw hzz5_ hx1 hx2 (hzz2_.1 68 21 (by decide)) r_0 (lv_sub hl [4, 5, 6, 1, 0] rfl)
    · replace hF := ZtP c6_ hF
      refine lv_bipush (v := i32 (-20)) S.1 S.2.1 dX11_rule_85 bp_m20 ?_
      refine lv_aload_n S.1 S.2.1 dX11_rule_87 rfl (lv_at hl 3 rfl) ?_
      refine gg_X11_272 S hw dX11_rule_88 ?_
      obtain ⟨g7_, hF⟩ := Zgs hF
      refine Yisub S dX11_rule_91 ?_
      exact Yireti S hw hzz5_ g7_ hr hlk hF dX11_rule_92
  · replace hF := ZtN c1_ hF
    refine lv_aload_n S.1 S.2.1 dX11_rule_57 rfl (lv_at hl 1 rfl) ?_
    refine lv_iload_n S.1 S.2.1 dX11_rule_58 rfl (lv_at hl 0 rfl) ?_
    obtain ⟨r10_, z8_, h9_, hF⟩ := Ybs hF
    refine YcallVi (rest := []) S hw (c_X11_no hdj hzz hy0 h9_) my_X11_no mi_X11_no ml_X11_207 zd_68 zc_X11 rfl (Zrr hR (by decide)) ⟨Nat.zero_le _, Nat.zero_le _⟩ hl.1 rfl rfl (Nat.le_of_ble_eq_true rfl) dX11_rule_59 (fun hrr10_ hzz8_ H locs hw => ?_)
    exact Yireti S hw hzz8_ hrr10_ hr hlk hF dX11_rule_62
set_option maxRecDepth 100000 in
set_option maxHeartbeats 4000000 in
theorem w_X11_rule_b46 {RR : Int × ZI} (S : CallFix p m c cX11_rule 7 s args Ztbl RX11) (hr : meth.sig.returnType = some .int) (hlk : meth.locks = false) (hR : 2 ≤ R.frames ∧ 60 * (2) ≤ R.locals) (hdj : Zdj ad) : ∀ (z : ZI) (x1 : Int) (x2 : Int) (H : Heap) (locs : List Loc) (ls : Array Slot), X11_rule_b46 z x1 x2 = some RR → ZW D cA ad (ZA ad) (Zc z) s H locs → Zok z → InR x1 → InR x2 → lv_has ls 7 [(0, .ref (ad 68)), (1, .int (i32 (x1))), (2, .int (i32 (x2)))] → W p l e R s m args below meth c H locs 0 0 (MQ below (YQi D cA ad RR.1 RR.2) args s 0 0 (ZA ad)) (F0 m 46 ls []) := by
  intro z x1 x2 H locs ls hF hw hzz hx1 hx2 hl
  unfold X11_rule_b46 at hF
  refine lv_bipush (v := i32 (-6)) S.1 S.2.1 dX11_rule_46 bp_m6 ?_
  refine lv_goto (tgt := 52) S.1 S.2.1 dX11_rule_48 (by decide) ?_
  exact w_X11_rule_b52 S hr hlk hR hdj _ _ _ _ _ _ _ hF hw hzz hx1 hx2 r_m6 (lv_sub hl [0, 1, 2] rfl)
set_option maxRecDepth 100000 in
set_option maxHeartbeats 4000000 in
theorem c_X11_rule {l : Launch} {D : va_G} {cA : Nat → ClassId} {ad : Nat → Nat} (hdj : Zdj ad) {z z1 : ZI} {x1 : Int} {x2 : Int} {r : Int} (hzz : Zok z) (hx1 : InR x1) (hx2 : InR x2) (hF : F_X11_rule z x1 x2 = some (r, z1)) : YMi l D cA ad (2) yX11_rule cX11_rule 7 (some .int) [.ref (ad 68), .int (i32 x1), .int (i32 x2)] z r z1 :=
  Zmet hdj (by decide) rfl (Nat.le_of_ble_eq_true rfl) (lv := [(0, .ref (ad 68)), (1, .int (i32 (x1))), (2, .int (i32 (x2)))]) rfl (fun p e s m args below meth c ls S hr hlk hw hl => by
    have hR : 2 ≤ (Zrm (2)).frames ∧ 60 * (2) ≤ (Zrm (2)).locals := ⟨Nat.le_refl _, Nat.le_refl _⟩
    unfold F_X11_rule at hF
    revert hR
    generalize Zrm (2) = R
    intro hR
    refine lv_iload_n S.1 S.2.1 dX11_rule_0 rfl (lv_at hl 1 rfl) ?_
    refine Yi2l S hx1 dX11_rule_1 ?_
    refine lv_lconst (v := i64 0) S.1 S.2.1 dX11_rule_2 lc_0 ?_
    refine lv_lconst (v := i64 1) S.1 S.2.1 dX11_rule_3 lc_1 ?_
    obtain ⟨r3_, z1_, h2_, hF⟩ := Ybs hF
    refine YcallSi (rest := []) S hw (c_X11_isIn hdj hzz (InR_L hx1) (InR_L r_0) (InR_L r_1) h2_) my_X11_isIn ms_X11_isIn ml_X11_226 (Zrr hR (by decide)) ⟨Nat.zero_le _, Nat.zero_le _⟩ hl.1 rfl rfl (Nat.le_of_ble_eq_true rfl) dX11_rule_4 (fun hrr3_ hzz1_ H locs hw => ?_)
    refine Yif_ne (tgt := 17) S hrr3_ dX11_rule_7 (by decide) (fun c4_ => ?_) (fun c4_ => ?_)
    · replace hF := ZtN c4_ hF
      refine lv_iload_n S.1 S.2.1 dX11_rule_17 rfl (lv_at hl 2 rfl) ?_
      refine lv_aload_n S.1 S.2.1 dX11_rule_18 rfl (lv_at hl 0 rfl) ?_
      refine gg_X11_200 S hw dX11_rule_19 ?_
      refine Yicmp_ge (tgt := 30) S hx2 (hzz1_.1 68 11 (by decide)) dX11_rule_22 (by decide) (fun c5_ => ?_) (fun c5_ => ?_)
      · replace hF := ZtP c5_ hF
        refine lv_iload_n S.1 S.2.1 dX11_rule_30 rfl (lv_at hl 2 rfl) ?_
        refine lv_sipush (v := i32 999) S.1 S.2.1 dX11_rule_31 sp_999 ?_
        refine Yicmp_gt (tgt := 46) S hx2 r_999 dX11_rule_34 (by decide) (fun c6_ => ?_) (fun c6_ => ?_)
        · replace hF := ZtP c6_ hF
          exact w_X11_rule_b46 S hr hlk hR hdj _ _ _ _ _ _ hF hw hzz1_ hx1 hx2 (lv_sub hl [0, 1, 2] rfl)
        · replace hF := ZtN c6_ hF
          refine lv_aload_n S.1 S.2.1 dX11_rule_37 rfl (lv_at hl 0 rfl) ?_
          refine gg_X11_288 S hw dX11_rule_38 ?_
          refine lv_bipush (v := i32 30) S.1 S.2.1 dX11_rule_41 bp_30 ?_
          refine Yicmp_ne (tgt := 51) S (hzz1_.1 68 22 (by decide)) r_30 dX11_rule_43 (by decide) (fun c7_ => ?_) (fun c7_ => ?_)
          · replace hF := ZtN c7_ hF
            refine lv_iconst (v := i32 0) S.1 S.2.1 dX11_rule_51 ic_0 ?_
            exact w_X11_rule_b52 S hr hlk hR hdj _ _ _ _ _ _ _ hF hw hzz1_ hx1 hx2 r_0 (lv_sub hl [0, 1, 2] rfl)
          · replace hF := ZtP c7_ hF
            exact w_X11_rule_b46 S hr hlk hR hdj _ _ _ _ _ _ hF hw hzz1_ hx1 hx2 (lv_sub hl [0, 1, 2] rfl)
      · replace hF := ZtN c5_ hF
        refine lv_bipush (v := i32 (-4)) S.1 S.2.1 dX11_rule_25 bp_m4 ?_
        refine lv_goto (tgt := 52) S.1 S.2.1 dX11_rule_27 (by decide) ?_
        exact w_X11_rule_b52 S hr hlk hR hdj _ _ _ _ _ _ _ hF hw hzz1_ hx1 hx2 r_m4 (lv_sub hl [0, 1, 2] rfl)
    · replace hF := ZtP c4_ hF
      refine lv_aload_n S.1 S.2.1 dX11_rule_10 rfl (lv_at hl 0 rfl) ?_
      refine lv_bipush (v := i32 (-2)) S.1 S.2.1 dX11_rule_11 bp_m2 ?_
      obtain ⟨r10_, z8_, h9_, hF⟩ := Ybs hF
      refine YcallVi (rest := []) S hw (c_X11_no hdj hzz1_ r_m2 h9_) my_X11_no mi_X11_no ml_X11_207 zd_68 zc_X11 rfl (Zrr hR (by decide)) ⟨Nat.zero_le _, Nat.zero_le _⟩ hl.1 rfl rfl (Nat.le_of_ble_eq_true rfl) dX11_rule_13 (fun hrr10_ hzz8_ H locs hw => ?_)
      exact Yireti S hw hzz8_ hrr10_ hr hlk hF dX11_rule_16)
set_option maxRecDepth 100000 in
set_option maxHeartbeats 4000000 in
theorem c_X11_served {l : Launch} {D : va_G} {cA : Nat → ClassId} {ad : Nat → Nat} (hdj : Zdj ad) {z z1 : ZI} {x1 : Int} {r : Int} (hzz : Zok z) (hx1 : InR x1) (hF : F_X11_served z x1 = some (r, z1)) : YMi l D cA ad (4) yX11_served cX11_served 2 (some .int) [.ref (ad 68), .int (i32 x1)] z r z1 :=
  Zmet hdj (by decide) rfl (Nat.le_of_ble_eq_true rfl) (lv := [(0, .ref (ad 68)), (1, .int (i32 (x1)))]) rfl (fun p e s m args below meth c ls S hr hlk hw hl => by
    have hR : 4 ≤ (Zrm (4)).frames ∧ 60 * (4) ≤ (Zrm (4)).locals := ⟨Nat.le_refl _, Nat.le_refl _⟩
    unfold F_X11_served at hF
    revert hR
    generalize Zrm (4) = R
    intro hR
    refine lv_aload_n S.1 S.2.1 dX11_served_0 rfl (lv_at hl 0 rfl) ?_
    refine lv_iload_n S.1 S.2.1 dX11_served_1 rfl (lv_at hl 1 rfl) ?_
    obtain ⟨r3_, z1_, h2_, hF⟩ := Ybs hF
    refine YcallVi (rest := []) S hw (c_X11_isHouse hdj hzz hx1 h2_) my_X11_isHouse mi_X11_isHouse ml_X11_233 zd_68 zc_X11 rfl (Zrr hR (by decide)) ⟨Nat.zero_le _, Nat.zero_le _⟩ hl.1 rfl rfl (Nat.le_of_ble_eq_true rfl) dX11_served_2 (fun hrr3_ hzz1_ H locs hw => ?_)
    refine Yif_ne (tgt := 14) S hrr3_ dX11_served_5 (by decide) (fun c4_ => ?_) (fun c4_ => ?_)
    · replace hF := ZtN c4_ hF
      refine lv_aload_n S.1 S.2.1 dX11_served_14 rfl (lv_at hl 0 rfl) ?_
      obtain ⟨r7_, z5_, h6_, hF⟩ := Ybs hF
      refine YcallVv (rest := []) S hw (c_X11_findNeeds hdj hzz1_  h6_) my_X11_findNeeds mi_X11_findNeeds ml_X11_378 zd_68 zc_X11 rfl (Zrr hR (by decide)) ⟨Nat.zero_le _, Nat.zero_le _⟩ hl.1 rfl rfl (Nat.le_of_ble_eq_true rfl) dX11_served_15 (fun hzz5_ H locs hw => ?_)
      refine lv_aload_n S.1 S.2.1 dX11_served_18 rfl (lv_at hl 0 rfl) ?_
      obtain ⟨r10_, z8_, h9_, hF⟩ := Ybs hF
      refine YcallVv (rest := []) S hw (c_X11_findDrawers hdj hzz5_  h9_) my_X11_findDrawers mi_X11_findDrawers ml_X11_381 zd_68 zc_X11 rfl (Zrr hR (by decide)) ⟨Nat.zero_le _, Nat.zero_le _⟩ hl.1 rfl rfl (Nat.le_of_ble_eq_true rfl) dX11_served_19 (fun hzz8_ H locs hw => ?_)
      refine lv_aload_n S.1 S.2.1 dX11_served_22 rfl (lv_at hl 0 rfl) ?_
      refine lv_aload_n S.1 S.2.1 dX11_served_23 rfl (lv_at hl 0 rfl) ?_
      refine gf_X11_99 S hw dX11_served_24 ?_
      obtain ⟨r13_, z11_, h12_, hF⟩ := Ybs hF
      refine YcallVv (rest := []) S hw (c_X11_draws hdj zd_98 (by decide) (by decide) hzz8_  h12_) my_X11_draws mi_X11_draws ml_X11_384 zd_68 zc_X11 rfl (Zrr hR (by decide)) ⟨Nat.zero_le _, Nat.zero_le _⟩ hl.1 rfl rfl (Nat.le_of_ble_eq_true rfl) dX11_served_27 (fun hzz11_ H locs hw => ?_)
      refine lv_aload_n S.1 S.2.1 dX11_served_30 rfl (lv_at hl 0 rfl) ?_
      refine gf_X11_111 S hw dX11_served_31 ?_
      refine lv_iload_n S.1 S.2.1 dX11_served_34 rfl (lv_at hl 1 rfl) ?_
      obtain ⟨b14_, hF⟩ := Zgs hF
      refine Yiald S hw zd_102 (by decide) hx1 b14_ dX11_served_35 ?_
      exact Yireti S hw hzz11_ (hzz11_.1 _ _ (by decide)) hr hlk hF dX11_served_36
    · replace hF := ZtP c4_ hF
      refine lv_aload_n S.1 S.2.1 dX11_served_8 rfl (lv_at hl 0 rfl) ?_
      refine lv_iconst (v := i32 (-1)) S.1 S.2.1 dX11_served_9 ic_m1 ?_
      obtain ⟨r17_, z15_, h16_, hF⟩ := Ybs hF
      refine YcallVi (rest := []) S hw (c_X11_no hdj hzz1_ r_m1 h16_) my_X11_no mi_X11_no ml_X11_207 zd_68 zc_X11 rfl (Zrr hR (by decide)) ⟨Nat.zero_le _, Nat.zero_le _⟩ hl.1 rfl rfl (Nat.le_of_ble_eq_true rfl) dX11_served_10 (fun hrr17_ hzz15_ H locs hw => ?_)
      exact Yireti S hw hzz15_ hrr17_ hr hlk hF dX11_served_13)
set_option maxRecDepth 100000 in
set_option maxHeartbeats 4000000 in
theorem w_X11_since_b47 {RR : Int × ZI} (S : CallFix p m c cX11_since 4 s args Ztbl RX11) (hr : meth.sig.returnType = some .int) (hlk : meth.locks = false) (hR : 3 ≤ R.frames ∧ 60 * (3) ≤ R.locals) (hdj : Zdj ad) : ∀ (z : ZI) (y0 : Int) (H : Heap) (locs : List Loc) (ls : Array Slot), X11_since_b47 z y0 = some RR → ZW D cA ad (ZA ad) (Zc z) s H locs → Zok z → InR y0 → lv_has ls 4 [] → W p l e R s m args below meth c H locs 0 0 (MQ below (YQi D cA ad RR.1 RR.2) args s 0 0 (ZA ad)) (F0 m 47 ls [.int (i32 (y0))]) := by
  intro z y0 H locs ls hF hw hzz hy0 hl
  unfold X11_since_b47 at hF
  exact Yireti S hw hzz hy0 hr hlk hF dX11_since_47
set_option maxRecDepth 100000 in
set_option maxHeartbeats 4000000 in
theorem w_X11_since_b38 {RR : Int × ZI} (S : CallFix p m c cX11_since 4 s args Ztbl RX11) (hr : meth.sig.returnType = some .int) (hlk : meth.locks = false) (hR : 3 ≤ R.frames ∧ 60 * (3) ≤ R.locals) (hdj : Zdj ad) : ∀ (z : ZI) (x1 : Int) (x2 : Int) (x3 : Int) (H : Heap) (locs : List Loc) (ls : Array Slot), X11_since_b38 z x1 x2 x3 = some RR → ZW D cA ad (ZA ad) (Zc z) s H locs → Zok z → InR x1 → InR x2 → InR x3 → lv_has ls 4 [(1, .int (i32 (x1))), (2, .int (i32 (x2))), (3, .int (i32 (x3)))] → W p l e R s m args below meth c H locs 0 0 (MQ below (YQi D cA ad RR.1 RR.2) args s 0 0 (ZA ad)) (F0 m 38 ls []) := by
  intro z x1 x2 x3 H locs ls hF hw hzz hx1 hx2 hx3 hl
  unfold X11_since_b38 at hF
  refine lv_iload_n S.1 S.2.1 dX11_since_38 rfl (lv_at hl 0 rfl) ?_
  refine Yif_ne (tgt := 46) S hx1 dX11_since_39 (by decide) (fun c1_ => ?_) (fun c1_ => ?_)
  · replace hF := ZtN c1_ hF
    refine lv_iload_n S.1 S.2.1 dX11_since_46 rfl (lv_at hl 2 rfl) ?_
    exact w_X11_since_b47 S hr hlk hR hdj _ _ _ _ _ hF hw hzz hx3 (lv_sub hl [] rfl)
  · replace hF := ZtP c1_ hF
    refine lv_iload_n S.1 S.2.1 dX11_since_42 rfl (lv_at hl 1 rfl) ?_
    refine lv_goto (tgt := 47) S.1 S.2.1 dX11_since_43 (by decide) ?_
    exact w_X11_since_b47 S hr hlk hR hdj _ _ _ _ _ hF hw hzz hx2 (lv_sub hl [] rfl)
set_option maxRecDepth 100000 in
set_option maxHeartbeats 4000000 in
theorem w_X11_since_L24 {RR : Int × ZI} (S : CallFix p m c cX11_since 4 s args Ztbl RX11) (hr : meth.sig.returnType = some .int) (hlk : meth.locks = false) (hR : 3 ≤ R.frames ∧ 60 * (3) ≤ R.locals) (hdj : Zdj ad) : ∀ (n : Nat) (z : ZI) (x1 : Int) (x2 : Int) (H : Heap) (locs : List Loc) (ls : Array Slot), X11_since_L24 n z x1 x2 = some RR → ZW D cA ad (ZA ad) (Zc z) s H locs → Zok z → InR x1 → InR x2 → lv_has ls 4 [(0, .ref (ad 68)), (1, .int (i32 (x1))), (2, .int (i32 (x2)))] → W p l e R s m args below meth c H locs 0 0 (MQ below (YQi D cA ad RR.1 RR.2) args s 0 0 (ZA ad)) (F0 m 24 ls []) := by
  intro n
  induction n with
  | zero => intro z x1 x2 H locs ls hF; exact nomatch hF
  | succ n hk24 =>
    intro z x1 x2 H locs ls hF hw hzz hx1 hx2 hl
    replace hF : X11_since_L24b (X11_since_L24 n) z x1 x2 = some RR := hF
    unfold X11_since_L24b at hF
    refine lv_iload_n S.1 S.2.1 dX11_since_24 rfl (lv_at hl 2 rfl) ?_
    refine Yif_lt (tgt := 54) S hx2 dX11_since_25 (by decide) (fun c1_ => ?_) (fun c1_ => ?_)
    · replace hF := ZtP c1_ hF
      refine lv_bipush (v := i32 (-9)) S.1 S.2.1 dX11_since_54 bp_m9 ?_
      exact Yireti S hw hzz r_m9 hr hlk hF dX11_since_56
    · replace hF := ZtN c1_ hF
      refine lv_aload_n S.1 S.2.1 dX11_since_28 rfl (lv_at hl 0 rfl) ?_
      refine lv_iload_n S.1 S.2.1 dX11_since_29 rfl (lv_at hl 2 rfl) ?_
      obtain ⟨r4_, z2_, h3_, hF⟩ := Ybs hF
      refine YcallVi (rest := []) S hw (c_X11_leaned hdj hzz hx2 h3_) my_X11_leaned mi_X11_leaned ml_X11_352 zd_68 zc_X11 rfl (Zrr hR (by decide)) ⟨Nat.zero_le _, Nat.zero_le _⟩ hl.1 rfl rfl (Nat.le_of_ble_eq_true rfl) dX11_since_30 (fun hrr4_ hzz2_ H locs hw => ?_)
      refine lv_istore_n (lv' := [(3, .int (i32 (r4_))), (0, .ref (ad 68)), (1, .int (i32 (x1))), (2, .int (i32 (x2)))]) S.1 S.2.1 dX11_since_33 rfl hl (by decide) rfl (fun ls hl => ?_)
      refine lv_iload_n S.1 S.2.1 dX11_since_34 rfl (lv_at hl 0 rfl) ?_
      refine Yif_lt (tgt := 48) S hrr4_ dX11_since_35 (by decide) (fun c5_ => ?_) (fun c5_ => ?_)
      · replace hF := ZtP c5_ hF
        obtain ⟨g6_, hF⟩ := Zgs hF
        refine lv_iinc (v := i32 (x2 + (-1))) (lv' := [(2, .int (i32 (x2 + (-1)))), (3, .int (i32 (r4_))), (0, .ref (ad 68)), (1, .int (i32 (x1)))]) S.1 S.2.1 dX11_since_48 hl (k := 3) rfl Yiinc (by decide) rfl (fun ls hl => ?_)
        refine lv_goto (tgt := 24) S.1 S.2.1 dX11_since_51 (by decide) ?_
        exact hk24 _ _ _ _ _ _ hF hw hzz2_ hx1 g6_ (lv_sub hl [2, 3, 0] rfl)
      · replace hF := ZtN c5_ hF
        exact w_X11_since_b38 S hr hlk hR hdj _ _ _ _ _ _ _ hF hw hzz2_ hx1 hx2 hrr4_ (lv_sub hl [2, 3, 0] rfl)
set_option maxRecDepth 100000 in
set_option maxHeartbeats 4000000 in
theorem c_X11_since {l : Launch} {D : va_G} {cA : Nat → ClassId} {ad : Nat → Nat} (hdj : Zdj ad) {z z1 : ZI} {x1 : Int} {r : Int} (hzz : Zok z) (hx1 : InR x1) (hF : F_X11_since z x1 = some (r, z1)) : YMi l D cA ad (3) yX11_since cX11_since 4 (some .int) [.ref (ad 68), .int (i32 x1)] z r z1 :=
  Zmet hdj (by decide) rfl (Nat.le_of_ble_eq_true rfl) (lv := [(0, .ref (ad 68)), (1, .int (i32 (x1)))]) rfl (fun p e s m args below meth c ls S hr hlk hw hl => by
    have hR : 3 ≤ (Zrm (3)).frames ∧ 60 * (3) ≤ (Zrm (3)).locals := ⟨Nat.le_refl _, Nat.le_refl _⟩
    unfold F_X11_since at hF
    revert hR
    generalize Zrm (3) = R
    intro hR
    refine lv_iload_n S.1 S.2.1 dX11_since_0 rfl (lv_at hl 1 rfl) ?_
    refine Yi2l S hx1 dX11_since_1 ?_
    refine lv_lconst (v := i64 0) S.1 S.2.1 dX11_since_2 lc_0 ?_
    refine lv_lconst (v := i64 1) S.1 S.2.1 dX11_since_3 lc_1 ?_
    obtain ⟨r3_, z1_, h2_, hF⟩ := Ybs hF
    refine YcallSi (rest := []) S hw (c_X11_isIn hdj hzz (InR_L hx1) (InR_L r_0) (InR_L r_1) h2_) my_X11_isIn ms_X11_isIn ml_X11_226 (Zrr hR (by decide)) ⟨Nat.zero_le _, Nat.zero_le _⟩ hl.1 rfl rfl (Nat.le_of_ble_eq_true rfl) dX11_since_4 (fun hrr3_ hzz1_ H locs hw => ?_)
    refine Yif_ne (tgt := 17) S hrr3_ dX11_since_7 (by decide) (fun c4_ => ?_) (fun c4_ => ?_)
    · replace hF := ZtN c4_ hF
      refine lv_aload_n S.1 S.2.1 dX11_since_17 rfl (lv_at hl 0 rfl) ?_
      refine gg_X11_200 S hw dX11_since_18 ?_
      refine lv_iconst (v := i32 1) S.1 S.2.1 dX11_since_21 ic_1 ?_
      obtain ⟨g5_, hF⟩ := Zgs hF
      refine Yiadd S dX11_since_22 ?_
      refine lv_istore_n (lv' := [(2, .int (i32 ((z1_ 68 11) + 1))), (0, .ref (ad 68)), (1, .int (i32 (x1)))]) S.1 S.2.1 dX11_since_23 rfl hl (by decide) rfl (fun ls hl => ?_)
      exact w_X11_since_L24 S hr hlk hR hdj Zfuel _ _ _ _ _ _ hF hw hzz1_ hx1 g5_ (lv_sub hl [1, 2, 0] rfl)
    · replace hF := ZtP c4_ hF
      refine lv_aload_n S.1 S.2.1 dX11_since_10 rfl (lv_at hl 0 rfl) ?_
      refine lv_bipush (v := i32 (-2)) S.1 S.2.1 dX11_since_11 bp_m2 ?_
      obtain ⟨r8_, z6_, h7_, hF⟩ := Ybs hF
      refine YcallVi (rest := []) S hw (c_X11_no hdj hzz1_ r_m2 h7_) my_X11_no mi_X11_no ml_X11_207 zd_68 zc_X11 rfl (Zrr hR (by decide)) ⟨Nat.zero_le _, Nat.zero_le _⟩ hl.1 rfl rfl (Nat.le_of_ble_eq_true rfl) dX11_since_13 (fun hrr8_ hzz6_ H locs hw => ?_)
      exact Yireti S hw hzz6_ hrr8_ hr hlk hF dX11_since_16)
set_option maxRecDepth 100000 in
set_option maxHeartbeats 4000000 in
theorem w_X11_state_b85 {RR : Int × ZI} (S : CallFix p m c cX11_state 5 s args Ztbl RX11) (hr : meth.sig.returnType = some .int) (hlk : meth.locks = false) (hR : 1 ≤ R.frames ∧ 60 * (1) ≤ R.locals) (hdj : Zdj ad) : ∀ (z : ZI) (x1 : Int) (x2 : Int) (x3 : Int) (H : Heap) (locs : List Loc) (ls : Array Slot), X11_state_b85 z x1 x2 x3 = some RR → ZW D cA ad (ZA ad) (Zc z) s H locs → Zok z → InR x1 → InR x2 → InR x3 → lv_has ls 5 [(0, .ref (ad 68)), (1, .int (i32 (x1))), (2, .int (i32 (x2))), (3, .int (i32 (x3)))] → W p l e R s m args below meth c H locs 0 0 (MQ below (YQi D cA ad RR.1 RR.2) args s 0 0 (ZA ad)) (F0 m 85 ls []) := by
  intro z x1 x2 x3 H locs ls hF hw hzz hx1 hx2 hx3 hl
  unfold X11_state_b85 at hF
  refine lv_iload_n S.1 S.2.1 dX11_state_85 rfl (lv_at hl 3 rfl) ?_
  refine Yif_eq (tgt := 96) S hx3 dX11_state_86 (by decide) (fun c1_ => ?_) (fun c1_ => ?_)
  · replace hF := ZtP c1_ hF
    refine lv_aload_n S.1 S.2.1 dX11_state_96 rfl (lv_at hl 0 rfl) ?_
    refine gg_X11_240 S hw dX11_state_97 ?_
    refine lv_sipush (v := i32 150) S.1 S.2.1 dX11_state_100 sp_150 ?_
    refine Yicmp_ne (tgt := 113) S (hzz.1 68 14 (by decide)) r_150 dX11_state_103 (by decide) (fun c2_ => ?_) (fun c2_ => ?_)
    · replace hF := ZtN c2_ hF
      refine lv_aload_n S.1 S.2.1 dX11_state_113 rfl (lv_at hl 0 rfl) ?_
      refine lv_iload_n S.1 S.2.1 dX11_state_114 rfl (lv_at hl 1 rfl) ?_
      refine lv_iload_n S.1 S.2.1 dX11_state_115 rfl (lv_at hl 2 rfl) ?_
      obtain ⟨r5_, z3_, h4_, hF⟩ := Ybs hF
      refine YcallVv (rest := []) S hw (c_X11_becomes hdj hzz hx1 hx2 h4_) my_X11_becomes mi_X11_becomes ml_X11_248 zd_68 zc_X11 rfl (Zrr hR (by decide)) ⟨Nat.zero_le _, Nat.zero_le _⟩ hl.1 rfl rfl (Nat.le_of_ble_eq_true rfl) dX11_state_116 (fun hzz3_ H locs hw => ?_)
      refine lv_aload_n S.1 S.2.1 dX11_state_119 rfl (lv_at hl 0 rfl) ?_
      refine gg_X11_240 S hw dX11_state_120 ?_
      exact Yireti S hw hzz3_ (hzz3_.1 68 14 (by decide)) hr hlk hF dX11_state_123
    · replace hF := ZtP c2_ hF
      refine lv_aload_n S.1 S.2.1 dX11_state_106 rfl (lv_at hl 0 rfl) ?_
      refine lv_bipush (v := i32 (-6)) S.1 S.2.1 dX11_state_107 bp_m6 ?_
      obtain ⟨r8_, z6_, h7_, hF⟩ := Ybs hF
      refine YcallVi (rest := []) S hw (c_X11_no hdj hzz r_m6 h7_) my_X11_no mi_X11_no ml_X11_207 zd_68 zc_X11 rfl (Zrr hR (by decide)) ⟨Nat.zero_le _, Nat.zero_le _⟩ hl.1 rfl rfl (Nat.le_of_ble_eq_true rfl) dX11_state_109 (fun hrr8_ hzz6_ H locs hw => ?_)
      exact Yireti S hw hzz6_ hrr8_ hr hlk hF dX11_state_112
  · replace hF := ZtN c1_ hF
    refine lv_aload_n S.1 S.2.1 dX11_state_89 rfl (lv_at hl 0 rfl) ?_
    refine lv_bipush (v := i32 (-3)) S.1 S.2.1 dX11_state_90 bp_m3 ?_
    obtain ⟨r11_, z9_, h10_, hF⟩ := Ybs hF
    refine YcallVi (rest := []) S hw (c_X11_no hdj hzz r_m3 h10_) my_X11_no mi_X11_no ml_X11_207 zd_68 zc_X11 rfl (Zrr hR (by decide)) ⟨Nat.zero_le _, Nat.zero_le _⟩ hl.1 rfl rfl (Nat.le_of_ble_eq_true rfl) dX11_state_92 (fun hrr11_ hzz9_ H locs hw => ?_)
    exact Yireti S hw hzz9_ hrr11_ hr hlk hF dX11_state_95
set_option maxRecDepth 100000 in
set_option maxHeartbeats 4000000 in
theorem w_X11_state_b78 {RR : Int × ZI} (S : CallFix p m c cX11_state 5 s args Ztbl RX11) (hr : meth.sig.returnType = some .int) (hlk : meth.locks = false) (hR : 1 ≤ R.frames ∧ 60 * (1) ≤ R.locals) (hdj : Zdj ad) {k38 : ZI → Int → Int → Int → Int → Option (Int × ZI)} (hk38 : ∀ (z : ZI) (x1 : Int) (x2 : Int) (x3 : Int) (x4 : Int) (H : Heap) (locs : List Loc) (ls : Array Slot), k38 z x1 x2 x3 x4 = some RR → ZW D cA ad (ZA ad) (Zc z) s H locs → Zok z → InR x1 → InR x2 → InR x3 → InR x4 → lv_has ls 5 [(0, .ref (ad 68)), (1, .int (i32 (x1))), (2, .int (i32 (x2))), (3, .int (i32 (x3))), (4, .int (i32 (x4)))] → W p l e R s m args below meth c H locs 0 0 (MQ below (YQi D cA ad RR.1 RR.2) args s 0 0 (ZA ad)) (F0 m 38 ls [])) : ∀ (z : ZI) (x1 : Int) (x2 : Int) (x4 : Int) (y0 : Int) (H : Heap) (locs : List Loc) (ls : Array Slot), X11_state_b78 k38 z x1 x2 x4 y0 = some RR → ZW D cA ad (ZA ad) (Zc z) s H locs → Zok z → InR x1 → InR x2 → InR x4 → InR y0 → lv_has ls 5 [(0, .ref (ad 68)), (1, .int (i32 (x1))), (2, .int (i32 (x2))), (4, .int (i32 (x4)))] → W p l e R s m args below meth c H locs 0 0 (MQ below (YQi D cA ad RR.1 RR.2) args s 0 0 (ZA ad)) (F0 m 78 ls [.int (i32 (y0))]) := by
  intro z x1 x2 x4 y0 H locs ls hF hw hzz hx1 hx2 hx4 hy0 hl
  unfold X11_state_b78 at hF
  refine lv_istore_n (lv' := [(3, .int (i32 (y0))), (0, .ref (ad 68)), (1, .int (i32 (x1))), (2, .int (i32 (x2))), (4, .int (i32 (x4)))]) S.1 S.2.1 dX11_state_78 rfl hl (by decide) rfl (fun ls hl => ?_)
  obtain ⟨g1_, hF⟩ := Zgs hF
  refine lv_iinc (v := i32 (x4 + 1)) (lv' := [(4, .int (i32 (x4 + 1))), (3, .int (i32 (y0))), (0, .ref (ad 68)), (1, .int (i32 (x1))), (2, .int (i32 (x2)))]) S.1 S.2.1 dX11_state_79 hl (k := 4) rfl Yiinc (by decide) rfl (fun ls hl => ?_)
  refine lv_goto (tgt := 38) S.1 S.2.1 dX11_state_82 (by decide) ?_
  exact hk38 _ _ _ _ _ _ _ _ hF hw hzz hx1 hx2 hy0 g1_ (lv_sub hl [2, 3, 4, 1, 0] rfl)
set_option maxRecDepth 100000 in
set_option maxHeartbeats 4000000 in
theorem w_X11_state_b73 {RR : Int × ZI} (S : CallFix p m c cX11_state 5 s args Ztbl RX11) (hr : meth.sig.returnType = some .int) (hlk : meth.locks = false) (hR : 1 ≤ R.frames ∧ 60 * (1) ≤ R.locals) (hdj : Zdj ad) {k38 : ZI → Int → Int → Int → Int → Option (Int × ZI)} (hk38 : ∀ (z : ZI) (x1 : Int) (x2 : Int) (x3 : Int) (x4 : Int) (H : Heap) (locs : List Loc) (ls : Array Slot), k38 z x1 x2 x3 x4 = some RR → ZW D cA ad (ZA ad) (Zc z) s H locs → Zok z → InR x1 → InR x2 → InR x3 → InR x4 → lv_has ls 5 [(0, .ref (ad 68)), (1, .int (i32 (x1))), (2, .int (i32 (x2))), (3, .int (i32 (x3))), (4, .int (i32 (x4)))] → W p l e R s m args below meth c H locs 0 0 (MQ below (YQi D cA ad RR.1 RR.2) args s 0 0 (ZA ad)) (F0 m 38 ls [])) : ∀ (z : ZI) (x1 : Int) (x2 : Int) (x4 : Int) (H : Heap) (locs : List Loc) (ls : Array Slot), X11_state_b73 k38 z x1 x2 x4 = some RR → ZW D cA ad (ZA ad) (Zc z) s H locs → Zok z → InR x1 → InR x2 → InR x4 → lv_has ls 5 [(0, .ref (ad 68)), (1, .int (i32 (x1))), (2, .int (i32 (x2))), (4, .int (i32 (x4)))] → W p l e R s m args below meth c H locs 0 0 (MQ below (YQi D cA ad RR.1 RR.2) args s 0 0 (ZA ad)) (F0 m 73 ls []) := by
  intro z x1 x2 x4 H locs ls hF hw hzz hx1 hx2 hx4 hl
  unfold X11_state_b73 at hF
  refine lv_iconst (v := i32 1) S.1 S.2.1 dX11_state_73 ic_1 ?_
  refine lv_goto (tgt := 78) S.1 S.2.1 dX11_state_74 (by decide) ?_
  exact w_X11_state_b78 S hr hlk hR hdj hk38 _ _ _ _ _ _ _ _ hF hw hzz hx1 hx2 hx4 r_1 (lv_sub hl [0, 1, 2, 3] rfl)
set_option maxRecDepth 100000 in
set_option maxHeartbeats 4000000 in
theorem w_X11_state_b77 {RR : Int × ZI} (S : CallFix p m c cX11_state 5 s args Ztbl RX11) (hr : meth.sig.returnType = some .int) (hlk : meth.locks = false) (hR : 1 ≤ R.frames ∧ 60 * (1) ≤ R.locals) (hdj : Zdj ad) {k38 : ZI → Int → Int → Int → Int → Option (Int × ZI)} (hk38 : ∀ (z : ZI) (x1 : Int) (x2 : Int) (x3 : Int) (x4 : Int) (H : Heap) (locs : List Loc) (ls : Array Slot), k38 z x1 x2 x3 x4 = some RR → ZW D cA ad (ZA ad) (Zc z) s H locs → Zok z → InR x1 → InR x2 → InR x3 → InR x4 → lv_has ls 5 [(0, .ref (ad 68)), (1, .int (i32 (x1))), (2, .int (i32 (x2))), (3, .int (i32 (x3))), (4, .int (i32 (x4)))] → W p l e R s m args below meth c H locs 0 0 (MQ below (YQi D cA ad RR.1 RR.2) args s 0 0 (ZA ad)) (F0 m 38 ls [])) : ∀ (z : ZI) (x1 : Int) (x2 : Int) (x4 : Int) (H : Heap) (locs : List Loc) (ls : Array Slot), X11_state_b77 k38 z x1 x2 x4 = some RR → ZW D cA ad (ZA ad) (Zc z) s H locs → Zok z → InR x1 → InR x2 → InR x4 → lv_has ls 5 [(0, .ref (ad 68)), (1, .int (i32 (x1))), (2, .int (i32 (x2))), (4, .int (i32 (x4)))] → W p l e R s m args below meth c H locs 0 0 (MQ below (YQi D cA ad RR.1 RR.2) args s 0 0 (ZA ad)) (F0 m 77 ls []) := by
  intro z x1 x2 x4 H locs ls hF hw hzz hx1 hx2 hx4 hl
  unfold X11_state_b77 at hF
  refine lv_iconst (v := i32 0) S.1 S.2.1 dX11_state_77 ic_0 ?_
  exact w_X11_state_b78 S hr hlk hR hdj hk38 _ _ _ _ _ _ _ _ hF hw hzz hx1 hx2 hx4 r_0 (lv_sub hl [0, 1, 2, 3] rfl)
set_option maxRecDepth 100000 in
set_option maxHeartbeats 4000000 in
theorem w_X11_state_L38 {RR : Int × ZI} (S : CallFix p m c cX11_state 5 s args Ztbl RX11) (hr : meth.sig.returnType = some .int) (hlk : meth.locks = false) (hR : 1 ≤ R.frames ∧ 60 * (1) ≤ R.locals) (hdj : Zdj ad) : ∀ (n : Nat) (z : ZI) (x1 : Int) (x2 : Int) (x3 : Int) (x4 : Int) (H : Heap) (locs : List Loc) (ls : Array Slot), X11_state_L38 n z x1 x2 x3 x4 = some RR → ZW D cA ad (ZA ad) (Zc z) s H locs → Zok z → InR x1 → InR x2 → InR x3 → InR x4 → lv_has ls 5 [(0, .ref (ad 68)), (1, .int (i32 (x1))), (2, .int (i32 (x2))), (3, .int (i32 (x3))), (4, .int (i32 (x4)))] → W p l e R s m args below meth c H locs 0 0 (MQ below (YQi D cA ad RR.1 RR.2) args s 0 0 (ZA ad)) (F0 m 38 ls []) := by
  intro n
  induction n with
  | zero => intro z x1 x2 x3 x4 H locs ls hF; exact nomatch hF
  | succ n hk38 =>
    intro z x1 x2 x3 x4 H locs ls hF hw hzz hx1 hx2 hx3 hx4 hl
    replace hF : X11_state_L38b (X11_state_L38 n) z x1 x2 x3 x4 = some RR := hF
    unfold X11_state_L38b at hF
    refine lv_iload S.1 S.2.1 dX11_state_38 (lv_at hl 4 rfl) ?_
    refine lv_aload_n S.1 S.2.1 dX11_state_40 rfl (lv_at hl 0 rfl) ?_
    refine gg_X11_240 S hw dX11_state_41 ?_
    refine Yicmp_ge (tgt := 85) S hx4 (hzz.1 68 14 (by decide)) dX11_state_44 (by decide) (fun c1_ => ?_) (fun c1_ => ?_)
    · replace hF := ZtP c1_ hF
      exact w_X11_state_b85 S hr hlk hR hdj _ _ _ _ _ _ _ hF hw hzz hx1 hx2 hx3 (lv_sub hl [0, 1, 2, 3] rfl)
    · replace hF := ZtN c1_ hF
      refine lv_iload_n S.1 S.2.1 dX11_state_47 rfl (lv_at hl 3 rfl) ?_
      refine Yif_ne (tgt := 73) S hx3 dX11_state_48 (by decide) (fun c2_ => ?_) (fun c2_ => ?_)
      · replace hF := ZtN c2_ hF
        exact w_X11_state_b73 S hr hlk hR hdj hk38 _ _ _ _ _ _ _ hF hw hzz hx1 hx2 hx4 (lv_sub hl [0, 1, 2, 4] rfl)
      · replace hF := ZtP c2_ hF
        refine lv_aload_n S.1 S.2.1 dX11_state_51 rfl (lv_at hl 0 rfl) ?_
        refine gf_X11_34 S hw dX11_state_52 ?_
        refine lv_iload S.1 S.2.1 dX11_state_55 (lv_at hl 4 rfl) ?_
        obtain ⟨b3_, hF⟩ := Zgs hF
        refine Yiald S hw zd_77 (by decide) hx4 b3_ dX11_state_57 ?_
        refine lv_iload_n S.1 S.2.1 dX11_state_58 rfl (lv_at hl 1 rfl) ?_
        refine Yicmp_ne (tgt := 77) S (hzz.1 _ _ (by decide)) hx1 dX11_state_59 (by decide) (fun c4_ => ?_) (fun c4_ => ?_)
        · replace hF := ZtN c4_ hF
          exact w_X11_state_b77 S hr hlk hR hdj hk38 _ _ _ _ _ _ _ hF hw hzz hx1 hx2 hx4 (lv_sub hl [0, 1, 2, 4] rfl)
        · replace hF := ZtP c4_ hF
          refine lv_aload_n S.1 S.2.1 dX11_state_62 rfl (lv_at hl 0 rfl) ?_
          refine gf_X11_37 S hw dX11_state_63 ?_
          refine lv_iload S.1 S.2.1 dX11_state_66 (lv_at hl 4 rfl) ?_
          obtain ⟨b5_, hF⟩ := Zgs hF
          refine Yiald S hw zd_78 (by decide) hx4 b5_ dX11_state_68 ?_
          refine lv_iconst (v := i32 4) S.1 S.2.1 dX11_state_69 ic_4 ?_
          refine Yicmp_ne (tgt := 77) S (hzz.1 _ _ (by decide)) r_4 dX11_state_70 (by decide) (fun c6_ => ?_) (fun c6_ => ?_)
          · replace hF := ZtN c6_ hF
            exact w_X11_state_b77 S hr hlk hR hdj hk38 _ _ _ _ _ _ _ hF hw hzz hx1 hx2 hx4 (lv_sub hl [0, 1, 2, 4] rfl)
          · replace hF := ZtP c6_ hF
            exact w_X11_state_b73 S hr hlk hR hdj hk38 _ _ _ _ _ _ _ hF hw hzz hx1 hx2 hx4 (lv_sub hl [0, 1, 2, 4] rfl)
set_option maxRecDepth 100000 in
set_option maxHeartbeats 4000000 in
theorem c_X11_state {l : Launch} {D : va_G} {cA : Nat → ClassId} {ad : Nat → Nat} (hdj : Zdj ad) {z z1 : ZI} {x1 : Int} {x2 : Int} {r : Int} (hzz : Zok z) (hx1 : InR x1) (hx2 : InR x2) (hF : F_X11_state z x1 x2 = some (r, z1)) : YMi l D cA ad (1) yX11_state cX11_state 5 (some .int) [.ref (ad 68), .int (i32 x1), .int (i32 x2)] z r z1 :=
  Zmet hdj (by decide) rfl (Nat.le_of_ble_eq_true rfl) (lv := [(0, .ref (ad 68)), (1, .int (i32 (x1))), (2, .int (i32 (x2)))]) rfl (fun p e s m args below meth c ls S hr hlk hw hl => by
    have hR : 1 ≤ (Zrm (1)).frames ∧ 60 * (1) ≤ (Zrm (1)).locals := ⟨Nat.le_refl _, Nat.le_refl _⟩
    unfold F_X11_state at hF
    revert hR
    generalize Zrm (1) = R
    intro hR
    refine lv_aload_n S.1 S.2.1 dX11_state_0 rfl (lv_at hl 0 rfl) ?_
    refine lv_iload_n S.1 S.2.1 dX11_state_1 rfl (lv_at hl 1 rfl) ?_
    obtain ⟨r3_, z1_, h2_, hF⟩ := Ybs hF
    refine YcallVi (rest := []) S hw (c_X11_isPerson hdj hzz hx1 h2_) my_X11_isPerson mi_X11_isPerson ml_X11_243 zd_68 zc_X11 rfl (Zrr hR (by decide)) ⟨Nat.zero_le _, Nat.zero_le _⟩ hl.1 rfl rfl (Nat.le_of_ble_eq_true rfl) dX11_state_2 (fun hrr3_ hzz1_ H locs hw => ?_)
    refine Yif_ne (tgt := 14) S hrr3_ dX11_state_5 (by decide) (fun c4_ => ?_) (fun c4_ => ?_)
    · replace hF := ZtN c4_ hF
      refine lv_iload_n S.1 S.2.1 dX11_state_14 rfl (lv_at hl 2 rfl) ?_
      refine Yi2l S hx2 dX11_state_15 ?_
      refine lv_lconst (v := i64 0) S.1 S.2.1 dX11_state_16 lc_0 ?_
      refine lv_ldc2 (own := RX11) (v := i64 4) S.1 S.2.1 S.2.2.2.1 (S.2.2.2.2 _ yl_X11_246) dX11_state_17 ?_
      obtain ⟨r7_, z5_, h6_, hF⟩ := Ybs hF
      refine YcallSi (rest := []) S hw (c_X11_isIn hdj hzz1_ (InR_L hx2) (InR_L r_0) (InR_L r_4) h6_) my_X11_isIn ms_X11_isIn ml_X11_226 (Zrr hR (by decide)) ⟨Nat.zero_le _, Nat.zero_le _⟩ hl.1 rfl rfl (Nat.le_of_ble_eq_true rfl) dX11_state_20 (fun hrr7_ hzz5_ H locs hw => ?_)
      refine Yif_ne (tgt := 33) S hrr7_ dX11_state_23 (by decide) (fun c8_ => ?_) (fun c8_ => ?_)
      · replace hF := ZtN c8_ hF
        refine lv_iconst (v := i32 0) S.1 S.2.1 dX11_state_33 ic_0 ?_
        refine lv_istore_n (lv' := [(3, .int (i32 (0))), (0, .ref (ad 68)), (1, .int (i32 (x1))), (2, .int (i32 (x2)))]) S.1 S.2.1 dX11_state_34 rfl hl (by decide) rfl (fun ls hl => ?_)
        refine lv_iconst (v := i32 0) S.1 S.2.1 dX11_state_35 ic_0 ?_
        refine lv_istore (lv' := [(4, .int (i32 (0))), (3, .int (i32 (0))), (0, .ref (ad 68)), (1, .int (i32 (x1))), (2, .int (i32 (x2)))]) S.1 S.2.1 dX11_state_36 hl (by decide) rfl (fun ls hl => ?_)
        exact w_X11_state_L38 S hr hlk hR hdj Zfuel _ _ _ _ _ _ _ _ hF hw hzz5_ hx1 hx2 r_0 r_0 (lv_sub hl [2, 3, 4, 1, 0] rfl)
      · replace hF := ZtP c8_ hF
        refine lv_aload_n S.1 S.2.1 dX11_state_26 rfl (lv_at hl 0 rfl) ?_
        refine lv_bipush (v := i32 (-2)) S.1 S.2.1 dX11_state_27 bp_m2 ?_
        obtain ⟨r11_, z9_, h10_, hF⟩ := Ybs hF
        refine YcallVi (rest := []) S hw (c_X11_no hdj hzz5_ r_m2 h10_) my_X11_no mi_X11_no ml_X11_207 zd_68 zc_X11 rfl (Zrr hR (by decide)) ⟨Nat.zero_le _, Nat.zero_le _⟩ hl.1 rfl rfl (Nat.le_of_ble_eq_true rfl) dX11_state_29 (fun hrr11_ hzz9_ H locs hw => ?_)
        exact Yireti S hw hzz9_ hrr11_ hr hlk hF dX11_state_32
    · replace hF := ZtP c4_ hF
      refine lv_aload_n S.1 S.2.1 dX11_state_8 rfl (lv_at hl 0 rfl) ?_
      refine lv_iconst (v := i32 (-1)) S.1 S.2.1 dX11_state_9 ic_m1 ?_
      obtain ⟨r14_, z12_, h13_, hF⟩ := Ybs hF
      refine YcallVi (rest := []) S hw (c_X11_no hdj hzz1_ r_m1 h13_) my_X11_no mi_X11_no ml_X11_207 zd_68 zc_X11 rfl (Zrr hR (by decide)) ⟨Nat.zero_le _, Nat.zero_le _⟩ hl.1 rfl rfl (Nat.le_of_ble_eq_true rfl) dX11_state_10 (fun hrr14_ hzz12_ H locs hw => ?_)
      exact Yireti S hw hzz12_ hrr14_ hr hlk hF dX11_state_13)
set_option maxRecDepth 100000 in
set_option maxHeartbeats 4000000 in
theorem w_X11_stateOf_b42 {RR : Int × ZI} (S : CallFix p m c cX11_stateOf 4 s args Ztbl RX11) (hr : meth.sig.returnType = some .int) (hlk : meth.locks = false) (hR : 1 ≤ R.frames ∧ 60 * (1) ≤ R.locals) (hdj : Zdj ad) : ∀ (z : ZI) (y0 : Int) (H : Heap) (locs : List Loc) (ls : Array Slot), X11_stateOf_b42 z y0 = some RR → ZW D cA ad (ZA ad) (Zc z) s H locs → Zok z → InR y0 → lv_has ls 4 [] → W p l e R s m args below meth c H locs 0 0 (MQ below (YQi D cA ad RR.1 RR.2) args s 0 0 (ZA ad)) (F0 m 42 ls [.int (i32 (y0))]) := by
  intro z y0 H locs ls hF hw hzz hy0 hl
  unfold X11_stateOf_b42 at hF
  exact Yireti S hw hzz hy0 hr hlk hF dX11_stateOf_42
set_option maxRecDepth 100000 in
set_option maxHeartbeats 4000000 in
theorem c_X11_stateOf {l : Launch} {D : va_G} {cA : Nat → ClassId} {ad : Nat → Nat} (hdj : Zdj ad) {z z1 : ZI} {x1 : Int} {x2 : Int} {r : Int} (hzz : Zok z) (hx1 : InR x1) (hx2 : InR x2) (hF : F_X11_stateOf z x1 x2 = some (r, z1)) : YMi l D cA ad (1) yX11_stateOf cX11_stateOf 4 (some .int) [.ref (ad 68), .int (i32 x1), .int (i32 x2)] z r z1 :=
  Zmet hdj (by decide) rfl (Nat.le_of_ble_eq_true rfl) (lv := [(0, .ref (ad 68)), (1, .int (i32 (x1))), (2, .int (i32 (x2)))]) rfl (fun p e s m args below meth c ls S hr hlk hw hl => by
    have hR : 1 ≤ (Zrm (1)).frames ∧ 60 * (1) ≤ (Zrm (1)).locals := ⟨Nat.le_refl _, Nat.le_refl _⟩
    unfold F_X11_stateOf at hF
    revert hR
    generalize Zrm (1) = R
    intro hR
    refine lv_aload_n S.1 S.2.1 dX11_stateOf_0 rfl (lv_at hl 0 rfl) ?_
    refine lv_iload_n S.1 S.2.1 dX11_stateOf_1 rfl (lv_at hl 1 rfl) ?_
    obtain ⟨r3_, z1_, h2_, hF⟩ := Ybs hF
    refine YcallVi (rest := []) S hw (c_X11_isPerson hdj hzz hx1 h2_) my_X11_isPerson mi_X11_isPerson ml_X11_243 zd_68 zc_X11 rfl (Zrr hR (by decide)) ⟨Nat.zero_le _, Nat.zero_le _⟩ hl.1 rfl rfl (Nat.le_of_ble_eq_true rfl) dX11_stateOf_2 (fun hrr3_ hzz1_ H locs hw => ?_)
    refine Yif_ne (tgt := 14) S hrr3_ dX11_stateOf_5 (by decide) (fun c4_ => ?_) (fun c4_ => ?_)
    · replace hF := ZtN c4_ hF
      refine lv_iload_n S.1 S.2.1 dX11_stateOf_14 rfl (lv_at hl 2 rfl) ?_
      refine Yi2l S hx2 dX11_stateOf_15 ?_
      refine lv_lconst (v := i64 0) S.1 S.2.1 dX11_stateOf_16 lc_0 ?_
      refine lv_ldc2 (own := RX11) (v := i64 999) S.1 S.2.1 S.2.2.2.1 (S.2.2.2.2 _ yl_X11_256) dX11_stateOf_17 ?_
      obtain ⟨r7_, z5_, h6_, hF⟩ := Ybs hF
      refine YcallSi (rest := []) S hw (c_X11_out hdj hzz1_ (InR_L hx2) (InR_L r_0) (InR_L r_999) h6_) my_X11_out ms_X11_out ml_X11_203 (Zrr hR (by decide)) ⟨Nat.zero_le _, Nat.zero_le _⟩ hl.1 rfl rfl (Nat.le_of_ble_eq_true rfl) dX11_stateOf_20 (fun hrr7_ hzz5_ H locs hw => ?_)
      refine lv_istore_n (lv' := [(3, .int (i32 (r7_))), (0, .ref (ad 68)), (1, .int (i32 (x1))), (2, .int (i32 (x2)))]) S.1 S.2.1 dX11_stateOf_23 rfl hl (by decide) rfl (fun ls hl => ?_)
      refine lv_iload_n S.1 S.2.1 dX11_stateOf_24 rfl (lv_at hl 0 rfl) ?_
      refine Yif_eq (tgt := 36) S hrr7_ dX11_stateOf_25 (by decide) (fun c8_ => ?_) (fun c8_ => ?_)
      · replace hF := ZtP c8_ hF
        refine lv_aload_n S.1 S.2.1 dX11_stateOf_36 rfl (lv_at hl 1 rfl) ?_
        refine lv_iload_n S.1 S.2.1 dX11_stateOf_37 rfl (lv_at hl 2 rfl) ?_
        refine lv_iload_n S.1 S.2.1 dX11_stateOf_38 rfl (lv_at hl 3 rfl) ?_
        obtain ⟨r11_, z9_, h10_, hF⟩ := Ybs hF
        refine YcallVi (rest := []) S hw (c_X11_stateOn hdj hzz5_ hx1 hx2 h10_) my_X11_stateOn mi_X11_stateOn ml_X11_252 zd_68 zc_X11 rfl (Zrr hR (by decide)) ⟨Nat.zero_le _, Nat.zero_le _⟩ hl.1 rfl rfl (Nat.le_of_ble_eq_true rfl) dX11_stateOf_39 (fun hrr11_ hzz9_ H locs hw => ?_)
        exact w_X11_stateOf_b42 S hr hlk hR hdj _ _ _ _ _ hF hw hzz9_ hrr11_ (lv_sub hl [] rfl)
      · replace hF := ZtN c8_ hF
        refine lv_aload_n S.1 S.2.1 dX11_stateOf_28 rfl (lv_at hl 1 rfl) ?_
        refine lv_iload_n S.1 S.2.1 dX11_stateOf_29 rfl (lv_at hl 0 rfl) ?_
        obtain ⟨r14_, z12_, h13_, hF⟩ := Ybs hF
        refine YcallVi (rest := []) S hw (c_X11_no hdj hzz5_ hrr7_ h13_) my_X11_no mi_X11_no ml_X11_207 zd_68 zc_X11 rfl (Zrr hR (by decide)) ⟨Nat.zero_le _, Nat.zero_le _⟩ hl.1 rfl rfl (Nat.le_of_ble_eq_true rfl) dX11_stateOf_30 (fun hrr14_ hzz12_ H locs hw => ?_)
        refine lv_goto (tgt := 42) S.1 S.2.1 dX11_stateOf_33 (by decide) ?_
        exact w_X11_stateOf_b42 S hr hlk hR hdj _ _ _ _ _ hF hw hzz12_ hrr14_ (lv_sub hl [] rfl)
    · replace hF := ZtP c4_ hF
      refine lv_aload_n S.1 S.2.1 dX11_stateOf_8 rfl (lv_at hl 0 rfl) ?_
      refine lv_iconst (v := i32 (-1)) S.1 S.2.1 dX11_stateOf_9 ic_m1 ?_
      obtain ⟨r17_, z15_, h16_, hF⟩ := Ybs hF
      refine YcallVi (rest := []) S hw (c_X11_no hdj hzz1_ r_m1 h16_) my_X11_no mi_X11_no ml_X11_207 zd_68 zc_X11 rfl (Zrr hR (by decide)) ⟨Nat.zero_le _, Nat.zero_le _⟩ hl.1 rfl rfl (Nat.le_of_ble_eq_true rfl) dX11_stateOf_10 (fun hrr17_ hzz15_ H locs hw => ?_)
      exact Yireti S hw hzz15_ hrr17_ hr hlk hF dX11_stateOf_13)
set_option maxRecDepth 100000 in
set_option maxHeartbeats 4000000 in
theorem w_X11_total_b162 {RR : Int × ZI} (S : CallFix p m c cX11_total 4 s args Ztbl RX11) (hr : meth.sig.returnType = some .int) (hlk : meth.locks = false) (hR : 2 ≤ R.frames ∧ 60 * (2) ≤ R.locals) (hdj : Zdj ad) {k139 : ZI → Int → Int → Option (Int × ZI)} (hk139 : ∀ (z : ZI) (x2 : Int) (x3 : Int) (H : Heap) (locs : List Loc) (ls : Array Slot), k139 z x2 x3 = some RR → ZW D cA ad (ZA ad) (Zc z) s H locs → Zok z → InR x2 → InR x3 → lv_has ls 4 [(0, .ref (ad 68)), (2, .int (i32 (x2))), (3, .int (i32 (x3)))] → W p l e R s m args below meth c H locs 0 0 (MQ below (YQi D cA ad RR.1 RR.2) args s 0 0 (ZA ad)) (F0 m 139 ls [])) : ∀ (z : ZI) (x3 : Int) (y0 : Int) (y1 : Int) (H : Heap) (locs : List Loc) (ls : Array Slot), X11_total_b162 k139 z x3 y0 y1 = some RR → ZW D cA ad (ZA ad) (Zc z) s H locs → Zok z → InR x3 → InR y0 → InR y1 → lv_has ls 4 [(0, .ref (ad 68)), (3, .int (i32 (x3)))] → W p l e R s m args below meth c H locs 0 0 (MQ below (YQi D cA ad RR.1 RR.2) args s 0 0 (ZA ad)) (F0 m 162 ls [.int (i32 (y1)), .int (i32 (y0))]) := by
  intro z x3 y0 y1 H locs ls hF hw hzz hx3 hy0 hy1 hl
  unfold X11_total_b162 at hF
  obtain ⟨g1_, hF⟩ := Zgs hF
  refine Yiadd S dX11_total_162 ?_
  refine lv_istore_n (lv' := [(2, .int (i32 (y0 + y1))), (0, .ref (ad 68)), (3, .int (i32 (x3)))]) S.1 S.2.1 dX11_total_163 rfl hl (by decide) rfl (fun ls hl => ?_)
  obtain ⟨g2_, hF⟩ := Zgs hF
  refine lv_iinc (v := i32 (x3 + 1)) (lv' := [(3, .int (i32 (x3 + 1))), (2, .int (i32 (y0 + y1))), (0, .ref (ad 68))]) S.1 S.2.1 dX11_total_164 hl (k := 2) rfl Yiinc (by decide) rfl (fun ls hl => ?_)
  refine lv_goto (tgt := 139) S.1 S.2.1 dX11_total_167 (by decide) ?_
  exact hk139 _ _ _ _ _ _ hF hw hzz g1_ g2_ (lv_sub hl [2, 1, 0] rfl)
set_option maxRecDepth 100000 in
set_option maxHeartbeats 4000000 in
theorem w_X11_total_L139 {RR : Int × ZI} (S : CallFix p m c cX11_total 4 s args Ztbl RX11) (hr : meth.sig.returnType = some .int) (hlk : meth.locks = false) (hR : 2 ≤ R.frames ∧ 60 * (2) ≤ R.locals) (hdj : Zdj ad) : ∀ (n : Nat) (z : ZI) (x2 : Int) (x3 : Int) (H : Heap) (locs : List Loc) (ls : Array Slot), X11_total_L139 n z x2 x3 = some RR → ZW D cA ad (ZA ad) (Zc z) s H locs → Zok z → InR x2 → InR x3 → lv_has ls 4 [(0, .ref (ad 68)), (2, .int (i32 (x2))), (3, .int (i32 (x3)))] → W p l e R s m args below meth c H locs 0 0 (MQ below (YQi D cA ad RR.1 RR.2) args s 0 0 (ZA ad)) (F0 m 139 ls []) := by
  intro n
  induction n with
  | zero => intro z x2 x3 H locs ls hF; exact nomatch hF
  | succ n hk139 =>
    intro z x2 x3 H locs ls hF hw hzz hx2 hx3 hl
    replace hF : X11_total_L139b (X11_total_L139 n) z x2 x3 = some RR := hF
    unfold X11_total_L139b at hF
    refine lv_iload_n S.1 S.2.1 dX11_total_139 rfl (lv_at hl 2 rfl) ?_
    refine lv_aload_n S.1 S.2.1 dX11_total_140 rfl (lv_at hl 0 rfl) ?_
    refine gg_X11_320 S hw dX11_total_141 ?_
    refine Yicmp_ge (tgt := 170) S hx3 (hzz.1 68 34 (by decide)) dX11_total_144 (by decide) (fun c1_ => ?_) (fun c1_ => ?_)
    · replace hF := ZtP c1_ hF
      refine lv_iload_n S.1 S.2.1 dX11_total_170 rfl (lv_at hl 1 rfl) ?_
      exact Yireti S hw hzz hx2 hr hlk hF dX11_total_171
    · replace hF := ZtN c1_ hF
      refine lv_iload_n S.1 S.2.1 dX11_total_147 rfl (lv_at hl 1 rfl) ?_
      refine lv_aload_n S.1 S.2.1 dX11_total_148 rfl (lv_at hl 0 rfl) ?_
      refine gf_X11_74 S hw dX11_total_149 ?_
      refine lv_iload_n S.1 S.2.1 dX11_total_152 rfl (lv_at hl 2 rfl) ?_
      obtain ⟨b2_, hF⟩ := Zgs hF
      refine Yiald S hw zd_90 (by decide) hx3 b2_ dX11_total_153 ?_
      refine Yif_ge (tgt := 161) S (hzz.1 _ _ (by decide)) dX11_total_154 (by decide) (fun c3_ => ?_) (fun c3_ => ?_)
      · replace hF := ZtP c3_ hF
        refine lv_iconst (v := i32 0) S.1 S.2.1 dX11_total_161 ic_0 ?_
        exact w_X11_total_b162 S hr hlk hR hdj hk139 _ _ _ _ _ _ _ hF hw hzz hx3 hx2 r_0 (lv_sub hl [0, 2] rfl)
      · replace hF := ZtN c3_ hF
        refine lv_iconst (v := i32 1) S.1 S.2.1 dX11_total_157 ic_1 ?_
        refine lv_goto (tgt := 162) S.1 S.2.1 dX11_total_158 (by decide) ?_
        exact w_X11_total_b162 S hr hlk hR hdj hk139 _ _ _ _ _ _ _ hF hw hzz hx3 hx2 r_1 (lv_sub hl [0, 2] rfl)
set_option maxRecDepth 100000 in
set_option maxHeartbeats 4000000 in
theorem w_X11_total_b127 {RR : Int × ZI} (S : CallFix p m c cX11_total 4 s args Ztbl RX11) (hr : meth.sig.returnType = some .int) (hlk : meth.locks = false) (hR : 2 ≤ R.frames ∧ 60 * (2) ≤ R.locals) (hdj : Zdj ad) {k101 : ZI → Int → Int → Option (Int × ZI)} (hk101 : ∀ (z : ZI) (x2 : Int) (x3 : Int) (H : Heap) (locs : List Loc) (ls : Array Slot), k101 z x2 x3 = some RR → ZW D cA ad (ZA ad) (Zc z) s H locs → Zok z → InR x2 → InR x3 → lv_has ls 4 [(0, .ref (ad 68)), (2, .int (i32 (x2))), (3, .int (i32 (x3)))] → W p l e R s m args below meth c H locs 0 0 (MQ below (YQi D cA ad RR.1 RR.2) args s 0 0 (ZA ad)) (F0 m 101 ls [])) : ∀ (z : ZI) (x3 : Int) (y0 : Int) (y1 : Int) (H : Heap) (locs : List Loc) (ls : Array Slot), X11_total_b127 k101 z x3 y0 y1 = some RR → ZW D cA ad (ZA ad) (Zc z) s H locs → Zok z → InR x3 → InR y0 → InR y1 → lv_has ls 4 [(0, .ref (ad 68)), (3, .int (i32 (x3)))] → W p l e R s m args below meth c H locs 0 0 (MQ below (YQi D cA ad RR.1 RR.2) args s 0 0 (ZA ad)) (F0 m 127 ls [.int (i32 (y1)), .int (i32 (y0))]) := by
  intro z x3 y0 y1 H locs ls hF hw hzz hx3 hy0 hy1 hl
  unfold X11_total_b127 at hF
  obtain ⟨g1_, hF⟩ := Zgs hF
  refine Yiadd S dX11_total_127 ?_
  refine lv_istore_n (lv' := [(2, .int (i32 (y0 + y1))), (0, .ref (ad 68)), (3, .int (i32 (x3)))]) S.1 S.2.1 dX11_total_128 rfl hl (by decide) rfl (fun ls hl => ?_)
  obtain ⟨g2_, hF⟩ := Zgs hF
  refine lv_iinc (v := i32 (x3 + 1)) (lv' := [(3, .int (i32 (x3 + 1))), (2, .int (i32 (y0 + y1))), (0, .ref (ad 68))]) S.1 S.2.1 dX11_total_129 hl (k := 2) rfl Yiinc (by decide) rfl (fun ls hl => ?_)
  refine lv_goto (tgt := 101) S.1 S.2.1 dX11_total_132 (by decide) ?_
  exact hk101 _ _ _ _ _ _ hF hw hzz g1_ g2_ (lv_sub hl [2, 1, 0] rfl)
set_option maxRecDepth 100000 in
set_option maxHeartbeats 4000000 in
theorem w_X11_total_L101 {RR : Int × ZI} (S : CallFix p m c cX11_total 4 s args Ztbl RX11) (hr : meth.sig.returnType = some .int) (hlk : meth.locks = false) (hR : 2 ≤ R.frames ∧ 60 * (2) ≤ R.locals) (hdj : Zdj ad) : ∀ (n : Nat) (z : ZI) (x2 : Int) (x3 : Int) (H : Heap) (locs : List Loc) (ls : Array Slot), X11_total_L101 n z x2 x3 = some RR → ZW D cA ad (ZA ad) (Zc z) s H locs → Zok z → InR x2 → InR x3 → lv_has ls 4 [(0, .ref (ad 68)), (2, .int (i32 (x2))), (3, .int (i32 (x3)))] → W p l e R s m args below meth c H locs 0 0 (MQ below (YQi D cA ad RR.1 RR.2) args s 0 0 (ZA ad)) (F0 m 101 ls []) := by
  intro n
  induction n with
  | zero => intro z x2 x3 H locs ls hF; exact nomatch hF
  | succ n hk101 =>
    intro z x2 x3 H locs ls hF hw hzz hx2 hx3 hl
    replace hF : X11_total_L101b (X11_total_L101 n) z x2 x3 = some RR := hF
    unfold X11_total_L101b at hF
    refine lv_iload_n S.1 S.2.1 dX11_total_101 rfl (lv_at hl 2 rfl) ?_
    refine lv_aload_n S.1 S.2.1 dX11_total_102 rfl (lv_at hl 0 rfl) ?_
    refine gg_X11_197 S hw dX11_total_103 ?_
    refine Yicmp_ge (tgt := 135) S hx3 (hzz.1 68 13 (by decide)) dX11_total_106 (by decide) (fun c1_ => ?_) (fun c1_ => ?_)
    · replace hF := ZtP c1_ hF
      refine lv_iload_n S.1 S.2.1 dX11_total_135 rfl (lv_at hl 1 rfl) ?_
      exact Yireti S hw hzz hx2 hr hlk hF dX11_total_136
    · replace hF := ZtN c1_ hF
      refine lv_iload_n S.1 S.2.1 dX11_total_109 rfl (lv_at hl 1 rfl) ?_
      refine lv_aload_n S.1 S.2.1 dX11_total_110 rfl (lv_at hl 0 rfl) ?_
      refine lv_iload_n S.1 S.2.1 dX11_total_111 rfl (lv_at hl 2 rfl) ?_
      refine lv_aload_n S.1 S.2.1 dX11_total_112 rfl (lv_at hl 0 rfl) ?_
      refine gg_X11_200 S hw dX11_total_113 ?_
      obtain ⟨r4_, z2_, h3_, hF⟩ := Ybs hF
      refine YcallVi (rest := [.int (i32 (x2))]) S hw (c_X11_isHere hdj hzz hx3 (hzz.1 68 11 (by decide)) h3_) my_X11_isHere mi_X11_isHere ml_X11_258 zd_68 zc_X11 rfl (Zrr hR (by decide)) ⟨Nat.zero_le _, Nat.zero_le _⟩ hl.1 rfl rfl (Nat.le_of_ble_eq_true rfl) dX11_total_116 (fun hrr4_ hzz2_ H locs hw => ?_)
      refine Yif_eq (tgt := 126) S hrr4_ dX11_total_119 (by decide) (fun c5_ => ?_) (fun c5_ => ?_)
      · replace hF := ZtP c5_ hF
        refine lv_iconst (v := i32 0) S.1 S.2.1 dX11_total_126 ic_0 ?_
        exact w_X11_total_b127 S hr hlk hR hdj hk101 _ _ _ _ _ _ _ hF hw hzz2_ hx3 hx2 r_0 (lv_sub hl [0, 2] rfl)
      · replace hF := ZtN c5_ hF
        refine lv_iconst (v := i32 1) S.1 S.2.1 dX11_total_122 ic_1 ?_
        refine lv_goto (tgt := 127) S.1 S.2.1 dX11_total_123 (by decide) ?_
        exact w_X11_total_b127 S hr hlk hR hdj hk101 _ _ _ _ _ _ _ hF hw hzz2_ hx3 hx2 r_1 (lv_sub hl [0, 2] rfl)
set_option maxRecDepth 100000 in
set_option maxHeartbeats 4000000 in
theorem c_X11_total {l : Launch} {D : va_G} {cA : Nat → ClassId} {ad : Nat → Nat} (hdj : Zdj ad) {z z1 : ZI} {x1 : Int} {r : Int} (hzz : Zok z) (hx1 : InR x1) (hF : F_X11_total z x1 = some (r, z1)) : YMi l D cA ad (2) yX11_total cX11_total 4 (some .int) [.ref (ad 68), .int (i32 x1)] z r z1 :=
  Zmet hdj (by decide) rfl (Nat.le_of_ble_eq_true rfl) (lv := [(0, .ref (ad 68)), (1, .int (i32 (x1)))]) rfl (fun p e s m args below meth c ls S hr hlk hw hl => by
    have hR : 2 ≤ (Zrm (2)).frames ∧ 60 * (2) ≤ (Zrm (2)).locals := ⟨Nat.le_refl _, Nat.le_refl _⟩
    unfold F_X11_total at hF
    revert hR
    generalize Zrm (2) = R
    intro hR
    refine lv_iload_n S.1 S.2.1 dX11_total_0 rfl (lv_at hl 1 rfl) ?_
    refine Yi2l S hx1 dX11_total_1 ?_
    refine lv_ldc2 (own := RX11) (v := i64 11) S.1 S.2.1 S.2.2.2.1 (S.2.2.2.2 _ yl_X11_462) dX11_total_2 ?_
    refine lv_ldc2 (own := RX11) (v := i64 16) S.1 S.2.1 S.2.2.2.1 (S.2.2.2.2 _ yl_X11_464) dX11_total_5 ?_
    obtain ⟨r3_, z1_, h2_, hF⟩ := Ybs hF
    refine YcallSi (rest := []) S hw (c_X11_isIn hdj hzz (InR_L hx1) (InR_L r_11) (InR_L r_16) h2_) my_X11_isIn ms_X11_isIn ml_X11_226 (Zrr hR (by decide)) ⟨Nat.zero_le _, Nat.zero_le _⟩ hl.1 rfl rfl (Nat.le_of_ble_eq_true rfl) dX11_total_8 (fun hrr3_ hzz1_ H locs hw => ?_)
    refine Yif_eq (tgt := 24) S hrr3_ dX11_total_11 (by decide) (fun c4_ => ?_) (fun c4_ => ?_)
    · replace hF := ZtP c4_ hF
      refine lv_iconst (v := i32 0) S.1 S.2.1 dX11_total_24 ic_0 ?_
      refine lv_istore_n (lv' := [(2, .int (i32 (0))), (0, .ref (ad 68)), (1, .int (i32 (x1)))]) S.1 S.2.1 dX11_total_25 rfl hl (by decide) rfl (fun ls hl => ?_)
      refine lv_iload_n S.1 S.2.1 dX11_total_26 rfl (lv_at hl 2 rfl) ?_
      by_cases c5_ : x1 = 0
      · replace hF := ZtP c5_ hF
        refine lv_tableIn (off := 57) (tgt := 84) S.1 S.2.1 dX11_total_27 (by rw [c5_]; decide +kernel) (by rw [c5_]; decide +kernel) (by rw [c5_]; decide +kernel) (by decide) ?_
        refine lv_aload_n S.1 S.2.1 dX11_total_84 rfl (lv_at hl 1 rfl) ?_
        refine gg_X11_200 S hw dX11_total_85 ?_
        exact Yireti S hw hzz1_ (hzz1_.1 68 11 (by decide)) hr hlk hF dX11_total_88
      replace hF := ZtN c5_ hF
      by_cases c6_ : x1 = 1
      · replace hF := ZtP c6_ hF
        refine lv_tableIn (off := 62) (tgt := 89) S.1 S.2.1 dX11_total_27 (by rw [c6_]; decide +kernel) (by rw [c6_]; decide +kernel) (by rw [c6_]; decide +kernel) (by decide) ?_
        refine lv_aload_n S.1 S.2.1 dX11_total_89 rfl (lv_at hl 1 rfl) ?_
        refine gg_X11_193 S hw dX11_total_90 ?_
        exact Yireti S hw hzz1_ (hzz1_.1 68 12 (by decide)) hr hlk hF dX11_total_93
      replace hF := ZtN c6_ hF
      by_cases c7_ : x1 = 2
      · replace hF := ZtP c7_ hF
        refine lv_tableIn (off := 67) (tgt := 94) S.1 S.2.1 dX11_total_27 (by rw [c7_]; decide +kernel) (by rw [c7_]; decide +kernel) (by rw [c7_]; decide +kernel) (by decide) ?_
        refine lv_aload_n S.1 S.2.1 dX11_total_94 rfl (lv_at hl 1 rfl) ?_
        refine gg_X11_197 S hw dX11_total_95 ?_
        exact Yireti S hw hzz1_ (hzz1_.1 68 13 (by decide)) hr hlk hF dX11_total_98
      replace hF := ZtN c7_ hF
      by_cases c8_ : x1 = 3
      · replace hF := ZtP c8_ hF
        refine lv_tableIn (off := 72) (tgt := 99) S.1 S.2.1 dX11_total_27 (by rw [c8_]; decide +kernel) (by rw [c8_]; decide +kernel) (by rw [c8_]; decide +kernel) (by decide) ?_
        refine lv_iconst (v := i32 0) S.1 S.2.1 dX11_total_99 ic_0 ?_
        refine lv_istore_n (lv' := [(3, .int (i32 (0))), (2, .int (i32 (0))), (0, .ref (ad 68)), (1, .int (i32 (x1)))]) S.1 S.2.1 dX11_total_100 rfl hl (by decide) rfl (fun ls hl => ?_)
        exact w_X11_total_L101 S hr hlk hR hdj Zfuel _ _ _ _ _ _ hF hw hzz1_ r_0 r_0 (lv_sub hl [2, 1, 0] rfl)
      replace hF := ZtN c8_ hF
      by_cases c9_ : x1 = 4
      · replace hF := ZtP c9_ hF
        refine lv_tableIn (off := 110) (tgt := 137) S.1 S.2.1 dX11_total_27 (by rw [c9_]; decide +kernel) (by rw [c9_]; decide +kernel) (by rw [c9_]; decide +kernel) (by decide) ?_
        refine lv_iconst (v := i32 0) S.1 S.2.1 dX11_total_137 ic_0 ?_
        refine lv_istore_n (lv' := [(3, .int (i32 (0))), (2, .int (i32 (0))), (0, .ref (ad 68)), (1, .int (i32 (x1)))]) S.1 S.2.1 dX11_total_138 rfl hl (by decide) rfl (fun ls hl => ?_)
        exact w_X11_total_L139 S hr hlk hR hdj Zfuel _ _ _ _ _ _ hF hw hzz1_ r_0 r_0 (lv_sub hl [2, 1, 0] rfl)
      replace hF := ZtN c9_ hF
      by_cases c10_ : x1 = 5
      · replace hF := ZtP c10_ hF
        refine lv_tableIn (off := 145) (tgt := 172) S.1 S.2.1 dX11_total_27 (by rw [c10_]; decide +kernel) (by rw [c10_]; decide +kernel) (by rw [c10_]; decide +kernel) (by decide) ?_
        refine lv_aload_n S.1 S.2.1 dX11_total_172 rfl (lv_at hl 1 rfl) ?_
        refine gg_X11_344 S hw dX11_total_173 ?_
        exact Yireti S hw hzz1_ (hzz1_.1 68 35 (by decide)) hr hlk hF dX11_total_176
      replace hF := ZtN c10_ hF
      by_cases c11_ : x1 = 6
      · replace hF := ZtP c11_ hF
        refine lv_tableIn (off := 150) (tgt := 177) S.1 S.2.1 dX11_total_27 (by rw [c11_]; decide +kernel) (by rw [c11_]; decide +kernel) (by rw [c11_]; decide +kernel) (by decide) ?_
        refine lv_aload_n S.1 S.2.1 dX11_total_177 rfl (lv_at hl 1 rfl) ?_
        refine gg_X11_369 S hw dX11_total_178 ?_
        exact Yireti S hw hzz1_ (hzz1_.1 68 47 (by decide)) hr hlk hF dX11_total_181
      replace hF := ZtN c11_ hF
      by_cases c12_ : x1 = 7
      · replace hF := ZtP c12_ hF
        refine lv_tableIn (off := 155) (tgt := 182) S.1 S.2.1 dX11_total_27 (by rw [c12_]; decide +kernel) (by rw [c12_]; decide +kernel) (by rw [c12_]; decide +kernel) (by decide) ?_
        refine lv_aload_n S.1 S.2.1 dX11_total_182 rfl (lv_at hl 1 rfl) ?_
        refine gg_X11_409 S hw dX11_total_183 ?_
        exact Yireti S hw hzz1_ (hzz1_.1 68 61 (by decide)) hr hlk hF dX11_total_186
      replace hF := ZtN c12_ hF
      by_cases c13_ : x1 = 8
      · replace hF := ZtP c13_ hF
        refine lv_tableIn (off := 160) (tgt := 187) S.1 S.2.1 dX11_total_27 (by rw [c13_]; decide +kernel) (by rw [c13_]; decide +kernel) (by rw [c13_]; decide +kernel) (by decide) ?_
        refine lv_aload_n S.1 S.2.1 dX11_total_187 rfl (lv_at hl 1 rfl) ?_
        refine gg_X11_442 S hw dX11_total_188 ?_
        exact Yireti S hw hzz1_ (hzz1_.1 68 78 (by decide)) hr hlk hF dX11_total_191
      replace hF := ZtN c13_ hF
      by_cases c14_ : x1 = 9
      · replace hF := ZtP c14_ hF
        refine lv_tableIn (off := 165) (tgt := 192) S.1 S.2.1 dX11_total_27 (by rw [c14_]; decide +kernel) (by rw [c14_]; decide +kernel) (by rw [c14_]; decide +kernel) (by decide) ?_
        refine lv_aload_n S.1 S.2.1 dX11_total_192 rfl (lv_at hl 1 rfl) ?_
        refine gg_X11_267 S hw dX11_total_193 ?_
        exact Yireti S hw hzz1_ (hzz1_.1 68 21 (by decide)) hr hlk hF dX11_total_196
      replace hF := ZtN c14_ hF
      by_cases c15_ : x1 = 10
      · replace hF := ZtP c15_ hF
        refine lv_tableIn (off := 170) (tgt := 197) S.1 S.2.1 dX11_total_27 (by rw [c15_]; decide +kernel) (by rw [c15_]; decide +kernel) (by rw [c15_]; decide +kernel) (by decide) ?_
        refine lv_aload_n S.1 S.2.1 dX11_total_197 rfl (lv_at hl 1 rfl) ?_
        refine gg_X11_288 S hw dX11_total_198 ?_
        exact Yireti S hw hzz1_ (hzz1_.1 68 22 (by decide)) hr hlk hF dX11_total_201
      replace hF := ZtN c15_ hF
      refine lv_tableOut (tgt := 202) S.1 S.2.1 dX11_total_27 (Ytout hx1 [0, 1, 2, 3, 4, 5, 6, 7, 8, 9, 10] (by decide) (List.forall_mem_cons.mpr ⟨c5_, (List.forall_mem_cons.mpr ⟨c6_, (List.forall_mem_cons.mpr ⟨c7_, (List.forall_mem_cons.mpr ⟨c8_, (List.forall_mem_cons.mpr ⟨c9_, (List.forall_mem_cons.mpr ⟨c10_, (List.forall_mem_cons.mpr ⟨c11_, (List.forall_mem_cons.mpr ⟨c12_, (List.forall_mem_cons.mpr ⟨c13_, (List.forall_mem_cons.mpr ⟨c14_, (List.forall_mem_cons.mpr ⟨c15_, (fun _ h9 => nomatch h9)⟩)⟩)⟩)⟩)⟩)⟩)⟩)⟩)⟩)⟩)⟩)) (by decide) ?_
      refine lv_bipush (v := i32 (-9)) S.1 S.2.1 dX11_total_202 bp_m9 ?_
      exact Yireti S hw hzz1_ r_m9 hr hlk hF dX11_total_204
    · replace hF := ZtN c4_ hF
      refine lv_aload_n S.1 S.2.1 dX11_total_14 rfl (lv_at hl 0 rfl) ?_
      refine gf_X11_7 S hw dX11_total_15 ?_
      refine lv_iload_n S.1 S.2.1 dX11_total_18 rfl (lv_at hl 1 rfl) ?_
      refine lv_bipush (v := i32 10) S.1 S.2.1 dX11_total_19 bp_10 ?_
      obtain ⟨g16_, hF⟩ := Zgs hF
      refine Yisub S dX11_total_21 ?_
      obtain ⟨b17_, hF⟩ := Zgs hF
      refine Yiald S hw zd_69 (by decide) g16_ b17_ dX11_total_22 ?_
      exact Yireti S hw hzz1_ (hzz1_.1 _ _ (by decide)) hr hlk hF dX11_total_23)
set_option maxRecDepth 100000 in
set_option maxHeartbeats 4000000 in
theorem w_X11_well_b56 {RR : Int × ZI} (S : CallFix p m c cX11_well 5 s args Ztbl RX11) (hr : meth.sig.returnType = some .int) (hlk : meth.locks = false) (hR : 1 ≤ R.frames ∧ 60 * (1) ≤ R.locals) (hdj : Zdj ad) : ∀ (z : ZI) (x1 : Int) (x2 : Int) (x3 : Int) (y0 : Int) (H : Heap) (locs : List Loc) (ls : Array Slot), X11_well_b56 z x1 x2 x3 y0 = some RR → ZW D cA ad (ZA ad) (Zc z) s H locs → Zok z → InR x1 → InR x2 → InR x3 → InR y0 → lv_has ls 5 [(0, .ref (ad 68)), (1, .int (i32 (x1))), (2, .int (i32 (x2))), (3, .int (i32 (x3)))] → W p l e R s m args below meth c H locs 0 0 (MQ below (YQi D cA ad RR.1 RR.2) args s 0 0 (ZA ad)) (F0 m 56 ls [.int (i32 (y0))]) := by
  intro z x1 x2 x3 y0 H locs ls hF hw hzz hx1 hx2 hx3 hy0 hl
  unfold X11_well_b56 at hF
  refine lv_istore (lv' := [(4, .int (i32 (y0))), (0, .ref (ad 68)), (1, .int (i32 (x1))), (2, .int (i32 (x2))), (3, .int (i32 (x3)))]) S.1 S.2.1 dX11_well_56 hl (by decide) rfl (fun ls hl => ?_)
  refine lv_iload S.1 S.2.1 dX11_well_58 (lv_at hl 0 rfl) ?_
  refine Yif_eq (tgt := 70) S hy0 dX11_well_60 (by decide) (fun c1_ => ?_) (fun c1_ => ?_)
  · replace hF := ZtP c1_ hF
    refine lv_aload_n S.1 S.2.1 dX11_well_70 rfl (lv_at hl 1 rfl) ?_
    refine gf_X11_90 S hw dX11_well_71 ?_
    refine lv_aload_n S.1 S.2.1 dX11_well_74 rfl (lv_at hl 1 rfl) ?_
    refine gg_X11_369 S hw dX11_well_75 ?_
    refine lv_iload_n S.1 S.2.1 dX11_well_78 rfl (lv_at hl 2 rfl) ?_
    obtain ⟨b2_, hF⟩ := Zgs hF
    refine Yiast S hw hzz zd_95 (by decide) (hzz.1 68 47 (by decide)) hx1 b2_ dX11_well_79 (fun z3_ H locs ez hzz3_ hw => ?_)
    replace hF := Zle ez hF; clear ez
    refine lv_aload_n S.1 S.2.1 dX11_well_80 rfl (lv_at hl 1 rfl) ?_
    refine gf_X11_93 S hw dX11_well_81 ?_
    refine lv_aload_n S.1 S.2.1 dX11_well_84 rfl (lv_at hl 1 rfl) ?_
    refine gg_X11_369 S hw dX11_well_85 ?_
    refine lv_iload_n S.1 S.2.1 dX11_well_88 rfl (lv_at hl 3 rfl) ?_
    obtain ⟨b4_, hF⟩ := Zgs hF
    refine Yiast S hw hzz3_ zd_96 (by decide) (hzz3_.1 68 47 (by decide)) hx2 b4_ dX11_well_89 (fun z5_ H locs ez hzz5_ hw => ?_)
    replace hF := Zle ez hF; clear ez
    refine lv_aload_n S.1 S.2.1 dX11_well_90 rfl (lv_at hl 1 rfl) ?_
    refine gf_X11_96 S hw dX11_well_91 ?_
    refine lv_aload_n S.1 S.2.1 dX11_well_94 rfl (lv_at hl 1 rfl) ?_
    refine gg_X11_369 S hw dX11_well_95 ?_
    refine lv_iload_n S.1 S.2.1 dX11_well_98 rfl (lv_at hl 4 rfl) ?_
    obtain ⟨b6_, hF⟩ := Zgs hF
    refine Yiast S hw hzz5_ zd_97 (by decide) (hzz5_.1 68 47 (by decide)) hx3 b6_ dX11_well_99 (fun z7_ H locs ez hzz7_ hw => ?_)
    replace hF := Zle ez hF; clear ez
    refine lv_aload_n S.1 S.2.1 dX11_well_100 rfl (lv_at hl 1 rfl) ?_
    refine lv_dup S.1 S.2.1 dX11_well_101 rfl ?_
    refine gg_X11_369 S hw dX11_well_102 ?_
    refine lv_iconst (v := i32 1) S.1 S.2.1 dX11_well_105 ic_1 ?_
    obtain ⟨g8_, hF⟩ := Zgs hF
    refine Yiadd S dX11_well_106 ?_
    refine pp_X11_369 S hw hzz7_ g8_ dX11_well_107 (fun z9_ H locs ez hzz9_ hw => ?_)
    replace hF := Zle ez hF; clear ez
    refine lv_aload_n S.1 S.2.1 dX11_well_110 rfl (lv_at hl 1 rfl) ?_
    refine gg_X11_369 S hw dX11_well_111 ?_
    refine lv_iconst (v := i32 1) S.1 S.2.1 dX11_well_114 ic_1 ?_
    obtain ⟨g10_, hF⟩ := Zgs hF
    refine Yisub S dX11_well_115 ?_
    exact Yireti S hw hzz9_ g10_ hr hlk hF dX11_well_116
  · replace hF := ZtN c1_ hF
    refine lv_aload_n S.1 S.2.1 dX11_well_63 rfl (lv_at hl 1 rfl) ?_
    refine lv_iload S.1 S.2.1 dX11_well_64 (lv_at hl 0 rfl) ?_
    obtain ⟨r13_, z11_, h12_, hF⟩ := Ybs hF
    refine YcallVi (rest := []) S hw (c_X11_no hdj hzz hy0 h12_) my_X11_no mi_X11_no ml_X11_207 zd_68 zc_X11 rfl (Zrr hR (by decide)) ⟨Nat.zero_le _, Nat.zero_le _⟩ hl.1 rfl rfl (Nat.le_of_ble_eq_true rfl) dX11_well_66 (fun hrr13_ hzz11_ H locs hw => ?_)
    exact Yireti S hw hzz11_ hrr13_ hr hlk hF dX11_well_69
set_option maxRecDepth 100000 in
set_option maxHeartbeats 4000000 in
theorem w_X11_well_b23 {RR : Int × ZI} (S : CallFix p m c cX11_well 5 s args Ztbl RX11) (hr : meth.sig.returnType = some .int) (hlk : meth.locks = false) (hR : 1 ≤ R.frames ∧ 60 * (1) ≤ R.locals) (hdj : Zdj ad) : ∀ (z : ZI) (x1 : Int) (x2 : Int) (x3 : Int) (H : Heap) (locs : List Loc) (ls : Array Slot), X11_well_b23 z x1 x2 x3 = some RR → ZW D cA ad (ZA ad) (Zc z) s H locs → Zok z → InR x1 → InR x2 → InR x3 → lv_has ls 5 [(0, .ref (ad 68)), (1, .int (i32 (x1))), (2, .int (i32 (x2))), (3, .int (i32 (x3)))] → W p l e R s m args below meth c H locs 0 0 (MQ below (YQi D cA ad RR.1 RR.2) args s 0 0 (ZA ad)) (F0 m 23 ls []) := by
  intro z x1 x2 x3 H locs ls hF hw hzz hx1 hx2 hx3 hl
  unfold X11_well_b23 at hF
  refine lv_bipush (v := i32 (-4)) S.1 S.2.1 dX11_well_23 bp_m4 ?_
  refine lv_goto (tgt := 56) S.1 S.2.1 dX11_well_25 (by decide) ?_
  exact w_X11_well_b56 S hr hlk hR hdj _ _ _ _ _ _ _ _ hF hw hzz hx1 hx2 hx3 r_m4 (lv_sub hl [0, 1, 2, 3] rfl)
set_option maxRecDepth 100000 in
set_option maxHeartbeats 4000000 in
theorem w_X11_well_b50 {RR : Int × ZI} (S : CallFix p m c cX11_well 5 s args Ztbl RX11) (hr : meth.sig.returnType = some .int) (hlk : meth.locks = false) (hR : 1 ≤ R.frames ∧ 60 * (1) ≤ R.locals) (hdj : Zdj ad) : ∀ (z : ZI) (x1 : Int) (x2 : Int) (x3 : Int) (H : Heap) (locs : List Loc) (ls : Array Slot), X11_well_b50 z x1 x2 x3 = some RR → ZW D cA ad (ZA ad) (Zc z) s H locs → Zok z → InR x1 → InR x2 → InR x3 → lv_has ls 5 [(0, .ref (ad 68)), (1, .int (i32 (x1))), (2, .int (i32 (x2))), (3, .int (i32 (x3)))] → W p l e R s m args below meth c H locs 0 0 (MQ below (YQi D cA ad RR.1 RR.2) args s 0 0 (ZA ad)) (F0 m 50 ls []) := by
  intro z x1 x2 x3 H locs ls hF hw hzz hx1 hx2 hx3 hl
  unfold X11_well_b50 at hF
  refine lv_bipush (v := i32 (-6)) S.1 S.2.1 dX11_well_50 bp_m6 ?_
  refine lv_goto (tgt := 56) S.1 S.2.1 dX11_well_52 (by decide) ?_
  exact w_X11_well_b56 S hr hlk hR hdj _ _ _ _ _ _ _ _ hF hw hzz hx1 hx2 hx3 r_m6 (lv_sub hl [0, 1, 2, 3] rfl)
set_option maxRecDepth 100000 in
set_option maxHeartbeats 4000000 in
theorem c_X11_well {l : Launch} {D : va_G} {cA : Nat → ClassId} {ad : Nat → Nat} (hdj : Zdj ad) {z z1 : ZI} {x1 : Int} {x2 : Int} {x3 : Int} {r : Int} (hzz : Zok z) (hx1 : InR x1) (hx2 : InR x2) (hx3 : InR x3) (hF : F_X11_well z x1 x2 x3 = some (r, z1)) : YMi l D cA ad (1) yX11_well cX11_well 5 (some .int) [.ref (ad 68), .int (i32 x1), .int (i32 x2), .int (i32 x3)] z r z1 :=
  Zmet hdj (by decide) rfl (Nat.le_of_ble_eq_true rfl) (lv := [(0, .ref (ad 68)), (1, .int (i32 (x1))), (2, .int (i32 (x2))), (3, .int (i32 (x3)))]) rfl (fun p e s m args below meth c ls S hr hlk hw hl => by
    have hR : 1 ≤ (Zrm (1)).frames ∧ 60 * (1) ≤ (Zrm (1)).locals := ⟨Nat.le_refl _, Nat.le_refl _⟩
    unfold F_X11_well at hF
    revert hR
    generalize Zrm (1) = R
    intro hR
    refine lv_iload_n S.1 S.2.1 dX11_well_0 rfl (lv_at hl 1 rfl) ?_
    obtain ⟨r3_, z1_, h2_, hF⟩ := Ybs hF
    refine YcallSi (rest := []) S hw (c_X11_isCell hdj hzz hx1 h2_) my_X11_isCell ms_X11_isCell ml_X11_211 (Zrr hR (by decide)) ⟨Nat.zero_le _, Nat.zero_le _⟩ hl.1 rfl rfl (Nat.le_of_ble_eq_true rfl) dX11_well_1 (fun hrr3_ hzz1_ H locs hw => ?_)
    refine Yif_ne (tgt := 13) S hrr3_ dX11_well_4 (by decide) (fun c4_ => ?_) (fun c4_ => ?_)
    · replace hF := ZtN c4_ hF
      refine lv_iload_n S.1 S.2.1 dX11_well_13 rfl (lv_at hl 2 rfl) ?_
      refine lv_iconst (v := i32 1) S.1 S.2.1 dX11_well_14 ic_1 ?_
      refine Yicmp_lt (tgt := 23) S hx2 r_1 dX11_well_15 (by decide) (fun c5_ => ?_) (fun c5_ => ?_)
      · replace hF := ZtP c5_ hF
        exact w_X11_well_b23 S hr hlk hR hdj _ _ _ _ _ _ _ hF hw hzz1_ hx1 hx2 hx3 (lv_sub hl [0, 1, 2, 3] rfl)
      · replace hF := ZtN c5_ hF
        refine lv_iload_n S.1 S.2.1 dX11_well_18 rfl (lv_at hl 3 rfl) ?_
        refine lv_iconst (v := i32 1) S.1 S.2.1 dX11_well_19 ic_1 ?_
        refine Yicmp_ge (tgt := 28) S hx3 r_1 dX11_well_20 (by decide) (fun c6_ => ?_) (fun c6_ => ?_)
        · replace hF := ZtP c6_ hF
          refine lv_iload_n S.1 S.2.1 dX11_well_28 rfl (lv_at hl 2 rfl) ?_
          refine lv_bipush (v := i32 99) S.1 S.2.1 dX11_well_29 bp_99 ?_
          refine Yicmp_gt (tgt := 50) S hx2 r_99 dX11_well_31 (by decide) (fun c7_ => ?_) (fun c7_ => ?_)
          · replace hF := ZtP c7_ hF
            exact w_X11_well_b50 S hr hlk hR hdj _ _ _ _ _ _ _ hF hw hzz1_ hx1 hx2 hx3 (lv_sub hl [0, 1, 2, 3] rfl)
          · replace hF := ZtN c7_ hF
            refine lv_iload_n S.1 S.2.1 dX11_well_34 rfl (lv_at hl 3 rfl) ?_
            refine lv_sipush (v := i32 9999) S.1 S.2.1 dX11_well_35 sp_9999 ?_
            refine Yicmp_gt (tgt := 50) S hx3 r_9999 dX11_well_38 (by decide) (fun c8_ => ?_) (fun c8_ => ?_)
            · replace hF := ZtP c8_ hF
              exact w_X11_well_b50 S hr hlk hR hdj _ _ _ _ _ _ _ hF hw hzz1_ hx1 hx2 hx3 (lv_sub hl [0, 1, 2, 3] rfl)
            · replace hF := ZtN c8_ hF
              refine lv_aload_n S.1 S.2.1 dX11_well_41 rfl (lv_at hl 0 rfl) ?_
              refine gg_X11_369 S hw dX11_well_42 ?_
              refine lv_bipush (v := i32 6) S.1 S.2.1 dX11_well_45 bp_6 ?_
              refine Yicmp_ne (tgt := 55) S (hzz1_.1 68 47 (by decide)) r_6 dX11_well_47 (by decide) (fun c9_ => ?_) (fun c9_ => ?_)
              · replace hF := ZtN c9_ hF
                refine lv_iconst (v := i32 0) S.1 S.2.1 dX11_well_55 ic_0 ?_
                exact w_X11_well_b56 S hr hlk hR hdj _ _ _ _ _ _ _ _ hF hw hzz1_ hx1 hx2 hx3 r_0 (lv_sub hl [0, 1, 2, 3] rfl)
              · replace hF := ZtP c9_ hF
                exact w_X11_well_b50 S hr hlk hR hdj _ _ _ _ _ _ _ hF hw hzz1_ hx1 hx2 hx3 (lv_sub hl [0, 1, 2, 3] rfl)
        · replace hF := ZtN c6_ hF
          exact w_X11_well_b23 S hr hlk hR hdj _ _ _ _ _ _ _ hF hw hzz1_ hx1 hx2 hx3 (lv_sub hl [0, 1, 2, 3] rfl)
    · replace hF := ZtP c4_ hF
      refine lv_aload_n S.1 S.2.1 dX11_well_7 rfl (lv_at hl 0 rfl) ?_
      refine lv_iconst (v := i32 (-1)) S.1 S.2.1 dX11_well_8 ic_m1 ?_
      obtain ⟨r12_, z10_, h11_, hF⟩ := Ybs hF
      refine YcallVi (rest := []) S hw (c_X11_no hdj hzz1_ r_m1 h11_) my_X11_no mi_X11_no ml_X11_207 zd_68 zc_X11 rfl (Zrr hR (by decide)) ⟨Nat.zero_le _, Nat.zero_le _⟩ hl.1 rfl rfl (Nat.le_of_ble_eq_true rfl) dX11_well_9 (fun hrr12_ hzz10_ H locs hw => ?_)
      exact Yireti S hw hzz10_ hrr12_ hr hlk hF dX11_well_12)
end ZWALK
