section ZWALK
variable {p : Program} {l : Launch} {e : Env} {R : Room} {s : State} {m : MethodId} {args : Array Value} {below : List Frame} {meth : Method} {c : Code}
variable {D : va_G} {cA : Nat → ClassId} {ad : Nat → Nat}
set_option maxRecDepth 100000 in
set_option maxHeartbeats 4000000 in
theorem w_X6_next_b28 {RR : Int × ZI} (S : CallFix p m c cX6_next 1 s args Ztbl RX6) (hr : meth.sig.returnType = some .int) (hlk : meth.locks = false) (hR : 0 ≤ R.frames ∧ 60 * (0) ≤ R.locals) (hdj : Zdj ad) : ∀ (z : ZI) (y0 : Int) (H : Heap) (locs : List Loc) (ls : Array Slot), X6_next_b28 z y0 = some RR → ZW D cA ad (ZA ad) (Zc z) s H locs → Zok z → InR y0 → lv_has ls 1 [] → W p l e R s m args below meth c H locs 0 0 (MQ below (YQi D cA ad RR.1 RR.2) args s 0 0 (ZA ad)) (F0 m 28 ls [.int (i32 (y0))]) := by
  intro z y0 H locs ls hF hw hzz hy0 hl
  unfold X6_next_b28 at hF
  exact Yireti S hw hzz hy0 hr hlk hF dX6_next_28
set_option maxRecDepth 100000 in
set_option maxHeartbeats 4000000 in
theorem c_X6_next {l : Launch} {D : va_G} {cA : Nat → ClassId} {ad : Nat → Nat} (hdj : Zdj ad) {z z1 : ZI} {r : Int} (hzz : Zok z) (hF : F_X6_next z  = some (r, z1)) : YMi l D cA ad (0) yX6_next cX6_next 1 (some .int) [.ref (ad 30)] z r z1 :=
  Zmet hdj (by decide) rfl (Nat.le_of_ble_eq_true rfl) (lv := [(0, .ref (ad 30))]) rfl (fun p e s m args below meth c ls S hr hlk hw hl => by
    have hR : 0 ≤ (Zrm (0)).frames ∧ 60 * (0) ≤ (Zrm (0)).locals := ⟨Nat.le_refl _, Nat.le_refl _⟩
    unfold F_X6_next at hF
    revert hR
    generalize Zrm (0) = R
    intro hR
    refine lv_aload_n S.1 S.2.1 dX6_next_0 rfl (lv_at hl 0 rfl) ?_
    refine gg_X6_45 S hw dX6_next_1 ?_
    refine lv_aload_n S.1 S.2.1 dX6_next_4 rfl (lv_at hl 0 rfl) ?_
    refine gg_X6_43 S hw dX6_next_5 ?_
    refine Yicmp_ge (tgt := 27) S (hzz.1 30 3 (by decide)) (hzz.1 30 2 (by decide)) dX6_next_8 (by decide) (fun c1_ => ?_) (fun c1_ => ?_)
    · replace hF := ZtP c1_ hF
      refine lv_iconst (v := i32 0) S.1 S.2.1 dX6_next_27 ic_0 ?_
      exact w_X6_next_b28 S hr hlk hR hdj _ _ _ _ _ hF hw hzz r_0 (lv_sub hl [] rfl)
    · replace hF := ZtN c1_ hF
      refine lv_aload_n S.1 S.2.1 dX6_next_11 rfl (lv_at hl 0 rfl) ?_
      refine gf_X6_23 S hw dX6_next_12 ?_
      refine lv_aload_n S.1 S.2.1 dX6_next_15 rfl (lv_at hl 0 rfl) ?_
      refine gg_X6_45 S hw dX6_next_16 ?_
      obtain ⟨b2_, hF⟩ := Zgs hF
      refine Ybald S hw zd_32 (by decide) (hzz.1 30 3 (by decide)) b2_ dX6_next_19 ?_
      refine lv_sipush (v := i32 255) S.1 S.2.1 dX6_next_20 sp_255 ?_
      refine Yiand S dX6_next_23 ?_
      refine lv_goto (tgt := 28) S.1 S.2.1 dX6_next_24 (by decide) ?_
      exact w_X6_next_b28 S hr hlk hR hdj _ _ _ _ _ hF hw hzz (InR_of _) (lv_sub hl [] rfl))
set_option maxRecDepth 100000 in
set_option maxHeartbeats 4000000 in
theorem w_X6_sound_b14 {RR : Int × ZI} (S : CallFix p m c cX6_sound 1 s args Ztbl RX6) (hr : meth.sig.returnType = some .boolean) (hlk : meth.locks = false) (hR : 0 ≤ R.frames ∧ 60 * (0) ≤ R.locals) (hdj : Zdj ad) : ∀ (z : ZI) (y0 : Int) (H : Heap) (locs : List Loc) (ls : Array Slot), X6_sound_b14 z y0 = some RR → ZW D cA ad (ZA ad) (Zc z) s H locs → Zok z → InR y0 → lv_has ls 1 [] → W p l e R s m args below meth c H locs 0 0 (MQ below (YQi D cA ad RR.1 RR.2) args s 0 0 (ZA ad)) (F0 m 14 ls [.int (i32 (y0))]) := by
  intro z y0 H locs ls hF hw hzz hy0 hl
  unfold X6_sound_b14 at hF
  obtain ⟨b1_, hF⟩ := Zgs hF
  exact Yiretz S hw hzz hy0 hr hlk b1_ hF dX6_sound_14
set_option maxRecDepth 100000 in
set_option maxHeartbeats 4000000 in
theorem c_X6_sound {l : Launch} {D : va_G} {cA : Nat → ClassId} {ad : Nat → Nat} (hdj : Zdj ad) {z z1 : ZI} {r : Int} (hzz : Zok z) (hF : F_X6_sound z  = some (r, z1)) : YMi l D cA ad (0) yX6_sound cX6_sound 1 (some .boolean) [.ref (ad 30)] z r z1 :=
  Zmet hdj (by decide) rfl (Nat.le_of_ble_eq_true rfl) (lv := [(0, .ref (ad 30))]) rfl (fun p e s m args below meth c ls S hr hlk hw hl => by
    have hR : 0 ≤ (Zrm (0)).frames ∧ 60 * (0) ≤ (Zrm (0)).locals := ⟨Nat.le_refl _, Nat.le_refl _⟩
    unfold F_X6_sound at hF
    revert hR
    generalize Zrm (0) = R
    intro hR
    refine lv_aload_n S.1 S.2.1 dX6_sound_0 rfl (lv_at hl 0 rfl) ?_
    refine gg_X6_27 S hw dX6_sound_1 ?_
    refine lv_bipush (v := i32 (-9)) S.1 S.2.1 dX6_sound_4 bp_m9 ?_
    refine Yicmp_ne (tgt := 13) S (hzz.1 30 4 (by decide)) r_m9 dX6_sound_6 (by decide) (fun c1_ => ?_) (fun c1_ => ?_)
    · replace hF := ZtN c1_ hF
      refine lv_iconst (v := i32 0) S.1 S.2.1 dX6_sound_13 ic_0 ?_
      exact w_X6_sound_b14 S hr hlk hR hdj _ _ _ _ _ hF hw hzz r_0 (lv_sub hl [] rfl)
    · replace hF := ZtP c1_ hF
      refine lv_iconst (v := i32 1) S.1 S.2.1 dX6_sound_9 ic_1 ?_
      refine lv_goto (tgt := 14) S.1 S.2.1 dX6_sound_10 (by decide) ?_
      exact w_X6_sound_b14 S hr hlk hR hdj _ _ _ _ _ hF hw hzz r_1 (lv_sub hl [] rfl))
set_option maxRecDepth 100000 in
set_option maxHeartbeats 4000000 in
theorem c_X6_failHere {l : Launch} {D : va_G} {cA : Nat → ClassId} {ad : Nat → Nat} (hdj : Zdj ad) {z z1 : ZI} {r : Int} (hzz : Zok z) (hF : F_X6_failHere z  = some (r, z1)) : YMi l D cA ad (0) yX6_failHere cX6_failHere 1 (some .int) [.ref (ad 30)] z r z1 :=
  Zmet hdj (by decide) rfl (Nat.le_of_ble_eq_true rfl) (lv := [(0, .ref (ad 30))]) rfl (fun p e s m args below meth c ls S hr hlk hw hl => by
    have hR : 0 ≤ (Zrm (0)).frames ∧ 60 * (0) ≤ (Zrm (0)).locals := ⟨Nat.le_refl _, Nat.le_refl _⟩
    unfold F_X6_failHere at hF
    revert hR
    generalize Zrm (0) = R
    intro hR
    refine lv_aload_n S.1 S.2.1 dX6_failHere_0 rfl (lv_at hl 0 rfl) ?_
    refine lv_aload_n S.1 S.2.1 dX6_failHere_1 rfl (lv_at hl 0 rfl) ?_
    refine gg_X6_45 S hw dX6_failHere_2 ?_
    refine pp_X6_27 S hw hzz (hzz.1 30 3 (by decide)) dX6_failHere_5 (fun z1_ H locs ez hzz1_ hw => ?_)
    replace hF := Zle ez hF; clear ez
    refine lv_iconst (v := i32 0) S.1 S.2.1 dX6_failHere_8 ic_0 ?_
    exact Yireti S hw hzz1_ r_0 hr hlk hF dX6_failHere_9)
set_option maxRecDepth 100000 in
set_option maxHeartbeats 4000000 in
theorem c_X6_held {l : Launch} {D : va_G} {cA : Nat → ClassId} {ad : Nat → Nat} (hdj : Zdj ad) {z z1 : ZI} {x0 : Int} {r : Int} (hzz : Zok z) (hx0 : InL x0) (hF : F_X6_held z x0 = some (r, z1)) : YMi l D cA ad (1) yX6_held cX6_held 2 (some .int) [.long (i64 x0)] z r z1 :=
  Zmet hdj (by decide) rfl (Nat.le_of_ble_eq_true rfl) (lv := [(0, .long (i64 (x0)))]) rfl (fun p e s m args below meth c ls S hr hlk hw hl => by
    have hR : 1 ≤ (Zrm (1)).frames ∧ 60 * (1) ≤ (Zrm (1)).locals := ⟨Nat.le_refl _, Nat.le_refl _⟩
    unfold F_X6_held at hF
    revert hR
    generalize Zrm (1) = R
    intro hR
    refine lv_ldc2 (own := RX6) (v := i64 (-1000000000)) S.1 S.2.1 S.2.2.2.1 (S.2.2.2.2 _ yl_X6_56) dX6_held_0 ?_
    refine lv_ldc2 (own := RX6) (v := i64 1000000000) S.1 S.2.1 S.2.2.2.1 (S.2.2.2.2 _ yl_X6_58) dX6_held_3 ?_
    refine lv_lload_n S.1 S.2.1 dX6_held_6 rfl (lv_at hl 0 rfl) ?_
    refine YmminL S (InR_L r_1000000000) hx0 hl ml_X6_60 (Zr1 hR (by decide)) (Zr2 hR (by decide) (Nat.le_of_ble_eq_true rfl)) ⟨Nat.zero_le _, Nat.zero_le _⟩ dX6_held_7 ?_
    refine YmmaxL S (InR_L r_m1000000000) (InL_min (InR_L r_1000000000) hx0) hl ml_X6_66 (Zr1 hR (by decide)) (Zr2 hR (by decide) (Nat.le_of_ble_eq_true rfl)) ⟨Nat.zero_le _, Nat.zero_le _⟩ dX6_held_10 ?_
    refine Yl2i S dX6_held_13 ?_
    exact Yireti S hw hzz (InR_of _) hr hlk hF dX6_held_14)
set_option maxRecDepth 100000 in
set_option maxHeartbeats 4000000 in
theorem w_X6_divided_b13 {RR : Int × ZI} (S : CallFix p m c cX6_divided 4 s args Ztbl RX6) (hr : meth.sig.returnType = some .long) (hlk : meth.locks = false) (hR : 0 ≤ R.frames ∧ 60 * (0) ≤ R.locals) (hdj : Zdj ad) : ∀ (z : ZI) (y0 : Int) (H : Heap) (locs : List Loc) (ls : Array Slot), X6_divided_b13 z y0 = some RR → ZW D cA ad (ZA ad) (Zc z) s H locs → Zok z → InL y0 → lv_has ls 4 [] → W p l e R s m args below meth c H locs 0 0 (MQ below (YQl D cA ad RR.1 RR.2) args s 0 0 (ZA ad)) (F0 m 13 ls [.long (i64 (y0))]) := by
  intro z y0 H locs ls hF hw hzz hy0 hl
  unfold X6_divided_b13 at hF
  exact Ylretl S hw hzz hy0 hr hlk hF dX6_divided_13
set_option maxRecDepth 100000 in
set_option maxHeartbeats 4000000 in
theorem c_X6_divided {l : Launch} {D : va_G} {cA : Nat → ClassId} {ad : Nat → Nat} (hdj : Zdj ad) {z z1 : ZI} {x0 : Int} {x2 : Int} {r : Int} (hzz : Zok z) (hx0 : InL x0) (hx2 : InL x2) (hF : F_X6_divided z x0 x2 = some (r, z1)) : YMl l D cA ad (0) yX6_divided cX6_divided 4 [.long (i64 x0), .long (i64 x2)] z r z1 :=
  Zmet hdj (by decide) rfl (Nat.le_of_ble_eq_true rfl) (lv := [(0, .long (i64 (x0))), (2, .long (i64 (x2)))]) rfl (fun p e s m args below meth c ls S hr hlk hw hl => by
    have hR : 0 ≤ (Zrm (0)).frames ∧ 60 * (0) ≤ (Zrm (0)).locals := ⟨Nat.le_refl _, Nat.le_refl _⟩
    unfold F_X6_divided at hF
    revert hR
    generalize Zrm (0) = R
    intro hR
    refine lv_lload_n S.1 S.2.1 dX6_divided_0 rfl (lv_at hl 1 rfl) ?_
    refine lv_lconst (v := i64 0) S.1 S.2.1 dX6_divided_1 lc_0 ?_
    refine Ylcmp S hx2 (InR_L r_0) dX6_divided_2 ?_
    refine Yif_ne (tgt := 10) S (jcmp_in _ _) dX6_divided_3 (by decide) (fun c1_ => ?_) (fun c1_ => ?_)
    · replace hF := ZtN c1_ hF
      refine lv_lload_n S.1 S.2.1 dX6_divided_10 rfl (lv_at hl 0 rfl) ?_
      refine lv_lload_n S.1 S.2.1 dX6_divided_11 rfl (lv_at hl 1 rfl) ?_
      obtain ⟨g2_, hF⟩ := Zgs hF
      obtain ⟨g3_, hF⟩ := Zgs hF
      refine Yldiv S hx0 hx2 g2_ dX6_divided_12 ?_
      exact w_X6_divided_b13 S hr hlk hR hdj _ _ _ _ _ hF hw hzz g3_ (lv_sub hl [] rfl)
    · replace hF := ZtP c1_ hF
      refine lv_lconst (v := i64 0) S.1 S.2.1 dX6_divided_6 lc_0 ?_
      refine lv_goto (tgt := 13) S.1 S.2.1 dX6_divided_7 (by decide) ?_
      exact w_X6_divided_b13 S hr hlk hR hdj _ _ _ _ _ hF hw hzz (InR_L r_0) (lv_sub hl [] rfl))
set_option maxRecDepth 100000 in
set_option maxHeartbeats 4000000 in
theorem w_X6_isDigit_b17 {RR : Int × ZI} (S : CallFix p m c cX6_isDigit 1 s args Ztbl RX6) (hr : meth.sig.returnType = some .boolean) (hlk : meth.locks = false) (hR : 0 ≤ R.frames ∧ 60 * (0) ≤ R.locals) (hdj : Zdj ad) : ∀ (z : ZI) (y0 : Int) (H : Heap) (locs : List Loc) (ls : Array Slot), X6_isDigit_b17 z y0 = some RR → ZW D cA ad (ZA ad) (Zc z) s H locs → Zok z → InR y0 → lv_has ls 1 [] → W p l e R s m args below meth c H locs 0 0 (MQ below (YQi D cA ad RR.1 RR.2) args s 0 0 (ZA ad)) (F0 m 17 ls [.int (i32 (y0))]) := by
  intro z y0 H locs ls hF hw hzz hy0 hl
  unfold X6_isDigit_b17 at hF
  obtain ⟨b1_, hF⟩ := Zgs hF
  exact Yiretz S hw hzz hy0 hr hlk b1_ hF dX6_isDigit_17
set_option maxRecDepth 100000 in
set_option maxHeartbeats 4000000 in
theorem w_X6_isDigit_b16 {RR : Int × ZI} (S : CallFix p m c cX6_isDigit 1 s args Ztbl RX6) (hr : meth.sig.returnType = some .boolean) (hlk : meth.locks = false) (hR : 0 ≤ R.frames ∧ 60 * (0) ≤ R.locals) (hdj : Zdj ad) : ∀ (z : ZI) (H : Heap) (locs : List Loc) (ls : Array Slot), X6_isDigit_b16 z  = some RR → ZW D cA ad (ZA ad) (Zc z) s H locs → Zok z → lv_has ls 1 [] → W p l e R s m args below meth c H locs 0 0 (MQ below (YQi D cA ad RR.1 RR.2) args s 0 0 (ZA ad)) (F0 m 16 ls []) := by
  intro z  H locs ls hF hw hzz  hl
  unfold X6_isDigit_b16 at hF
  refine lv_iconst (v := i32 0) S.1 S.2.1 dX6_isDigit_16 ic_0 ?_
  exact w_X6_isDigit_b17 S hr hlk hR hdj _ _ _ _ _ hF hw hzz r_0 (lv_sub hl [] rfl)
set_option maxRecDepth 100000 in
set_option maxHeartbeats 4000000 in
theorem c_X6_isDigit {l : Launch} {D : va_G} {cA : Nat → ClassId} {ad : Nat → Nat} (hdj : Zdj ad) {z z1 : ZI} {x0 : Int} {r : Int} (hzz : Zok z) (hx0 : InR x0) (hF : F_X6_isDigit z x0 = some (r, z1)) : YMi l D cA ad (0) yX6_isDigit cX6_isDigit 1 (some .boolean) [.int (i32 x0)] z r z1 :=
  Zmet hdj (by decide) rfl (Nat.le_of_ble_eq_true rfl) (lv := [(0, .int (i32 (x0)))]) rfl (fun p e s m args below meth c ls S hr hlk hw hl => by
    have hR : 0 ≤ (Zrm (0)).frames ∧ 60 * (0) ≤ (Zrm (0)).locals := ⟨Nat.le_refl _, Nat.le_refl _⟩
    unfold F_X6_isDigit at hF
    revert hR
    generalize Zrm (0) = R
    intro hR
    refine lv_iload_n S.1 S.2.1 dX6_isDigit_0 rfl (lv_at hl 0 rfl) ?_
    refine lv_bipush (v := i32 48) S.1 S.2.1 dX6_isDigit_1 bp_48 ?_
    refine Yicmp_lt (tgt := 16) S hx0 r_48 dX6_isDigit_3 (by decide) (fun c1_ => ?_) (fun c1_ => ?_)
    · replace hF := ZtP c1_ hF
      exact w_X6_isDigit_b16 S hr hlk hR hdj _ _ _ _ hF hw hzz  (lv_sub hl [] rfl)
    · replace hF := ZtN c1_ hF
      refine lv_iload_n S.1 S.2.1 dX6_isDigit_6 rfl (lv_at hl 0 rfl) ?_
      refine lv_bipush (v := i32 57) S.1 S.2.1 dX6_isDigit_7 bp_57 ?_
      refine Yicmp_gt (tgt := 16) S hx0 r_57 dX6_isDigit_9 (by decide) (fun c2_ => ?_) (fun c2_ => ?_)
      · replace hF := ZtP c2_ hF
        exact w_X6_isDigit_b16 S hr hlk hR hdj _ _ _ _ hF hw hzz  (lv_sub hl [] rfl)
      · replace hF := ZtN c2_ hF
        refine lv_iconst (v := i32 1) S.1 S.2.1 dX6_isDigit_12 ic_1 ?_
        refine lv_goto (tgt := 17) S.1 S.2.1 dX6_isDigit_13 (by decide) ?_
        exact w_X6_isDigit_b17 S hr hlk hR hdj _ _ _ _ _ hF hw hzz r_1 (lv_sub hl [] rfl))
set_option maxRecDepth 100000 in
set_option maxHeartbeats 4000000 in
theorem w_X6_compared_b58 {RR : Int × ZI} (S : CallFix p m c cX6_compared 4 s args Ztbl RX6) (hr : meth.sig.returnType = some .int) (hlk : meth.locks = false) (hR : 0 ≤ R.frames ∧ 60 * (0) ≤ R.locals) (hdj : Zdj ad) : ∀ (z : ZI) (y0 : Int) (H : Heap) (locs : List Loc) (ls : Array Slot), X6_compared_b58 z y0 = some RR → ZW D cA ad (ZA ad) (Zc z) s H locs → Zok z → InR y0 → lv_has ls 4 [] → W p l e R s m args below meth c H locs 0 0 (MQ below (YQi D cA ad RR.1 RR.2) args s 0 0 (ZA ad)) (F0 m 58 ls [.int (i32 (y0))]) := by
  intro z y0 H locs ls hF hw hzz hy0 hl
  unfold X6_compared_b58 at hF
  exact Yireti S hw hzz hy0 hr hlk hF dX6_compared_58
set_option maxRecDepth 100000 in
set_option maxHeartbeats 4000000 in
theorem w_X6_compared_b48 {RR : Int × ZI} (S : CallFix p m c cX6_compared 4 s args Ztbl RX6) (hr : meth.sig.returnType = some .int) (hlk : meth.locks = false) (hR : 0 ≤ R.frames ∧ 60 * (0) ≤ R.locals) (hdj : Zdj ad) : ∀ (z : ZI) (y0 : Int) (H : Heap) (locs : List Loc) (ls : Array Slot), X6_compared_b48 z y0 = some RR → ZW D cA ad (ZA ad) (Zc z) s H locs → Zok z → InR y0 → lv_has ls 4 [] → W p l e R s m args below meth c H locs 0 0 (MQ below (YQi D cA ad RR.1 RR.2) args s 0 0 (ZA ad)) (F0 m 48 ls [.int (i32 (y0))]) := by
  intro z y0 H locs ls hF hw hzz hy0 hl
  unfold X6_compared_b48 at hF
  refine lv_istore_n (lv' := [(3, .int (i32 (y0)))]) S.1 S.2.1 dX6_compared_48 rfl hl (by decide) rfl (fun ls hl => ?_)
  refine lv_iload_n S.1 S.2.1 dX6_compared_49 rfl (lv_at hl 0 rfl) ?_
  refine Yif_eq (tgt := 57) S hy0 dX6_compared_50 (by decide) (fun c1_ => ?_) (fun c1_ => ?_)
  · replace hF := ZtP c1_ hF
    refine lv_iconst (v := i32 0) S.1 S.2.1 dX6_compared_57 ic_0 ?_
    exact w_X6_compared_b58 S hr hlk hR hdj _ _ _ _ _ hF hw hzz r_0 (lv_sub hl [] rfl)
  · replace hF := ZtN c1_ hF
    refine lv_iconst (v := i32 1) S.1 S.2.1 dX6_compared_53 ic_1 ?_
    refine lv_goto (tgt := 58) S.1 S.2.1 dX6_compared_54 (by decide) ?_
    exact w_X6_compared_b58 S hr hlk hR hdj _ _ _ _ _ hF hw hzz r_1 (lv_sub hl [] rfl)
set_option maxRecDepth 100000 in
set_option maxHeartbeats 4000000 in
theorem c_X6_compared {l : Launch} {D : va_G} {cA : Nat → ClassId} {ad : Nat → Nat} (hdj : Zdj ad) {z z1 : ZI} {x0 : Int} {x1 : Int} {x2 : Int} {r : Int} (hzz : Zok z) (hx0 : InR x0) (hx1 : InR x1) (hx2 : InR x2) (hF : F_X6_compared z x0 x1 x2 = some (r, z1)) : YMi l D cA ad (0) yX6_compared cX6_compared 4 (some .int) [.int (i32 x0), .int (i32 x1), .int (i32 x2)] z r z1 :=
  Zmet hdj (by decide) rfl (Nat.le_of_ble_eq_true rfl) (lv := [(0, .int (i32 (x0))), (1, .int (i32 (x1))), (2, .int (i32 (x2)))]) rfl (fun p e s m args below meth c ls S hr hlk hw hl => by
    have hR : 0 ≤ (Zrm (0)).frames ∧ 60 * (0) ≤ (Zrm (0)).locals := ⟨Nat.le_refl _, Nat.le_refl _⟩
    unfold F_X6_compared at hF
    revert hR
    generalize Zrm (0) = R
    intro hR
    refine lv_iload_n S.1 S.2.1 dX6_compared_0 rfl (lv_at hl 0 rfl) ?_
    refine lv_bipush (v := i32 60) S.1 S.2.1 dX6_compared_1 bp_60 ?_
    refine Yicmp_ne (tgt := 19) S hx0 r_60 dX6_compared_3 (by decide) (fun c1_ => ?_) (fun c1_ => ?_)
    · replace hF := ZtN c1_ hF
      refine lv_iload_n S.1 S.2.1 dX6_compared_19 rfl (lv_at hl 0 rfl) ?_
      refine lv_bipush (v := i32 61) S.1 S.2.1 dX6_compared_20 bp_61 ?_
      refine Yicmp_ne (tgt := 38) S hx0 r_61 dX6_compared_22 (by decide) (fun c2_ => ?_) (fun c2_ => ?_)
      · replace hF := ZtN c2_ hF
        refine lv_iload_n S.1 S.2.1 dX6_compared_38 rfl (lv_at hl 1 rfl) ?_
        refine lv_iload_n S.1 S.2.1 dX6_compared_39 rfl (lv_at hl 2 rfl) ?_
        refine Yicmp_le (tgt := 47) S hx1 hx2 dX6_compared_40 (by decide) (fun c3_ => ?_) (fun c3_ => ?_)
        · replace hF := ZtP c3_ hF
          refine lv_iconst (v := i32 0) S.1 S.2.1 dX6_compared_47 ic_0 ?_
          exact w_X6_compared_b48 S hr hlk hR hdj _ _ _ _ _ hF hw hzz r_0 (lv_sub hl [] rfl)
        · replace hF := ZtN c3_ hF
          refine lv_iconst (v := i32 1) S.1 S.2.1 dX6_compared_43 ic_1 ?_
          refine lv_goto (tgt := 48) S.1 S.2.1 dX6_compared_44 (by decide) ?_
          exact w_X6_compared_b48 S hr hlk hR hdj _ _ _ _ _ hF hw hzz r_1 (lv_sub hl [] rfl)
      · replace hF := ZtP c2_ hF
        refine lv_iload_n S.1 S.2.1 dX6_compared_25 rfl (lv_at hl 1 rfl) ?_
        refine lv_iload_n S.1 S.2.1 dX6_compared_26 rfl (lv_at hl 2 rfl) ?_
        refine Yicmp_ne (tgt := 34) S hx1 hx2 dX6_compared_27 (by decide) (fun c4_ => ?_) (fun c4_ => ?_)
        · replace hF := ZtN c4_ hF
          refine lv_iconst (v := i32 0) S.1 S.2.1 dX6_compared_34 ic_0 ?_
          refine lv_goto (tgt := 48) S.1 S.2.1 dX6_compared_35 (by decide) ?_
          exact w_X6_compared_b48 S hr hlk hR hdj _ _ _ _ _ hF hw hzz r_0 (lv_sub hl [] rfl)
        · replace hF := ZtP c4_ hF
          refine lv_iconst (v := i32 1) S.1 S.2.1 dX6_compared_30 ic_1 ?_
          refine lv_goto (tgt := 48) S.1 S.2.1 dX6_compared_31 (by decide) ?_
          exact w_X6_compared_b48 S hr hlk hR hdj _ _ _ _ _ hF hw hzz r_1 (lv_sub hl [] rfl)
    · replace hF := ZtP c1_ hF
      refine lv_iload_n S.1 S.2.1 dX6_compared_6 rfl (lv_at hl 1 rfl) ?_
      refine lv_iload_n S.1 S.2.1 dX6_compared_7 rfl (lv_at hl 2 rfl) ?_
      refine Yicmp_ge (tgt := 15) S hx1 hx2 dX6_compared_8 (by decide) (fun c5_ => ?_) (fun c5_ => ?_)
      · replace hF := ZtP c5_ hF
        refine lv_iconst (v := i32 0) S.1 S.2.1 dX6_compared_15 ic_0 ?_
        refine lv_goto (tgt := 48) S.1 S.2.1 dX6_compared_16 (by decide) ?_
        exact w_X6_compared_b48 S hr hlk hR hdj _ _ _ _ _ hF hw hzz r_0 (lv_sub hl [] rfl)
      · replace hF := ZtN c5_ hF
        refine lv_iconst (v := i32 1) S.1 S.2.1 dX6_compared_11 ic_1 ?_
        refine lv_goto (tgt := 48) S.1 S.2.1 dX6_compared_12 (by decide) ?_
        exact w_X6_compared_b48 S hr hlk hR hdj _ _ _ _ _ hF hw hzz r_1 (lv_sub hl [] rfl))
set_option maxRecDepth 100000 in
set_option maxHeartbeats 4000000 in
theorem w_J0_isLatin1_aae02_b18 {RR : Int × ZI} (S : CallFix p m c cJ0_isLatin1_aae02 1 s args Ztbl RJ0) (hr : meth.sig.returnType = some .boolean) (hlk : meth.locks = false) (hR : 0 ≤ R.frames ∧ 60 * (0) ≤ R.locals) (hdj : Zdj ad) : ∀ (z : ZI) (y0 : Int) (H : Heap) (locs : List Loc) (ls : Array Slot), J0_isLatin1_aae02_b18 z y0 = some RR → ZW D cA ad (ZA ad) (Zc z) s H locs → Zok z → InR y0 → lv_has ls 1 [] → W p l e R s m args below meth c H locs 0 0 (MQ below (YQi D cA ad RR.1 RR.2) args s 0 0 (ZA ad)) (F0 m 18 ls [.int (i32 (y0))]) := by
  intro z y0 H locs ls hF hw hzz hy0 hl
  unfold J0_isLatin1_aae02_b18 at hF
  obtain ⟨b1_, hF⟩ := Zgs hF
  exact Yiretz S hw hzz hy0 hr hlk b1_ hF dJ0_isLatin1_aae02_18
set_option maxRecDepth 100000 in
set_option maxHeartbeats 4000000 in
theorem w_J0_isLatin1_aae02_b17 {RR : Int × ZI} (S : CallFix p m c cJ0_isLatin1_aae02 1 s args Ztbl RJ0) (hr : meth.sig.returnType = some .boolean) (hlk : meth.locks = false) (hR : 0 ≤ R.frames ∧ 60 * (0) ≤ R.locals) (hdj : Zdj ad) : ∀ (z : ZI) (H : Heap) (locs : List Loc) (ls : Array Slot), J0_isLatin1_aae02_b17 z  = some RR → ZW D cA ad (ZA ad) (Zc z) s H locs → Zok z → lv_has ls 1 [] → W p l e R s m args below meth c H locs 0 0 (MQ below (YQi D cA ad RR.1 RR.2) args s 0 0 (ZA ad)) (F0 m 17 ls []) := by
  intro z  H locs ls hF hw hzz  hl
  unfold J0_isLatin1_aae02_b17 at hF
  refine lv_iconst (v := i32 0) S.1 S.2.1 dJ0_isLatin1_aae02_17 ic_0 ?_
  exact w_J0_isLatin1_aae02_b18 S hr hlk hR hdj _ _ _ _ _ hF hw hzz r_0 (lv_sub hl [] rfl)
set_option maxRecDepth 100000 in
set_option maxHeartbeats 4000000 in
theorem c_J0_isLatin1_aae02 {l : Launch} {D : va_G} {cA : Nat → ClassId} {ad : Nat → Nat} (hdj : Zdj ad) {z z1 : ZI} {r : Int} (hzz : Zok z) (hF : F_J0_isLatin1_aae02 z  = some (r, z1)) : YMi l D cA ad (0) yJ0_isLatin1_aae02 cJ0_isLatin1_aae02 1 (some .boolean) [.ref (ad 301)] z r z1 :=
  Zmet hdj (by decide) rfl (Nat.le_of_ble_eq_true rfl) (lv := [(0, .ref (ad 301))]) rfl (fun p e s m args below meth c ls S hr hlk hw hl => by
    have hR : 0 ≤ (Zrm (0)).frames ∧ 60 * (0) ≤ (Zrm (0)).locals := ⟨Nat.le_refl _, Nat.le_refl _⟩
    unfold F_J0_isLatin1_aae02 at hF
    revert hR
    generalize Zrm (0) = R
    intro hR
    refine va_gets S.1 S.2.1 hw.1.2.2.2.2.1 hw.2.2.2 S.2.2.2.1 (S.2.2.2.2 _ (Ztb 161 (by decide +kernel) rfl : Cond.fieldLink RJ0 38 "java/lang/String" "COMPACT_STRINGS" "Z" ∈ Ztbl)) (fun _ h9 => h9) dJ0_isLatin1_aae02_0 ?_
    refine Yif_eq (tgt := 17) S r_1 dJ0_isLatin1_aae02_3 (by decide) (fun c1_ => ?_) (fun c1_ => ?_)
    · exact absurd c1_ (by decide)
    · skip
      refine lv_aload_n S.1 S.2.1 dJ0_isLatin1_aae02_6 rfl (lv_at hl 0 rfl) ?_
      refine vk_getf S.1 S.2.1 (Zstrc hw) hw.2.2.2 S.2.2.2.1 (S.2.2.2.2 _ (Ztb 1741 (by decide +kernel) rfl : Cond.fieldLink RJ0 15 "java/lang/String" "coder" "B" ∈ Ztbl)) (fun _ h9 => h9) dJ0_isLatin1_aae02_7 ?_
      refine Yif_ne (tgt := 17) S r_0 dJ0_isLatin1_aae02_10 (by decide) (fun c2_ => ?_) (fun c2_ => ?_)
      · exact absurd c2_ (by decide)
      · skip
        refine lv_iconst (v := i32 1) S.1 S.2.1 dJ0_isLatin1_aae02_13 ic_1 ?_
        refine lv_goto (tgt := 18) S.1 S.2.1 dJ0_isLatin1_aae02_14 (by decide) ?_
        exact w_J0_isLatin1_aae02_b18 S hr hlk hR hdj _ _ _ _ _ hF hw hzz r_1 (lv_sub hl [] rfl))
set_option maxRecDepth 100000 in
set_option maxHeartbeats 4000000 in
theorem w_J0_coder_7d493_b14 {RR : Int × ZI} (S : CallFix p m c cJ0_coder_7d493 1 s args Ztbl RJ0) (hr : meth.sig.returnType = some .byte) (hlk : meth.locks = false) (hR : 0 ≤ R.frames ∧ 60 * (0) ≤ R.locals) (hdj : Zdj ad) : ∀ (z : ZI) (y0 : Int) (H : Heap) (locs : List Loc) (ls : Array Slot), J0_coder_7d493_b14 z y0 = some RR → ZW D cA ad (ZA ad) (Zc z) s H locs → Zok z → InR y0 → lv_has ls 1 [] → W p l e R s m args below meth c H locs 0 0 (MQ below (YQi D cA ad RR.1 RR.2) args s 0 0 (ZA ad)) (F0 m 14 ls [.int (i32 (y0))]) := by
  intro z y0 H locs ls hF hw hzz hy0 hl
  unfold J0_coder_7d493_b14 at hF
  obtain ⟨b1_, hF⟩ := Zgs hF
  exact Yiretb S hw hzz hy0 hr hlk b1_ hF dJ0_coder_7d493_14
set_option maxRecDepth 100000 in
set_option maxHeartbeats 4000000 in
theorem c_J0_coder_7d493 {l : Launch} {D : va_G} {cA : Nat → ClassId} {ad : Nat → Nat} (hdj : Zdj ad) {z z1 : ZI} {r : Int} (hzz : Zok z) (hF : F_J0_coder_7d493 z  = some (r, z1)) : YMi l D cA ad (0) yJ0_coder_7d493 cJ0_coder_7d493 1 (some .byte) [.ref (ad 301)] z r z1 :=
  Zmet hdj (by decide) rfl (Nat.le_of_ble_eq_true rfl) (lv := [(0, .ref (ad 301))]) rfl (fun p e s m args below meth c ls S hr hlk hw hl => by
    have hR : 0 ≤ (Zrm (0)).frames ∧ 60 * (0) ≤ (Zrm (0)).locals := ⟨Nat.le_refl _, Nat.le_refl _⟩
    unfold F_J0_coder_7d493 at hF
    revert hR
    generalize Zrm (0) = R
    intro hR
    refine va_gets S.1 S.2.1 hw.1.2.2.2.2.1 hw.2.2.2 S.2.2.2.1 (S.2.2.2.2 _ (Ztb 161 (by decide +kernel) rfl : Cond.fieldLink RJ0 38 "java/lang/String" "COMPACT_STRINGS" "Z" ∈ Ztbl)) (fun _ h9 => h9) dJ0_coder_7d493_0 ?_
    refine Yif_eq (tgt := 13) S r_1 dJ0_coder_7d493_3 (by decide) (fun c1_ => ?_) (fun c1_ => ?_)
    · exact absurd c1_ (by decide)
    · skip
      refine lv_aload_n S.1 S.2.1 dJ0_coder_7d493_6 rfl (lv_at hl 0 rfl) ?_
      refine vk_getf S.1 S.2.1 (Zstrc hw) hw.2.2.2 S.2.2.2.1 (S.2.2.2.2 _ (Ztb 1741 (by decide +kernel) rfl : Cond.fieldLink RJ0 15 "java/lang/String" "coder" "B" ∈ Ztbl)) (fun _ h9 => h9) dJ0_coder_7d493_7 ?_
      refine lv_goto (tgt := 14) S.1 S.2.1 dJ0_coder_7d493_10 (by decide) ?_
      exact w_J0_coder_7d493_b14 S hr hlk hR hdj _ _ _ _ _ hF hw hzz r_0 (lv_sub hl [] rfl))
set_option maxRecDepth 100000 in
set_option maxHeartbeats 4000000 in
theorem c_J0_length_8abf5 {l : Launch} {D : va_G} {cA : Nat → ClassId} {ad : Nat → Nat} (hdj : Zdj ad) {z z1 : ZI} {r : Int} (hzz : Zok z) (hF : F_J0_length_8abf5 z  = some (r, z1)) : YMi l D cA ad (1) yJ0_length_8abf5 cJ0_length_8abf5 1 (some .int) [.ref (ad 301)] z r z1 :=
  Zmet hdj (by decide) rfl (Nat.le_of_ble_eq_true rfl) (lv := [(0, .ref (ad 301))]) rfl (fun p e s m args below meth c ls S hr hlk hw hl => by
    have hR : 1 ≤ (Zrm (1)).frames ∧ 60 * (1) ≤ (Zrm (1)).locals := ⟨Nat.le_refl _, Nat.le_refl _⟩
    unfold F_J0_length_8abf5 at hF
    revert hR
    generalize Zrm (1) = R
    intro hR
    refine lv_aload_n S.1 S.2.1 dJ0_length_8abf5_0 rfl (lv_at hl 0 rfl) ?_
    refine vk_getf S.1 S.2.1 (Zstrv hw) hw.2.2.2 S.2.2.2.1 (S.2.2.2.2 _ (Ztb 1740 (by decide +kernel) rfl : Cond.fieldLink RJ0 9 "java/lang/String" "value" "[B" ∈ Ztbl)) (fun _ h9 => h9) dJ0_length_8abf5_1 ?_
    refine va_tlen S.1 S.2.1 (Zletters hw) hw.2.2.2 (v := i32 8) rfl dJ0_length_8abf5_4 ?_
    refine lv_aload_n S.1 S.2.1 dJ0_length_8abf5_5 rfl (lv_at hl 0 rfl) ?_
    obtain ⟨r3_, z1_, h2_, hF⟩ := Ybs hF
    refine YcallTi (rest := [.int (i32 (8))]) S hw (c_J0_coder_7d493 hdj hzz  h2_) my_J0_coder_7d493 mi_J0_coder_7d493 ml_J0_335 rfl (Zrr hR (by decide)) ⟨Nat.zero_le _, Nat.zero_le _⟩ hl.1 rfl rfl (Nat.le_of_ble_eq_true rfl) dJ0_length_8abf5_6 (fun hrr3_ hzz1_ H locs hw => ?_)
    refine Yishr S dJ0_length_8abf5_9 ?_
    exact Yireti S hw hzz1_ (InR_of _) hr hlk hF dJ0_length_8abf5_10)
set_option maxRecDepth 100000 in
set_option maxHeartbeats 4000000 in
theorem w_J1_canEncode_9a6ad_b16 {RR : Int × ZI} (S : CallFix p m c cJ1_canEncode_9a6ad 1 s args Ztbl RJ1) (hr : meth.sig.returnType = some .boolean) (hlk : meth.locks = false) (hR : 0 ≤ R.frames ∧ 60 * (0) ≤ R.locals) (hdj : Zdj ad) : ∀ (z : ZI) (y0 : Int) (H : Heap) (locs : List Loc) (ls : Array Slot), J1_canEncode_9a6ad_b16 z y0 = some RR → ZW D cA ad (ZA ad) (Zc z) s H locs → Zok z → InR y0 → lv_has ls 1 [] → W p l e R s m args below meth c H locs 0 0 (MQ below (YQi D cA ad RR.1 RR.2) args s 0 0 (ZA ad)) (F0 m 16 ls [.int (i32 (y0))]) := by
  intro z y0 H locs ls hF hw hzz hy0 hl
  unfold J1_canEncode_9a6ad_b16 at hF
  obtain ⟨b1_, hF⟩ := Zgs hF
  exact Yiretz S hw hzz hy0 hr hlk b1_ hF dJ1_canEncode_9a6ad_16
set_option maxRecDepth 100000 in
set_option maxHeartbeats 4000000 in
theorem w_J1_canEncode_9a6ad_b15 {RR : Int × ZI} (S : CallFix p m c cJ1_canEncode_9a6ad 1 s args Ztbl RJ1) (hr : meth.sig.returnType = some .boolean) (hlk : meth.locks = false) (hR : 0 ≤ R.frames ∧ 60 * (0) ≤ R.locals) (hdj : Zdj ad) : ∀ (z : ZI) (H : Heap) (locs : List Loc) (ls : Array Slot), J1_canEncode_9a6ad_b15 z  = some RR → ZW D cA ad (ZA ad) (Zc z) s H locs → Zok z → lv_has ls 1 [] → W p l e R s m args below meth c H locs 0 0 (MQ below (YQi D cA ad RR.1 RR.2) args s 0 0 (ZA ad)) (F0 m 15 ls []) := by
  intro z  H locs ls hF hw hzz  hl
  unfold J1_canEncode_9a6ad_b15 at hF
  refine lv_iconst (v := i32 0) S.1 S.2.1 dJ1_canEncode_9a6ad_15 ic_0 ?_
  exact w_J1_canEncode_9a6ad_b16 S hr hlk hR hdj _ _ _ _ _ hF hw hzz r_0 (lv_sub hl [] rfl)
set_option maxRecDepth 100000 in
set_option maxHeartbeats 4000000 in
theorem c_J1_canEncode_9a6ad {l : Launch} {D : va_G} {cA : Nat → ClassId} {ad : Nat → Nat} (hdj : Zdj ad) {z z1 : ZI} {x0 : Int} {r : Int} (hzz : Zok z) (hx0 : InR x0) (hF : F_J1_canEncode_9a6ad z x0 = some (r, z1)) : YMi l D cA ad (0) yJ1_canEncode_9a6ad cJ1_canEncode_9a6ad 1 (some .boolean) [.int (i32 x0)] z r z1 :=
  Zmet hdj (by decide) rfl (Nat.le_of_ble_eq_true rfl) (lv := [(0, .int (i32 (x0)))]) rfl (fun p e s m args below meth c ls S hr hlk hw hl => by
    have hR : 0 ≤ (Zrm (0)).frames ∧ 60 * (0) ≤ (Zrm (0)).locals := ⟨Nat.le_refl _, Nat.le_refl _⟩
    unfold F_J1_canEncode_9a6ad at hF
    revert hR
    generalize Zrm (0) = R
    intro hR
    refine lv_iload_n S.1 S.2.1 dJ1_canEncode_9a6ad_0 rfl (lv_at hl 0 rfl) ?_
    refine Yif_lt (tgt := 15) S hx0 dJ1_canEncode_9a6ad_1 (by decide) (fun c1_ => ?_) (fun c1_ => ?_)
    · replace hF := ZtP c1_ hF
      exact w_J1_canEncode_9a6ad_b15 S hr hlk hR hdj _ _ _ _ hF hw hzz  (lv_sub hl [] rfl)
    · replace hF := ZtN c1_ hF
      refine lv_iload_n S.1 S.2.1 dJ1_canEncode_9a6ad_4 rfl (lv_at hl 0 rfl) ?_
      refine lv_sipush (v := i32 255) S.1 S.2.1 dJ1_canEncode_9a6ad_5 sp_255 ?_
      refine Yicmp_gt (tgt := 15) S hx0 r_255 dJ1_canEncode_9a6ad_8 (by decide) (fun c2_ => ?_) (fun c2_ => ?_)
      · replace hF := ZtP c2_ hF
        exact w_J1_canEncode_9a6ad_b15 S hr hlk hR hdj _ _ _ _ hF hw hzz  (lv_sub hl [] rfl)
      · replace hF := ZtN c2_ hF
        refine lv_iconst (v := i32 1) S.1 S.2.1 dJ1_canEncode_9a6ad_11 ic_1 ?_
        refine lv_goto (tgt := 16) S.1 S.2.1 dJ1_canEncode_9a6ad_12 (by decide) ?_
        exact w_J1_canEncode_9a6ad_b16 S hr hlk hR hdj _ _ _ _ _ hF hw hzz r_1 (lv_sub hl [] rfl))
set_option maxRecDepth 100000 in
set_option maxHeartbeats 4000000 in
theorem w_J1_indexOfChar_4cfef_L7 {RR : Int × ZI} (S : CallFix p m c cJ1_indexOfChar_4cfef 6 s args Ztbl RJ1) (hr : meth.sig.returnType = some .int) (hlk : meth.locks = false) (hR : 0 ≤ R.frames ∧ 60 * (0) ≤ R.locals) (hdj : Zdj ad) : ∀ (n : Nat) (z : ZI) (x3 : Int) (x4 : Int) (x5 : Int) (H : Heap) (locs : List Loc) (ls : Array Slot), J1_indexOfChar_4cfef_L7 n z x3 x4 x5 = some RR → ZW D cA ad (ZA ad) (Zc z) s H locs → Zok z → InR x3 → InR x4 → InR x5 → lv_has ls 6 [(0, .ref (ad 302)), (3, .int (i32 (x3))), (4, .int (i32 (x4))), (5, .int (i32 (x5)))] → W p l e R s m args below meth c H locs 0 0 (MQ below (YQi D cA ad RR.1 RR.2) args s 0 0 (ZA ad)) (F0 m 7 ls []) := by
  intro n
  induction n with
  | zero => intro z x3 x4 x5 H locs ls hF; exact nomatch hF
  | succ n hk7 =>
    intro z x3 x4 x5 H locs ls hF hw hzz hx3 hx4 hx5 hl
    replace hF : J1_indexOfChar_4cfef_L7b (J1_indexOfChar_4cfef_L7 n) z x3 x4 x5 = some RR := hF
    unfold J1_indexOfChar_4cfef_L7b at hF
    refine lv_iload S.1 S.2.1 dJ1_indexOfChar_4cfef_7 (lv_at hl 3 rfl) ?_
    refine lv_iload_n S.1 S.2.1 dJ1_indexOfChar_4cfef_9 rfl (lv_at hl 1 rfl) ?_
    refine Yicmp_ge (tgt := 31) S hx5 hx3 dJ1_indexOfChar_4cfef_10 (by decide) (fun c1_ => ?_) (fun c1_ => ?_)
    · replace hF := ZtP c1_ hF
      refine lv_iconst (v := i32 (-1)) S.1 S.2.1 dJ1_indexOfChar_4cfef_31 ic_m1 ?_
      exact Yireti S hw hzz r_m1 hr hlk hF dJ1_indexOfChar_4cfef_32
    · replace hF := ZtN c1_ hF
      refine lv_aload_n S.1 S.2.1 dJ1_indexOfChar_4cfef_13 rfl (lv_at hl 0 rfl) ?_
      refine lv_iload S.1 S.2.1 dJ1_indexOfChar_4cfef_14 (lv_at hl 3 rfl) ?_
      obtain ⟨b2_, hF⟩ := Zgs hF
      refine Yletr S hw hx5 b2_ dJ1_indexOfChar_4cfef_16 ?_
      refine lv_iload S.1 S.2.1 dJ1_indexOfChar_4cfef_17 (lv_at hl 2 rfl) ?_
      refine Yicmp_ne (tgt := 25) S (Ylet_in _) hx4 dJ1_indexOfChar_4cfef_19 (by decide) (fun c3_ => ?_) (fun c3_ => ?_)
      · replace hF := ZtN c3_ hF
        obtain ⟨g4_, hF⟩ := Zgs hF
        refine lv_iinc (v := i32 (x5 + 1)) (lv' := [(5, .int (i32 (x5 + 1))), (0, .ref (ad 302)), (3, .int (i32 (x3))), (4, .int (i32 (x4)))]) S.1 S.2.1 dJ1_indexOfChar_4cfef_25 hl (k := 3) rfl Yiinc (by decide) rfl (fun ls hl => ?_)
        refine lv_goto (tgt := 7) S.1 S.2.1 dJ1_indexOfChar_4cfef_28 (by decide) ?_
        exact hk7 _ _ _ _ _ _ _ hF hw hzz hx3 hx4 g4_ (lv_sub hl [1, 2, 3, 0] rfl)
      · replace hF := ZtP c3_ hF
        refine lv_iload S.1 S.2.1 dJ1_indexOfChar_4cfef_22 (lv_at hl 3 rfl) ?_
        exact Yireti S hw hzz hx5 hr hlk hF dJ1_indexOfChar_4cfef_24
set_option maxRecDepth 100000 in
set_option maxHeartbeats 4000000 in
theorem c_J1_indexOfChar_4cfef {l : Launch} {D : va_G} {cA : Nat → ClassId} {ad : Nat → Nat} (hdj : Zdj ad) {z z1 : ZI} {x1 : Int} {x2 : Int} {x3 : Int} {r : Int} (hzz : Zok z) (hx1 : InR x1) (hx2 : InR x2) (hx3 : InR x3) (hF : F_J1_indexOfChar_4cfef z x1 x2 x3 = some (r, z1)) : YMi l D cA ad (0) yJ1_indexOfChar_4cfef cJ1_indexOfChar_4cfef 6 (some .int) [.ref (ad 302), .int (i32 x1), .int (i32 x2), .int (i32 x3)] z r z1 :=
  Zmet hdj (by decide) rfl (Nat.le_of_ble_eq_true rfl) (lv := [(0, .ref (ad 302)), (1, .int (i32 (x1))), (2, .int (i32 (x2))), (3, .int (i32 (x3)))]) rfl (fun p e s m args below meth c ls S hr hlk hw hl => by
    have hR : 0 ≤ (Zrm (0)).frames ∧ 60 * (0) ≤ (Zrm (0)).locals := ⟨Nat.le_refl _, Nat.le_refl _⟩
    unfold F_J1_indexOfChar_4cfef at hF
    revert hR
    generalize Zrm (0) = R
    intro hR
    refine lv_iload_n S.1 S.2.1 dJ1_indexOfChar_4cfef_0 rfl (lv_at hl 1 rfl) ?_
    refine Yi2b S dJ1_indexOfChar_4cfef_1 ?_
    refine lv_istore (lv' := [(4, .int (i32 (ji2b x1))), (0, .ref (ad 302)), (1, .int (i32 (x1))), (2, .int (i32 (x2))), (3, .int (i32 (x3)))]) S.1 S.2.1 dJ1_indexOfChar_4cfef_2 hl (by decide) rfl (fun ls hl => ?_)
    refine lv_iload_n S.1 S.2.1 dJ1_indexOfChar_4cfef_4 rfl (lv_at hl 3 rfl) ?_
    refine lv_istore (lv' := [(5, .int (i32 (x2))), (4, .int (i32 (ji2b x1))), (0, .ref (ad 302)), (1, .int (i32 (x1))), (2, .int (i32 (x2))), (3, .int (i32 (x3)))]) S.1 S.2.1 dJ1_indexOfChar_4cfef_5 hl (by decide) rfl (fun ls hl => ?_)
    exact w_J1_indexOfChar_4cfef_L7 S hr hlk hR hdj Zfuel _ _ _ _ _ _ _ hF hw hzz hx3 (InR_of _) hx2 (lv_sub hl [2, 5, 1, 0] rfl))
set_option maxRecDepth 100000 in
set_option maxHeartbeats 4000000 in
theorem c_J1_indexOf_4cfef {l : Launch} {D : va_G} {cA : Nat → ClassId} {ad : Nat → Nat} (hdj : Zdj ad) {z z1 : ZI} {x1 : Int} {x2 : Int} {x3 : Int} {r : Int} (hzz : Zok z) (hx1 : InR x1) (hx2 : InR x2) (hx3 : InR x3) (hF : F_J1_indexOf_4cfef z x1 x2 x3 = some (r, z1)) : YMi l D cA ad (1) yJ1_indexOf_4cfef cJ1_indexOf_4cfef 4 (some .int) [.ref (ad 302), .int (i32 x1), .int (i32 x2), .int (i32 x3)] z r z1 :=
  Zmet hdj (by decide) rfl (Nat.le_of_ble_eq_true rfl) (lv := [(0, .ref (ad 302)), (1, .int (i32 (x1))), (2, .int (i32 (x2))), (3, .int (i32 (x3)))]) rfl (fun p e s m args below meth c ls S hr hlk hw hl => by
    have hR : 1 ≤ (Zrm (1)).frames ∧ 60 * (1) ≤ (Zrm (1)).locals := ⟨Nat.le_refl _, Nat.le_refl _⟩
    unfold F_J1_indexOf_4cfef at hF
    revert hR
    generalize Zrm (1) = R
    intro hR
    refine lv_iload_n S.1 S.2.1 dJ1_indexOf_4cfef_0 rfl (lv_at hl 1 rfl) ?_
    obtain ⟨r3_, z1_, h2_, hF⟩ := Ybs hF
    refine YcallSi (rest := []) S hw (c_J1_canEncode_9a6ad hdj hzz hx1 h2_) my_J1_canEncode_9a6ad ms_J1_canEncode_9a6ad ml_J1_88 (Zrr hR (by decide)) ⟨Nat.zero_le _, Nat.zero_le _⟩ hl.1 rfl rfl (Nat.le_of_ble_eq_true rfl) dJ1_indexOf_4cfef_1 (fun hrr3_ hzz1_ H locs hw => ?_)
    refine Yif_ne (tgt := 9) S hrr3_ dJ1_indexOf_4cfef_4 (by decide) (fun c4_ => ?_) (fun c4_ => ?_)
    · replace hF := ZtN c4_ hF
      refine lv_iload_n S.1 S.2.1 dJ1_indexOf_4cfef_9 rfl (lv_at hl 2 rfl) ?_
      refine lv_iconst (v := i32 0) S.1 S.2.1 dJ1_indexOf_4cfef_10 ic_0 ?_
      refine Ymmax S hx2 r_0 hl ml_J1_92 (Zr1 hR (by decide)) (Zr2 hR (by decide) (Nat.le_of_ble_eq_true rfl)) ⟨Nat.zero_le _, Nat.zero_le _⟩ dJ1_indexOf_4cfef_11 ?_
      refine lv_istore_n (lv' := [(2, .int (i32 (max x2 0))), (0, .ref (ad 302)), (1, .int (i32 (x1))), (3, .int (i32 (x3)))]) S.1 S.2.1 dJ1_indexOf_4cfef_14 rfl hl (by decide) rfl (fun ls hl => ?_)
      refine lv_iload_n S.1 S.2.1 dJ1_indexOf_4cfef_15 rfl (lv_at hl 3 rfl) ?_
      refine lv_aload_n S.1 S.2.1 dJ1_indexOf_4cfef_16 rfl (lv_at hl 1 rfl) ?_
      refine va_tlen S.1 S.2.1 (Zletters hw) hw.2.2.2 (v := i32 8) rfl dJ1_indexOf_4cfef_17 ?_
      refine Ymmin S hx3 r_8 hl ml_J1_38 (Zr1 hR (by decide)) (Zr2 hR (by decide) (Nat.le_of_ble_eq_true rfl)) ⟨Nat.zero_le _, Nat.zero_le _⟩ dJ1_indexOf_4cfef_18 ?_
      refine lv_istore_n (lv' := [(3, .int (i32 (min x3 8))), (2, .int (i32 (max x2 0))), (0, .ref (ad 302)), (1, .int (i32 (x1)))]) S.1 S.2.1 dJ1_indexOf_4cfef_21 rfl hl (by decide) rfl (fun ls hl => ?_)
      refine lv_iload_n S.1 S.2.1 dJ1_indexOf_4cfef_22 rfl (lv_at hl 1 rfl) ?_
      refine lv_iload_n S.1 S.2.1 dJ1_indexOf_4cfef_23 rfl (lv_at hl 0 rfl) ?_
      refine Yicmp_lt (tgt := 29) S (InR_max hx2 r_0) (InR_min hx3 r_8) dJ1_indexOf_4cfef_24 (by decide) (fun c5_ => ?_) (fun c5_ => ?_)
      · replace hF := ZtP c5_ hF
        refine lv_aload_n S.1 S.2.1 dJ1_indexOf_4cfef_29 rfl (lv_at hl 2 rfl) ?_
        refine lv_iload_n S.1 S.2.1 dJ1_indexOf_4cfef_30 rfl (lv_at hl 3 rfl) ?_
        refine lv_iload_n S.1 S.2.1 dJ1_indexOf_4cfef_31 rfl (lv_at hl 1 rfl) ?_
        refine lv_iload_n S.1 S.2.1 dJ1_indexOf_4cfef_32 rfl (lv_at hl 0 rfl) ?_
        obtain ⟨r8_, z6_, h7_, hF⟩ := Ybs hF
        refine YcallSi (rest := []) S hw (c_J1_indexOfChar_4cfef hdj hzz1_ hx1 (InR_max hx2 r_0) (InR_min hx3 r_8) h7_) my_J1_indexOfChar_4cfef ms_J1_indexOfChar_4cfef ml_J1_95 (Zrr hR (by decide)) ⟨Nat.zero_le _, Nat.zero_le _⟩ hl.1 rfl rfl (Nat.le_of_ble_eq_true rfl) dJ1_indexOf_4cfef_33 (fun hrr8_ hzz6_ H locs hw => ?_)
        exact Yireti S hw hzz6_ hrr8_ hr hlk hF dJ1_indexOf_4cfef_36
      · replace hF := ZtN c5_ hF
        refine lv_iconst (v := i32 (-1)) S.1 S.2.1 dJ1_indexOf_4cfef_27 ic_m1 ?_
        exact Yireti S hw hzz1_ r_m1 hr hlk hF dJ1_indexOf_4cfef_28
    · replace hF := ZtP c4_ hF
      refine lv_iconst (v := i32 (-1)) S.1 S.2.1 dJ1_indexOf_4cfef_7 ic_m1 ?_
      exact Yireti S hw hzz1_ r_m1 hr hlk hF dJ1_indexOf_4cfef_8)
set_option maxRecDepth 100000 in
set_option maxHeartbeats 4000000 in
theorem w_J0_indexOf_7cf53_b36 {RR : Int × ZI} (S : CallFix p m c cJ0_indexOf_7cf53 3 s args Ztbl RJ0) (hr : meth.sig.returnType = some .int) (hlk : meth.locks = false) (hR : 2 ≤ R.frames ∧ 60 * (2) ≤ R.locals) (hdj : Zdj ad) : ∀ (z : ZI) (y0 : Int) (H : Heap) (locs : List Loc) (ls : Array Slot), J0_indexOf_7cf53_b36 z y0 = some RR → ZW D cA ad (ZA ad) (Zc z) s H locs → Zok z → InR y0 → lv_has ls 3 [] → W p l e R s m args below meth c H locs 0 0 (MQ below (YQi D cA ad RR.1 RR.2) args s 0 0 (ZA ad)) (F0 m 36 ls [.int (i32 (y0))]) := by
  intro z y0 H locs ls hF hw hzz hy0 hl
  unfold J0_indexOf_7cf53_b36 at hF
  exact Yireti S hw hzz hy0 hr hlk hF dJ0_indexOf_7cf53_36
set_option maxRecDepth 100000 in
set_option maxHeartbeats 4000000 in
theorem c_J0_indexOf_7cf53 {l : Launch} {D : va_G} {cA : Nat → ClassId} {ad : Nat → Nat} (hdj : Zdj ad) {z z1 : ZI} {x1 : Int} {x2 : Int} {r : Int} (hzz : Zok z) (hx1 : InR x1) (hx2 : InR x2) (hF : F_J0_indexOf_7cf53 z x1 x2 = some (r, z1)) : YMi l D cA ad (2) yJ0_indexOf_7cf53 cJ0_indexOf_7cf53 3 (some .int) [.ref (ad 301), .int (i32 x1), .int (i32 x2)] z r z1 :=
  Zmet hdj (by decide) rfl (Nat.le_of_ble_eq_true rfl) (lv := [(0, .ref (ad 301)), (1, .int (i32 (x1))), (2, .int (i32 (x2)))]) rfl (fun p e s m args below meth c ls S hr hlk hw hl => by
    have hR : 2 ≤ (Zrm (2)).frames ∧ 60 * (2) ≤ (Zrm (2)).locals := ⟨Nat.le_refl _, Nat.le_refl _⟩
    unfold F_J0_indexOf_7cf53 at hF
    revert hR
    generalize Zrm (2) = R
    intro hR
    refine lv_aload_n S.1 S.2.1 dJ0_indexOf_7cf53_0 rfl (lv_at hl 0 rfl) ?_
    obtain ⟨r3_, z1_, h2_, hF⟩ := Ybs hF
    refine YcallTi (rest := []) S hw (c_J0_isLatin1_aae02 hdj hzz  h2_) my_J0_isLatin1_aae02 mi_J0_isLatin1_aae02 ml_J0_492 rfl (Zrr hR (by decide)) ⟨Nat.zero_le _, Nat.zero_le _⟩ hl.1 rfl rfl (Nat.le_of_ble_eq_true rfl) dJ0_indexOf_7cf53_1 (fun hrr3_ hzz1_ H locs hw => ?_)
    refine Yif_eq (tgt := 23) S hrr3_ dJ0_indexOf_7cf53_4 (by decide) (fun c4_ => ?_) (fun c4_ => ?_)
    · replace hF := ZtP c4_ hF
      refine lv_aload_n S.1 S.2.1 dJ0_indexOf_7cf53_23 rfl (lv_at hl 0 rfl) ?_
      refine vk_getf S.1 S.2.1 (Zstrv hw) hw.2.2.2 S.2.2.2.1 (S.2.2.2.2 _ (Ztb 1740 (by decide +kernel) rfl : Cond.fieldLink RJ0 9 "java/lang/String" "value" "[B" ∈ Ztbl)) (fun _ h9 => h9) dJ0_indexOf_7cf53_24 ?_
      refine lv_iload_n S.1 S.2.1 dJ0_indexOf_7cf53_27 rfl (lv_at hl 1 rfl) ?_
      refine lv_iload_n S.1 S.2.1 dJ0_indexOf_7cf53_28 rfl (lv_at hl 2 rfl) ?_
      refine lv_aload_n S.1 S.2.1 dJ0_indexOf_7cf53_29 rfl (lv_at hl 0 rfl) ?_
      obtain ⟨r7_, z5_, h6_, hF⟩ := Ybs hF
      refine YcallTi (rest := [.int (i32 (x2)), .int (i32 (x1)), .ref (ad 302)]) S hw (c_J0_length_8abf5 hdj hzz1_  h6_) my_J0_length_8abf5 mi_J0_length_8abf5 ml_J0_505 rfl (Zrr hR (by decide)) ⟨Nat.zero_le _, Nat.zero_le _⟩ hl.1 rfl rfl (Nat.le_of_ble_eq_true rfl) dJ0_indexOf_7cf53_30 (fun hrr7_ hzz5_ H locs hw => ?_)
      exact nomatch hF
    · replace hF := ZtN c4_ hF
      refine lv_aload_n S.1 S.2.1 dJ0_indexOf_7cf53_7 rfl (lv_at hl 0 rfl) ?_
      refine vk_getf S.1 S.2.1 (Zstrv hw) hw.2.2.2 S.2.2.2.1 (S.2.2.2.2 _ (Ztb 1740 (by decide +kernel) rfl : Cond.fieldLink RJ0 9 "java/lang/String" "value" "[B" ∈ Ztbl)) (fun _ h9 => h9) dJ0_indexOf_7cf53_8 ?_
      refine lv_iload_n S.1 S.2.1 dJ0_indexOf_7cf53_11 rfl (lv_at hl 1 rfl) ?_
      refine lv_iload_n S.1 S.2.1 dJ0_indexOf_7cf53_12 rfl (lv_at hl 2 rfl) ?_
      refine lv_aload_n S.1 S.2.1 dJ0_indexOf_7cf53_13 rfl (lv_at hl 0 rfl) ?_
      obtain ⟨r10_, z8_, h9_, hF⟩ := Ybs hF
      refine YcallTi (rest := [.int (i32 (x2)), .int (i32 (x1)), .ref (ad 302)]) S hw (c_J0_length_8abf5 hdj hzz1_  h9_) my_J0_length_8abf5 mi_J0_length_8abf5 ml_J0_505 rfl (Zrr hR (by decide)) ⟨Nat.zero_le _, Nat.zero_le _⟩ hl.1 rfl rfl (Nat.le_of_ble_eq_true rfl) dJ0_indexOf_7cf53_14 (fun hrr10_ hzz8_ H locs hw => ?_)
      obtain ⟨r13_, z11_, h12_, hF⟩ := Ybs hF
      refine YcallSi (rest := []) S hw (c_J1_indexOf_4cfef hdj hzz8_ hx1 hx2 hrr10_ h12_) my_J1_indexOf_4cfef ms_J1_indexOf_4cfef ml_J0_637 (Zrr hR (by decide)) ⟨Nat.zero_le _, Nat.zero_le _⟩ hl.1 rfl rfl (Nat.le_of_ble_eq_true rfl) dJ0_indexOf_7cf53_17 (fun hrr13_ hzz11_ H locs hw => ?_)
      refine lv_goto (tgt := 36) S.1 S.2.1 dJ0_indexOf_7cf53_20 (by decide) ?_
      exact w_J0_indexOf_7cf53_b36 S hr hlk hR hdj _ _ _ _ _ hF hw hzz11_ hrr13_ (lv_sub hl [] rfl))
set_option maxRecDepth 100000 in
set_option maxHeartbeats 4000000 in
theorem c_J0_indexOf_0f7a4 {l : Launch} {D : va_G} {cA : Nat → ClassId} {ad : Nat → Nat} (hdj : Zdj ad) {z z1 : ZI} {x1 : Int} {r : Int} (hzz : Zok z) (hx1 : InR x1) (hF : F_J0_indexOf_0f7a4 z x1 = some (r, z1)) : YMi l D cA ad (3) yJ0_indexOf_0f7a4 cJ0_indexOf_0f7a4 2 (some .int) [.ref (ad 301), .int (i32 x1)] z r z1 :=
  Zmet hdj (by decide) rfl (Nat.le_of_ble_eq_true rfl) (lv := [(0, .ref (ad 301)), (1, .int (i32 (x1)))]) rfl (fun p e s m args below meth c ls S hr hlk hw hl => by
    have hR : 3 ≤ (Zrm (3)).frames ∧ 60 * (3) ≤ (Zrm (3)).locals := ⟨Nat.le_refl _, Nat.le_refl _⟩
    unfold F_J0_indexOf_0f7a4 at hF
    revert hR
    generalize Zrm (3) = R
    intro hR
    refine lv_aload_n S.1 S.2.1 dJ0_indexOf_0f7a4_0 rfl (lv_at hl 0 rfl) ?_
    refine lv_iload_n S.1 S.2.1 dJ0_indexOf_0f7a4_1 rfl (lv_at hl 1 rfl) ?_
    refine lv_iconst (v := i32 0) S.1 S.2.1 dJ0_indexOf_0f7a4_2 ic_0 ?_
    obtain ⟨r3_, z1_, h2_, hF⟩ := Ybs hF
    refine YcallTi (rest := []) S hw (c_J0_indexOf_7cf53 hdj hzz hx1 r_0 h2_) my_J0_indexOf_7cf53 mi_J0_indexOf_7cf53 ml_J0_633 rfl (Zrr hR (by decide)) ⟨Nat.zero_le _, Nat.zero_le _⟩ hl.1 rfl rfl (Nat.le_of_ble_eq_true rfl) dJ0_indexOf_0f7a4_3 (fun hrr3_ hzz1_ H locs hw => ?_)
    exact Yireti S hw hzz1_ hrr3_ hr hlk hF dJ0_indexOf_0f7a4_6)
set_option maxRecDepth 100000 in
set_option maxHeartbeats 4000000 in
theorem w_X6_readNumber_b48 {RR : Int × ZI} (S : CallFix p m c cX6_readNumber 3 s args Ztbl RX6) (hr : meth.sig.returnType = some .int) (hlk : meth.locks = false) (hR : 1 ≤ R.frames ∧ 60 * (1) ≤ R.locals) (hdj : Zdj ad) : ∀ (z : ZI) (x1 : Int) (H : Heap) (locs : List Loc) (ls : Array Slot), X6_readNumber_b48 z x1 = some RR → ZW D cA ad (ZA ad) (Zc z) s H locs → Zok z → InR x1 → lv_has ls 3 [(1, .int (i32 (x1)))] → W p l e R s m args below meth c H locs 0 0 (MQ below (YQi D cA ad RR.1 RR.2) args s 0 0 (ZA ad)) (F0 m 48 ls []) := by
  intro z x1 H locs ls hF hw hzz hx1 hl
  unfold X6_readNumber_b48 at hF
  refine lv_iload_n S.1 S.2.1 dX6_readNumber_48 rfl (lv_at hl 0 rfl) ?_
  exact Yireti S hw hzz hx1 hr hlk hF dX6_readNumber_49
set_option maxRecDepth 100000 in
set_option maxHeartbeats 4000000 in
theorem w_X6_readNumber_L4 {RR : Int × ZI} (S : CallFix p m c cX6_readNumber 3 s args Ztbl RX6) (hr : meth.sig.returnType = some .int) (hlk : meth.locks = false) (hR : 1 ≤ R.frames ∧ 60 * (1) ≤ R.locals) (hdj : Zdj ad) : ∀ (n : Nat) (z : ZI) (x1 : Int) (x2 : Int) (H : Heap) (locs : List Loc) (ls : Array Slot), X6_readNumber_L4 n z x1 x2 = some RR → ZW D cA ad (ZA ad) (Zc z) s H locs → Zok z → InR x1 → InR x2 → lv_has ls 3 [(0, .ref (ad 30)), (1, .int (i32 (x1))), (2, .int (i32 (x2)))] → W p l e R s m args below meth c H locs 0 0 (MQ below (YQi D cA ad RR.1 RR.2) args s 0 0 (ZA ad)) (F0 m 4 ls []) := by
  intro n
  induction n with
  | zero => intro z x1 x2 H locs ls hF; exact nomatch hF
  | succ n hk4 =>
    intro z x1 x2 H locs ls hF hw hzz hx1 hx2 hl
    replace hF : X6_readNumber_L4b (X6_readNumber_L4 n) z x1 x2 = some RR := hF
    unfold X6_readNumber_L4b at hF
    refine lv_iload_n S.1 S.2.1 dX6_readNumber_4 rfl (lv_at hl 2 rfl) ?_
    refine lv_iconst (v := i32 4) S.1 S.2.1 dX6_readNumber_5 ic_4 ?_
    refine Yicmp_ge (tgt := 48) S hx2 r_4 dX6_readNumber_6 (by decide) (fun c1_ => ?_) (fun c1_ => ?_)
    · replace hF := ZtP c1_ hF
      exact w_X6_readNumber_b48 S hr hlk hR hdj _ _ _ _ _ hF hw hzz hx1 (lv_sub hl [1] rfl)
    · replace hF := ZtN c1_ hF
      refine lv_aload_n S.1 S.2.1 dX6_readNumber_9 rfl (lv_at hl 0 rfl) ?_
      obtain ⟨r4_, z2_, h3_, hF⟩ := Ybs hF
      refine YcallVi (rest := []) S hw (c_X6_next hdj hzz  h3_) my_X6_next mi_X6_next ml_X6_72 zd_30 zc_X6 rfl (Zrr hR (by decide)) ⟨Nat.zero_le _, Nat.zero_le _⟩ hl.1 rfl rfl (Nat.le_of_ble_eq_true rfl) dX6_readNumber_10 (fun hrr4_ hzz2_ H locs hw => ?_)
      obtain ⟨r7_, z5_, h6_, hF⟩ := Ybs hF
      refine YcallSi (rest := []) S hw (c_X6_isDigit hdj hzz2_ hrr4_ h6_) my_X6_isDigit ms_X6_isDigit ml_X6_88 (Zrr hR (by decide)) ⟨Nat.zero_le _, Nat.zero_le _⟩ hl.1 rfl rfl (Nat.le_of_ble_eq_true rfl) dX6_readNumber_13 (fun hrr7_ hzz5_ H locs hw => ?_)
      refine Yif_eq (tgt := 48) S hrr7_ dX6_readNumber_16 (by decide) (fun c8_ => ?_) (fun c8_ => ?_)
      · replace hF := ZtP c8_ hF
        exact w_X6_readNumber_b48 S hr hlk hR hdj _ _ _ _ _ hF hw hzz5_ hx1 (lv_sub hl [1] rfl)
      · replace hF := ZtN c8_ hF
        refine lv_bipush (v := i32 10) S.1 S.2.1 dX6_readNumber_19 bp_10 ?_
        refine lv_iload_n S.1 S.2.1 dX6_readNumber_21 rfl (lv_at hl 1 rfl) ?_
        obtain ⟨g9_, hF⟩ := Zgs hF
        refine Yimul S dX6_readNumber_22 ?_
        refine lv_aload_n S.1 S.2.1 dX6_readNumber_23 rfl (lv_at hl 0 rfl) ?_
        obtain ⟨r12_, z10_, h11_, hF⟩ := Ybs hF
        refine YcallVi (rest := [.int (i32 (10 * x1))]) S hw (c_X6_next hdj hzz5_  h11_) my_X6_next mi_X6_next ml_X6_72 zd_30 zc_X6 rfl (Zrr hR (by decide)) ⟨Nat.zero_le _, Nat.zero_le _⟩ hl.1 rfl rfl (Nat.le_of_ble_eq_true rfl) dX6_readNumber_24 (fun hrr12_ hzz10_ H locs hw => ?_)
        obtain ⟨g13_, hF⟩ := Zgs hF
        refine Yiadd S dX6_readNumber_27 ?_
        refine lv_bipush (v := i32 48) S.1 S.2.1 dX6_readNumber_28 bp_48 ?_
        obtain ⟨g14_, hF⟩ := Zgs hF
        refine Yisub S dX6_readNumber_30 ?_
        refine lv_istore_n (lv' := [(1, .int (i32 (((10 * x1) + r12_) - 48))), (0, .ref (ad 30)), (2, .int (i32 (x2)))]) S.1 S.2.1 dX6_readNumber_31 rfl hl (by decide) rfl (fun ls hl => ?_)
        refine lv_aload_n S.1 S.2.1 dX6_readNumber_32 rfl (lv_at hl 1 rfl) ?_
        refine lv_dup S.1 S.2.1 dX6_readNumber_33 rfl ?_
        refine gg_X6_45 S hw dX6_readNumber_34 ?_
        refine lv_iconst (v := i32 1) S.1 S.2.1 dX6_readNumber_37 ic_1 ?_
        obtain ⟨g15_, hF⟩ := Zgs hF
        refine Yiadd S dX6_readNumber_38 ?_
        refine pp_X6_45 S hw hzz10_ g15_ dX6_readNumber_39 (fun z16_ H locs ez hzz16_ hw => ?_)
        replace hF := Zle ez hF; clear ez
        obtain ⟨g17_, hF⟩ := Zgs hF
        refine lv_iinc (v := i32 (x2 + 1)) (lv' := [(2, .int (i32 (x2 + 1))), (1, .int (i32 (((10 * x1) + r12_) - 48))), (0, .ref (ad 30))]) S.1 S.2.1 dX6_readNumber_42 hl (k := 2) rfl Yiinc (by decide) rfl (fun ls hl => ?_)
        refine lv_goto (tgt := 4) S.1 S.2.1 dX6_readNumber_45 (by decide) ?_
        exact hk4 _ _ _ _ _ _ hF hw hzz16_ g14_ g17_ (lv_sub hl [2, 1, 0] rfl)
set_option maxRecDepth 100000 in
set_option maxHeartbeats 4000000 in
theorem c_X6_readNumber {l : Launch} {D : va_G} {cA : Nat → ClassId} {ad : Nat → Nat} (hdj : Zdj ad) {z z1 : ZI} {r : Int} (hzz : Zok z) (hF : F_X6_readNumber z  = some (r, z1)) : YMi l D cA ad (1) yX6_readNumber cX6_readNumber 3 (some .int) [.ref (ad 30)] z r z1 :=
  Zmet hdj (by decide) rfl (Nat.le_of_ble_eq_true rfl) (lv := [(0, .ref (ad 30))]) rfl (fun p e s m args below meth c ls S hr hlk hw hl => by
    have hR : 1 ≤ (Zrm (1)).frames ∧ 60 * (1) ≤ (Zrm (1)).locals := ⟨Nat.le_refl _, Nat.le_refl _⟩
    unfold F_X6_readNumber at hF
    revert hR
    generalize Zrm (1) = R
    intro hR
    refine lv_iconst (v := i32 0) S.1 S.2.1 dX6_readNumber_0 ic_0 ?_
    refine lv_istore_n (lv' := [(1, .int (i32 (0))), (0, .ref (ad 30))]) S.1 S.2.1 dX6_readNumber_1 rfl hl (by decide) rfl (fun ls hl => ?_)
    refine lv_iconst (v := i32 0) S.1 S.2.1 dX6_readNumber_2 ic_0 ?_
    refine lv_istore_n (lv' := [(2, .int (i32 (0))), (1, .int (i32 (0))), (0, .ref (ad 30))]) S.1 S.2.1 dX6_readNumber_3 rfl hl (by decide) rfl (fun ls hl => ?_)
    exact w_X6_readNumber_L4 S hr hlk hR hdj Zfuel _ _ _ _ _ _ hF hw hzz r_0 r_0 (lv_sub hl [2, 1, 0] rfl))
set_option maxRecDepth 100000 in
set_option maxHeartbeats 4000000 in
theorem w_X6_readBracket_b77 {rs : ZI → Int → Option (Int × ZI)} {hb : Nat} (hrs : ∀ z x r z1, Zok z → InR x → rs z x = some (r, z1) → YMi l D cA ad hb yX6_readSum cX6_readSum 7 (some .int) [.ref (ad 30), .int (i32 x)] z r z1) {RR : Int × ZI} (S : CallFix p m c cX6_readBracket 4 s args Ztbl RX6) (hr : meth.sig.returnType = some .int) (hlk : meth.locks = false) (hR : hb + 1 ≤ R.frames ∧ 60 * (hb + 1) ≤ R.locals) (hdj : Zdj ad) : ∀ (z : ZI) (x2 : Int) (H : Heap) (locs : List Loc) (ls : Array Slot), X6_readBracket_b77 rs z x2 = some RR → ZW D cA ad (ZA ad) (Zc z) s H locs → Zok z → InR x2 → lv_has ls 4 [(0, .ref (ad 30)), (2, .int (i32 (x2)))] → W p l e R s m args below meth c H locs 0 0 (MQ below (YQi D cA ad RR.1 RR.2) args s 0 0 (ZA ad)) (F0 m 77 ls []) := by
  intro z x2 H locs ls hF hw hzz hx2 hl
  unfold X6_readBracket_b77 at hF
  refine lv_aload_n S.1 S.2.1 dX6_readBracket_77 rfl (lv_at hl 0 rfl) ?_
  obtain ⟨r3_, z1_, h2_, hF⟩ := Ybs hF
  refine YcallVi (rest := []) S hw (c_X6_sound hdj hzz  h2_) my_X6_sound mi_X6_sound ml_X6_52 zd_30 zc_X6 rfl (Zrr hR (by omega)) ⟨Nat.zero_le _, Nat.zero_le _⟩ hl.1 rfl rfl (Nat.le_of_ble_eq_true rfl) dX6_readBracket_78 (fun hrr3_ hzz1_ H locs hw => ?_)
  refine Yif_ne (tgt := 86) S hrr3_ dX6_readBracket_81 (by decide) (fun c4_ => ?_) (fun c4_ => ?_)
  · replace hF := ZtN c4_ hF
    refine lv_aload_n S.1 S.2.1 dX6_readBracket_86 rfl (lv_at hl 0 rfl) ?_
    obtain ⟨r7_, z5_, h6_, hF⟩ := Ybs hF
    refine YcallVi (rest := []) S hw (c_X6_next hdj hzz1_  h6_) my_X6_next mi_X6_next ml_X6_72 zd_30 zc_X6 rfl (Zrr hR (by omega)) ⟨Nat.zero_le _, Nat.zero_le _⟩ hl.1 rfl rfl (Nat.le_of_ble_eq_true rfl) dX6_readBracket_87 (fun hrr7_ hzz5_ H locs hw => ?_)
    refine lv_bipush (v := i32 41) S.1 S.2.1 dX6_readBracket_90 bp_41 ?_
    refine Yicmp_eq (tgt := 100) S hrr7_ r_41 dX6_readBracket_92 (by decide) (fun c8_ => ?_) (fun c8_ => ?_)
    · replace hF := ZtP c8_ hF
      refine lv_aload_n S.1 S.2.1 dX6_readBracket_100 rfl (lv_at hl 0 rfl) ?_
      refine lv_dup S.1 S.2.1 dX6_readBracket_101 rfl ?_
      refine gg_X6_45 S hw dX6_readBracket_102 ?_
      refine lv_iconst (v := i32 1) S.1 S.2.1 dX6_readBracket_105 ic_1 ?_
      obtain ⟨g9_, hF⟩ := Zgs hF
      refine Yiadd S dX6_readBracket_106 ?_
      refine pp_X6_45 S hw hzz5_ g9_ dX6_readBracket_107 (fun z10_ H locs ez hzz10_ hw => ?_)
      replace hF := Zle ez hF; clear ez
      refine lv_iload_n S.1 S.2.1 dX6_readBracket_110 rfl (lv_at hl 1 rfl) ?_
      exact Yireti S hw hzz10_ hx2 hr hlk hF dX6_readBracket_111
    · replace hF := ZtN c8_ hF
      refine lv_aload_n S.1 S.2.1 dX6_readBracket_95 rfl (lv_at hl 0 rfl) ?_
      obtain ⟨r13_, z11_, h12_, hF⟩ := Ybs hF
      refine YcallVi (rest := []) S hw (c_X6_failHere hdj hzz5_  h12_) my_X6_failHere mi_X6_failHere ml_X6_98 zd_30 zc_X6 rfl (Zrr hR (by omega)) ⟨Nat.zero_le _, Nat.zero_le _⟩ hl.1 rfl rfl (Nat.le_of_ble_eq_true rfl) dX6_readBracket_96 (fun hrr13_ hzz11_ H locs hw => ?_)
      exact Yireti S hw hzz11_ hrr13_ hr hlk hF dX6_readBracket_99
  · replace hF := ZtP c4_ hF
    refine lv_iconst (v := i32 0) S.1 S.2.1 dX6_readBracket_84 ic_0 ?_
    exact Yireti S hw hzz1_ r_0 hr hlk hF dX6_readBracket_85
set_option maxRecDepth 100000 in
set_option maxHeartbeats 4000000 in
theorem w_X6_readBracket_b56 {rs : ZI → Int → Option (Int × ZI)} {hb : Nat} (hrs : ∀ z x r z1, Zok z → InR x → rs z x = some (r, z1) → YMi l D cA ad hb yX6_readSum cX6_readSum 7 (some .int) [.ref (ad 30), .int (i32 x)] z r z1) {RR : Int × ZI} (S : CallFix p m c cX6_readBracket 4 s args Ztbl RX6) (hr : meth.sig.returnType = some .int) (hlk : meth.locks = false) (hR : hb + 1 ≤ R.frames ∧ 60 * (hb + 1) ≤ R.locals) (hdj : Zdj ad) : ∀ (z : ZI) (x1 : Int) (x2 : Int) (x3 : Int) (H : Heap) (locs : List Loc) (ls : Array Slot), X6_readBracket_b56 rs z x1 x2 x3 = some RR → ZW D cA ad (ZA ad) (Zc z) s H locs → Zok z → InR x1 → InR x2 → InR x3 → lv_has ls 4 [(0, .ref (ad 30)), (1, .int (i32 (x1))), (2, .int (i32 (x2))), (3, .int (i32 (x3)))] → W p l e R s m args below meth c H locs 0 0 (MQ below (YQi D cA ad RR.1 RR.2) args s 0 0 (ZA ad)) (F0 m 56 ls []) := by
  intro z x1 x2 x3 H locs ls hF hw hzz hx1 hx2 hx3 hl
  unfold X6_readBracket_b56 at hF
  refine lv_aload_n S.1 S.2.1 dX6_readBracket_56 rfl (lv_at hl 0 rfl) ?_
  refine lv_dup S.1 S.2.1 dX6_readBracket_57 rfl ?_
  refine gg_X6_45 S hw dX6_readBracket_58 ?_
  refine lv_iconst (v := i32 1) S.1 S.2.1 dX6_readBracket_61 ic_1 ?_
  obtain ⟨g1_, hF⟩ := Zgs hF
  refine Yiadd S dX6_readBracket_62 ?_
  refine pp_X6_45 S hw hzz g1_ dX6_readBracket_63 (fun z2_ H locs ez hzz2_ hw => ?_)
  replace hF := Zle ez hF; clear ez
  refine lv_iload_n S.1 S.2.1 dX6_readBracket_66 rfl (lv_at hl 3 rfl) ?_
  refine lv_iload_n S.1 S.2.1 dX6_readBracket_67 rfl (lv_at hl 2 rfl) ?_
  refine lv_aload_n S.1 S.2.1 dX6_readBracket_68 rfl (lv_at hl 0 rfl) ?_
  refine lv_iload_n S.1 S.2.1 dX6_readBracket_69 rfl (lv_at hl 1 rfl) ?_
  obtain ⟨r5_, z3_, h4_, hF⟩ := Ybs hF
  refine YcallVi (rest := [.int (i32 (x2)), .int (i32 (x3))]) S hw (hrs _ _ _ _ hzz2_ hx1 h4_) my_X6_readSum mi_X6_readSum ml_X6_48 zd_30 zc_X6 rfl (Zrr hR (by omega)) ⟨Nat.zero_le _, Nat.zero_le _⟩ hl.1 rfl rfl (Nat.le_of_ble_eq_true rfl) dX6_readBracket_70 (fun hrr5_ hzz3_ H locs hw => ?_)
  obtain ⟨r8_, z6_, h7_, hF⟩ := Ybs hF
  refine YcallSi (rest := []) S hw (c_X6_compared hdj hzz3_ hx3 hx2 hrr5_ h7_) my_X6_compared ms_X6_compared ml_X6_101 (Zrr hR (by omega)) ⟨Nat.zero_le _, Nat.zero_le _⟩ hl.1 rfl rfl (Nat.le_of_ble_eq_true rfl) dX6_readBracket_73 (fun hrr8_ hzz6_ H locs hw => ?_)
  refine lv_istore_n (lv' := [(2, .int (i32 (r8_))), (0, .ref (ad 30)), (1, .int (i32 (x1))), (3, .int (i32 (x3)))]) S.1 S.2.1 dX6_readBracket_76 rfl hl (by decide) rfl (fun ls hl => ?_)
  exact w_X6_readBracket_b77 hrs S hr hlk hR hdj _ _ _ _ _ hF hw hzz6_ hrr8_ (lv_sub hl [1, 0] rfl)
set_option maxRecDepth 100000 in
set_option maxHeartbeats 4000000 in
theorem c_X6_readBracket {l : Launch} {D : va_G} {cA : Nat → ClassId} {ad : Nat → Nat} (hdj : Zdj ad) {rs : ZI → Int → Option (Int × ZI)} {hb : Nat} (hrs : ∀ z x r z1, Zok z → InR x → rs z x = some (r, z1) → YMi l D cA ad hb yX6_readSum cX6_readSum 7 (some .int) [.ref (ad 30), .int (i32 x)] z r z1) {z z1 : ZI} {x1 : Int} {r : Int} (hzz : Zok z) (hx1 : InR x1) (hF : F_X6_readBracket rs z x1 = some (r, z1)) : YMi l D cA ad (hb + 1) yX6_readBracket cX6_readBracket 4 (some .int) [.ref (ad 30), .int (i32 x1)] z r z1 :=
  Zmet hdj (by decide) rfl (Nat.le_of_ble_eq_true rfl) (lv := [(0, .ref (ad 30)), (1, .int (i32 (x1)))]) rfl (fun p e s m args below meth c ls S hr hlk hw hl => by
    have hR : hb + 1 ≤ (Zrm (hb + 1)).frames ∧ 60 * (hb + 1) ≤ (Zrm (hb + 1)).locals := ⟨Nat.le_refl _, Nat.le_refl _⟩
    unfold F_X6_readBracket at hF
    revert hR
    generalize Zrm (hb + 1) = R
    intro hR
    refine lv_iload_n S.1 S.2.1 dX6_readBracket_0 rfl (lv_at hl 1 rfl) ?_
    refine lv_iconst (v := i32 5) S.1 S.2.1 dX6_readBracket_1 ic_5 ?_
    refine Yicmp_le (tgt := 10) S hx1 r_5 dX6_readBracket_2 (by decide) (fun c1_ => ?_) (fun c1_ => ?_)
    · replace hF := ZtP c1_ hF
      refine lv_aload_n S.1 S.2.1 dX6_readBracket_10 rfl (lv_at hl 0 rfl) ?_
      refine lv_dup S.1 S.2.1 dX6_readBracket_11 rfl ?_
      refine gg_X6_45 S hw dX6_readBracket_12 ?_
      refine lv_iconst (v := i32 1) S.1 S.2.1 dX6_readBracket_15 ic_1 ?_
      obtain ⟨g2_, hF⟩ := Zgs hF
      refine Yiadd S dX6_readBracket_16 ?_
      refine pp_X6_45 S hw hzz g2_ dX6_readBracket_17 (fun z3_ H locs ez hzz3_ hw => ?_)
      replace hF := Zle ez hF; clear ez
      refine lv_aload_n S.1 S.2.1 dX6_readBracket_20 rfl (lv_at hl 0 rfl) ?_
      refine lv_iload_n S.1 S.2.1 dX6_readBracket_21 rfl (lv_at hl 1 rfl) ?_
      obtain ⟨r6_, z4_, h5_, hF⟩ := Ybs hF
      refine YcallVi (rest := []) S hw (hrs _ _ _ _ hzz3_ hx1 h5_) my_X6_readSum mi_X6_readSum ml_X6_48 zd_30 zc_X6 rfl (Zrr hR (by omega)) ⟨Nat.zero_le _, Nat.zero_le _⟩ hl.1 rfl rfl (Nat.le_of_ble_eq_true rfl) dX6_readBracket_22 (fun hrr6_ hzz4_ H locs hw => ?_)
      refine lv_istore_n (lv' := [(2, .int (i32 (r6_))), (0, .ref (ad 30)), (1, .int (i32 (x1)))]) S.1 S.2.1 dX6_readBracket_25 rfl hl (by decide) rfl (fun ls hl => ?_)
      refine lv_aload_n S.1 S.2.1 dX6_readBracket_26 rfl (lv_at hl 1 rfl) ?_
      obtain ⟨r9_, z7_, h8_, hF⟩ := Ybs hF
      refine YcallVi (rest := []) S hw (c_X6_next hdj hzz4_  h8_) my_X6_next mi_X6_next ml_X6_72 zd_30 zc_X6 rfl (Zrr hR (by omega)) ⟨Nat.zero_le _, Nat.zero_le _⟩ hl.1 rfl rfl (Nat.le_of_ble_eq_true rfl) dX6_readBracket_27 (fun hrr9_ hzz7_ H locs hw => ?_)
      refine lv_istore_n (lv' := [(3, .int (i32 (r9_))), (2, .int (i32 (r6_))), (0, .ref (ad 30)), (1, .int (i32 (x1)))]) S.1 S.2.1 dX6_readBracket_30 rfl hl (by decide) rfl (fun ls hl => ?_)
      refine lv_aload_n S.1 S.2.1 dX6_readBracket_31 rfl (lv_at hl 2 rfl) ?_
      obtain ⟨r12_, z10_, h11_, hF⟩ := Ybs hF
      refine YcallVi (rest := []) S hw (c_X6_sound hdj hzz7_  h11_) my_X6_sound mi_X6_sound ml_X6_52 zd_30 zc_X6 rfl (Zrr hR (by omega)) ⟨Nat.zero_le _, Nat.zero_le _⟩ hl.1 rfl rfl (Nat.le_of_ble_eq_true rfl) dX6_readBracket_32 (fun hrr12_ hzz10_ H locs hw => ?_)
      refine Yif_eq (tgt := 77) S hrr12_ dX6_readBracket_35 (by decide) (fun c13_ => ?_) (fun c13_ => ?_)
      · replace hF := ZtP c13_ hF
        exact w_X6_readBracket_b77 hrs S hr hlk hR hdj _ _ _ _ _ hF hw hzz10_ hrr6_ (lv_sub hl [2, 1] rfl)
      · replace hF := ZtN c13_ hF
        refine lv_iload_n S.1 S.2.1 dX6_readBracket_38 rfl (lv_at hl 0 rfl) ?_
        refine lv_bipush (v := i32 60) S.1 S.2.1 dX6_readBracket_39 bp_60 ?_
        refine Yicmp_eq (tgt := 56) S hrr9_ r_60 dX6_readBracket_41 (by decide) (fun c14_ => ?_) (fun c14_ => ?_)
        · replace hF := ZtP c14_ hF
          exact w_X6_readBracket_b56 hrs S hr hlk hR hdj _ _ _ _ _ _ _ hF hw hzz10_ hx1 hrr6_ hrr9_ (lv_sub hl [2, 3, 1, 0] rfl)
        · replace hF := ZtN c14_ hF
          refine lv_iload_n S.1 S.2.1 dX6_readBracket_44 rfl (lv_at hl 0 rfl) ?_
          refine lv_bipush (v := i32 61) S.1 S.2.1 dX6_readBracket_45 bp_61 ?_
          refine Yicmp_eq (tgt := 56) S hrr9_ r_61 dX6_readBracket_47 (by decide) (fun c15_ => ?_) (fun c15_ => ?_)
          · replace hF := ZtP c15_ hF
            exact w_X6_readBracket_b56 hrs S hr hlk hR hdj _ _ _ _ _ _ _ hF hw hzz10_ hx1 hrr6_ hrr9_ (lv_sub hl [2, 3, 1, 0] rfl)
          · replace hF := ZtN c15_ hF
            refine lv_iload_n S.1 S.2.1 dX6_readBracket_50 rfl (lv_at hl 0 rfl) ?_
            refine lv_bipush (v := i32 62) S.1 S.2.1 dX6_readBracket_51 bp_62 ?_
            refine Yicmp_ne (tgt := 77) S hrr9_ r_62 dX6_readBracket_53 (by decide) (fun c16_ => ?_) (fun c16_ => ?_)
            · replace hF := ZtN c16_ hF
              exact w_X6_readBracket_b77 hrs S hr hlk hR hdj _ _ _ _ _ hF hw hzz10_ hrr6_ (lv_sub hl [2, 1] rfl)
            · replace hF := ZtP c16_ hF
              exact w_X6_readBracket_b56 hrs S hr hlk hR hdj _ _ _ _ _ _ _ hF hw hzz10_ hx1 hrr6_ hrr9_ (lv_sub hl [2, 3, 1, 0] rfl)
    · replace hF := ZtN c1_ hF
      refine lv_aload_n S.1 S.2.1 dX6_readBracket_5 rfl (lv_at hl 0 rfl) ?_
      obtain ⟨r19_, z17_, h18_, hF⟩ := Ybs hF
      refine YcallVi (rest := []) S hw (c_X6_failHere hdj hzz  h18_) my_X6_failHere mi_X6_failHere ml_X6_98 zd_30 zc_X6 rfl (Zrr hR (by omega)) ⟨Nat.zero_le _, Nat.zero_le _⟩ hl.1 rfl rfl (Nat.le_of_ble_eq_true rfl) dX6_readBracket_6 (fun hrr19_ hzz17_ H locs hw => ?_)
      exact Yireti S hw hzz17_ hrr19_ hr hlk hF dX6_readBracket_9)
set_option maxRecDepth 100000 in
set_option maxHeartbeats 4000000 in
theorem w_X6_readUnit_b52 {rs : ZI → Int → Option (Int × ZI)} {hb : Nat} (hrs : ∀ z x r z1, Zok z → InR x → rs z x = some (r, z1) → YMi l D cA ad hb yX6_readSum cX6_readSum 7 (some .int) [.ref (ad 30), .int (i32 x)] z r z1) {RR : Int × ZI} (S : CallFix p m c cX6_readUnit 4 s args Ztbl RX6) (hr : meth.sig.returnType = some .int) (hlk : meth.locks = false) (hR : hb + 5 ≤ R.frames ∧ 60 * (hb + 5) ≤ R.locals) (hdj : Zdj ad) : ∀ (z : ZI) (H : Heap) (locs : List Loc) (ls : Array Slot), X6_readUnit_b52 rs z  = some RR → ZW D cA ad (ZA ad) (Zc z) s H locs → Zok z → lv_has ls 4 [(0, .ref (ad 30))] → W p l e R s m args below meth c H locs 0 0 (MQ below (YQi D cA ad RR.1 RR.2) args s 0 0 (ZA ad)) (F0 m 52 ls []) := by
  intro z  H locs ls hF hw hzz  hl
  unfold X6_readUnit_b52 at hF
  refine lv_aload_n S.1 S.2.1 dX6_readUnit_52 rfl (lv_at hl 0 rfl) ?_
  obtain ⟨r3_, z1_, h2_, hF⟩ := Ybs hF
  refine YcallVi (rest := []) S hw (c_X6_failHere hdj hzz  h2_) my_X6_failHere mi_X6_failHere ml_X6_98 zd_30 zc_X6 rfl (Zrr hR (by omega)) ⟨Nat.zero_le _, Nat.zero_le _⟩ hl.1 rfl rfl (Nat.le_of_ble_eq_true rfl) dX6_readUnit_53 (fun hrr3_ hzz1_ H locs hw => ?_)
  exact Yireti S hw hzz1_ hrr3_ hr hlk hF dX6_readUnit_56
set_option maxRecDepth 100000 in
set_option maxHeartbeats 4000000 in
theorem c_X6_readUnit {l : Launch} {D : va_G} {cA : Nat → ClassId} {ad : Nat → Nat} (hdj : Zdj ad) {rs : ZI → Int → Option (Int × ZI)} {hb : Nat} (hrs : ∀ z x r z1, Zok z → InR x → rs z x = some (r, z1) → YMi l D cA ad hb yX6_readSum cX6_readSum 7 (some .int) [.ref (ad 30), .int (i32 x)] z r z1) {z z1 : ZI} {x1 : Int} {r : Int} (hzz : Zok z) (hx1 : InR x1) (hF : F_X6_readUnit rs z x1 = some (r, z1)) : YMi l D cA ad (hb + 5) yX6_readUnit cX6_readUnit 4 (some .int) [.ref (ad 30), .int (i32 x1)] z r z1 :=
  Zmet hdj (by decide) rfl (Nat.le_of_ble_eq_true rfl) (lv := [(0, .ref (ad 30)), (1, .int (i32 (x1)))]) rfl (fun p e s m args below meth c ls S hr hlk hw hl => by
    have hR : hb + 5 ≤ (Zrm (hb + 5)).frames ∧ 60 * (hb + 5) ≤ (Zrm (hb + 5)).locals := ⟨Nat.le_refl _, Nat.le_refl _⟩
    unfold F_X6_readUnit at hF
    revert hR
    generalize Zrm (hb + 5) = R
    intro hR
    refine lv_aload_n S.1 S.2.1 dX6_readUnit_0 rfl (lv_at hl 0 rfl) ?_
    obtain ⟨r3_, z1_, h2_, hF⟩ := Ybs hF
    refine YcallVi (rest := []) S hw (c_X6_next hdj hzz  h2_) my_X6_next mi_X6_next ml_X6_72 zd_30 zc_X6 rfl (Zrr hR (by omega)) ⟨Nat.zero_le _, Nat.zero_le _⟩ hl.1 rfl rfl (Nat.le_of_ble_eq_true rfl) dX6_readUnit_1 (fun hrr3_ hzz1_ H locs hw => ?_)
    refine lv_istore_n (lv' := [(2, .int (i32 (r3_))), (0, .ref (ad 30)), (1, .int (i32 (x1)))]) S.1 S.2.1 dX6_readUnit_4 rfl hl (by decide) rfl (fun ls hl => ?_)
    refine lv_iload_n S.1 S.2.1 dX6_readUnit_5 rfl (lv_at hl 0 rfl) ?_
    refine lv_bipush (v := i32 40) S.1 S.2.1 dX6_readUnit_6 bp_40 ?_
    refine Yicmp_ne (tgt := 19) S hrr3_ r_40 dX6_readUnit_8 (by decide) (fun c4_ => ?_) (fun c4_ => ?_)
    · replace hF := ZtN c4_ hF
      refine lv_iload_n S.1 S.2.1 dX6_readUnit_19 rfl (lv_at hl 0 rfl) ?_
      obtain ⟨r7_, z5_, h6_, hF⟩ := Ybs hF
      refine YcallSi (rest := []) S hw (c_X6_isDigit hdj hzz1_ hrr3_ h6_) my_X6_isDigit ms_X6_isDigit ml_X6_88 (Zrr hR (by omega)) ⟨Nat.zero_le _, Nat.zero_le _⟩ hl.1 rfl rfl (Nat.le_of_ble_eq_true rfl) dX6_readUnit_20 (fun hrr7_ hzz5_ H locs hw => ?_)
      refine Yif_eq (tgt := 31) S hrr7_ dX6_readUnit_23 (by decide) (fun c8_ => ?_) (fun c8_ => ?_)
      · replace hF := ZtP c8_ hF
        refine va_ldcS S.1 S.2.1 S.2.2.2.1 hw.1.2.2.2.2.2.1 dX6_readUnit_31 ?_
        refine lv_iload_n S.1 S.2.1 dX6_readUnit_33 rfl (lv_at hl 0 rfl) ?_
        refine Yi2c S dX6_readUnit_34 ?_
        obtain ⟨r11_, z9_, h10_, hF⟩ := Ybs hF
        refine YcallTi (rest := []) S hw (c_J0_indexOf_0f7a4 hdj hzz5_ (InR_of _) h10_) my_J0_indexOf_0f7a4 mi_J0_indexOf_0f7a4 ml_X6_95 rfl (Zrr hR (by omega)) ⟨Nat.zero_le _, Nat.zero_le _⟩ hl.1 rfl rfl (Nat.le_of_ble_eq_true rfl) dX6_readUnit_35 (fun hrr11_ hzz9_ H locs hw => ?_)
        refine lv_istore_n (lv' := [(3, .int (i32 (r11_))), (2, .int (i32 (r3_))), (0, .ref (ad 30)), (1, .int (i32 (x1)))]) S.1 S.2.1 dX6_readUnit_38 rfl hl (by decide) rfl (fun ls hl => ?_)
        refine lv_iload_n S.1 S.2.1 dX6_readUnit_39 rfl (lv_at hl 0 rfl) ?_
        refine Yif_lt (tgt := 52) S hrr11_ dX6_readUnit_40 (by decide) (fun c12_ => ?_) (fun c12_ => ?_)
        · replace hF := ZtP c12_ hF
          exact w_X6_readUnit_b52 hrs S hr hlk hR hdj _ _ _ _ hF hw hzz9_  (lv_sub hl [2] rfl)
        · replace hF := ZtN c12_ hF
          refine lv_iload_n S.1 S.2.1 dX6_readUnit_43 rfl (lv_at hl 0 rfl) ?_
          refine lv_aload_n S.1 S.2.1 dX6_readUnit_44 rfl (lv_at hl 2 rfl) ?_
          refine gf_X6_19 S hw dX6_readUnit_45 ?_
          refine Yalen S hw zd_31 dX6_readUnit_48 ?_
          refine Yicmp_lt (tgt := 57) S hrr11_ r_8 dX6_readUnit_49 (by decide) (fun c13_ => ?_) (fun c13_ => ?_)
          · replace hF := ZtP c13_ hF
            refine lv_aload_n S.1 S.2.1 dX6_readUnit_57 rfl (lv_at hl 2 rfl) ?_
            refine lv_dup S.1 S.2.1 dX6_readUnit_58 rfl ?_
            refine gg_X6_45 S hw dX6_readUnit_59 ?_
            refine lv_iconst (v := i32 1) S.1 S.2.1 dX6_readUnit_62 ic_1 ?_
            obtain ⟨g14_, hF⟩ := Zgs hF
            refine Yiadd S dX6_readUnit_63 ?_
            refine pp_X6_45 S hw hzz9_ g14_ dX6_readUnit_64 (fun z15_ H locs ez hzz15_ hw => ?_)
            replace hF := Zle ez hF; clear ez
            refine lv_aload_n S.1 S.2.1 dX6_readUnit_67 rfl (lv_at hl 2 rfl) ?_
            refine gf_X6_19 S hw dX6_readUnit_68 ?_
            refine lv_iload_n S.1 S.2.1 dX6_readUnit_71 rfl (lv_at hl 0 rfl) ?_
            obtain ⟨b16_, hF⟩ := Zgs hF
            refine Yiald S hw zd_31 (by decide) hrr11_ b16_ dX6_readUnit_72 ?_
            exact Yireti S hw hzz15_ (hzz15_.1 _ _ (by decide)) hr hlk hF dX6_readUnit_73
          · replace hF := ZtN c13_ hF
            exact w_X6_readUnit_b52 hrs S hr hlk hR hdj _ _ _ _ hF hw hzz9_  (lv_sub hl [2] rfl)
      · replace hF := ZtN c8_ hF
        refine lv_aload_n S.1 S.2.1 dX6_readUnit_26 rfl (lv_at hl 1 rfl) ?_
        obtain ⟨r19_, z17_, h18_, hF⟩ := Ybs hF
        refine YcallVi (rest := []) S hw (c_X6_readNumber hdj hzz5_  h18_) my_X6_readNumber mi_X6_readNumber ml_X6_92 zd_30 zc_X6 rfl (Zrr hR (by omega)) ⟨Nat.zero_le _, Nat.zero_le _⟩ hl.1 rfl rfl (Nat.le_of_ble_eq_true rfl) dX6_readUnit_27 (fun hrr19_ hzz17_ H locs hw => ?_)
        exact Yireti S hw hzz17_ hrr19_ hr hlk hF dX6_readUnit_30
    · replace hF := ZtP c4_ hF
      refine lv_aload_n S.1 S.2.1 dX6_readUnit_11 rfl (lv_at hl 1 rfl) ?_
      refine lv_iload_n S.1 S.2.1 dX6_readUnit_12 rfl (lv_at hl 2 rfl) ?_
      refine lv_iconst (v := i32 1) S.1 S.2.1 dX6_readUnit_13 ic_1 ?_
      obtain ⟨g20_, hF⟩ := Zgs hF
      refine Yiadd S dX6_readUnit_14 ?_
      obtain ⟨r23_, z21_, h22_, hF⟩ := Ybs hF
      refine YcallVi (rest := []) S hw (c_X6_readBracket hdj hrs hzz1_ g20_ h22_) my_X6_readBracket mi_X6_readBracket ml_X6_85 zd_30 zc_X6 rfl (Zrr hR (by omega)) ⟨Nat.zero_le _, Nat.zero_le _⟩ hl.1 rfl rfl (Nat.le_of_ble_eq_true rfl) dX6_readUnit_15 (fun hrr23_ hzz21_ H locs hw => ?_)
      exact Yireti S hw hzz21_ hrr23_ hr hlk hF dX6_readUnit_18)
set_option maxRecDepth 100000 in
set_option maxHeartbeats 4000000 in
theorem w_X6_readTerm_b94 {rs : ZI → Int → Option (Int × ZI)} {hb : Nat} (hrs : ∀ z x r z1, Zok z → InR x → rs z x = some (r, z1) → YMi l D cA ad hb yX6_readSum cX6_readSum 7 (some .int) [.ref (ad 30), .int (i32 x)] z r z1) {RR : Int × ZI} (S : CallFix p m c cX6_readTerm 7 s args Ztbl RX6) (hr : meth.sig.returnType = some .int) (hlk : meth.locks = false) (hR : hb + 6 ≤ R.frames ∧ 60 * (hb + 6) ≤ R.locals) (hdj : Zdj ad) : ∀ (z : ZI) (x2 : Int) (H : Heap) (locs : List Loc) (ls : Array Slot), X6_readTerm_b94 rs z x2 = some RR → ZW D cA ad (ZA ad) (Zc z) s H locs → Zok z → InR x2 → lv_has ls 7 [(2, .int (i32 (x2)))] → W p l e R s m args below meth c H locs 0 0 (MQ below (YQi D cA ad RR.1 RR.2) args s 0 0 (ZA ad)) (F0 m 94 ls []) := by
  intro z x2 H locs ls hF hw hzz hx2 hl
  unfold X6_readTerm_b94 at hF
  refine lv_iload_n S.1 S.2.1 dX6_readTerm_94 rfl (lv_at hl 0 rfl) ?_
  exact Yireti S hw hzz hx2 hr hlk hF dX6_readTerm_95
set_option maxRecDepth 100000 in
set_option maxHeartbeats 4000000 in
theorem w_X6_readTerm_b84 {rs : ZI → Int → Option (Int × ZI)} {hb : Nat} (hrs : ∀ z x r z1, Zok z → InR x → rs z x = some (r, z1) → YMi l D cA ad hb yX6_readSum cX6_readSum 7 (some .int) [.ref (ad 30), .int (i32 x)] z r z1) {RR : Int × ZI} (S : CallFix p m c cX6_readTerm 7 s args Ztbl RX6) (hr : meth.sig.returnType = some .int) (hlk : meth.locks = false) (hR : hb + 6 ≤ R.frames ∧ 60 * (hb + 6) ≤ R.locals) (hdj : Zdj ad) {k8 : ZI → Int → Int → Int → Option (Int × ZI)} (hk8 : ∀ (z : ZI) (x1 : Int) (x2 : Int) (x3 : Int) (H : Heap) (locs : List Loc) (ls : Array Slot), k8 z x1 x2 x3 = some RR → ZW D cA ad (ZA ad) (Zc z) s H locs → Zok z → InR x1 → InR x2 → InR x3 → lv_has ls 7 [(0, .ref (ad 30)), (1, .int (i32 (x1))), (2, .int (i32 (x2))), (3, .int (i32 (x3)))] → W p l e R s m args below meth c H locs 0 0 (MQ below (YQi D cA ad RR.1 RR.2) args s 0 0 (ZA ad)) (F0 m 8 ls [])) : ∀ (z : ZI) (x1 : Int) (x3 : Int) (y0 : Int) (H : Heap) (locs : List Loc) (ls : Array Slot), X6_readTerm_b84 rs k8 z x1 x3 y0 = some RR → ZW D cA ad (ZA ad) (Zc z) s H locs → Zok z → InR x1 → InR x3 → InL y0 → lv_has ls 7 [(0, .ref (ad 30)), (1, .int (i32 (x1))), (3, .int (i32 (x3)))] → W p l e R s m args below meth c H locs 0 0 (MQ below (YQi D cA ad RR.1 RR.2) args s 0 0 (ZA ad)) (F0 m 84 ls [.long (i64 (y0))]) := by
  intro z x1 x3 y0 H locs ls hF hw hzz hx1 hx3 hy0 hl
  unfold X6_readTerm_b84 at hF
  obtain ⟨r3_, z1_, h2_, hF⟩ := Ybs hF
  refine YcallSi (rest := []) S hw (c_X6_held hdj hzz hy0 h2_) my_X6_held ms_X6_held ml_X6_75 (Zrr hR (by omega)) ⟨Nat.zero_le _, Nat.zero_le _⟩ hl.1 rfl rfl (Nat.le_of_ble_eq_true rfl) dX6_readTerm_84 (fun hrr3_ hzz1_ H locs hw => ?_)
  refine lv_istore_n (lv' := [(2, .int (i32 (r3_))), (0, .ref (ad 30)), (1, .int (i32 (x1))), (3, .int (i32 (x3)))]) S.1 S.2.1 dX6_readTerm_87 rfl hl (by decide) rfl (fun ls hl => ?_)
  obtain ⟨g4_, hF⟩ := Zgs hF
  refine lv_iinc (v := i32 (x3 + 1)) (lv' := [(3, .int (i32 (x3 + 1))), (2, .int (i32 (r3_))), (0, .ref (ad 30)), (1, .int (i32 (x1)))]) S.1 S.2.1 dX6_readTerm_88 hl (k := 3) rfl Yiinc (by decide) rfl (fun ls hl => ?_)
  refine lv_goto (tgt := 8) S.1 S.2.1 dX6_readTerm_91 (by decide) ?_
  exact hk8 _ _ _ _ _ _ _ hF hw hzz1_ hx1 hrr3_ g4_ (lv_sub hl [2, 3, 1, 0] rfl)
set_option maxRecDepth 100000 in
set_option maxHeartbeats 4000000 in
theorem w_X6_readTerm_b44 {rs : ZI → Int → Option (Int × ZI)} {hb : Nat} (hrs : ∀ z x r z1, Zok z → InR x → rs z x = some (r, z1) → YMi l D cA ad hb yX6_readSum cX6_readSum 7 (some .int) [.ref (ad 30), .int (i32 x)] z r z1) {RR : Int × ZI} (S : CallFix p m c cX6_readTerm 7 s args Ztbl RX6) (hr : meth.sig.returnType = some .int) (hlk : meth.locks = false) (hR : hb + 6 ≤ R.frames ∧ 60 * (hb + 6) ≤ R.locals) (hdj : Zdj ad) {k8 : ZI → Int → Int → Int → Option (Int × ZI)} (hk8 : ∀ (z : ZI) (x1 : Int) (x2 : Int) (x3 : Int) (H : Heap) (locs : List Loc) (ls : Array Slot), k8 z x1 x2 x3 = some RR → ZW D cA ad (ZA ad) (Zc z) s H locs → Zok z → InR x1 → InR x2 → InR x3 → lv_has ls 7 [(0, .ref (ad 30)), (1, .int (i32 (x1))), (2, .int (i32 (x2))), (3, .int (i32 (x3)))] → W p l e R s m args below meth c H locs 0 0 (MQ below (YQi D cA ad RR.1 RR.2) args s 0 0 (ZA ad)) (F0 m 8 ls [])) : ∀ (z : ZI) (x1 : Int) (x2 : Int) (x3 : Int) (x4 : Int) (H : Heap) (locs : List Loc) (ls : Array Slot), X6_readTerm_b44 rs k8 z x1 x2 x3 x4 = some RR → ZW D cA ad (ZA ad) (Zc z) s H locs → Zok z → InR x1 → InR x2 → InR x3 → InR x4 → lv_has ls 7 [(0, .ref (ad 30)), (1, .int (i32 (x1))), (2, .int (i32 (x2))), (3, .int (i32 (x3))), (4, .int (i32 (x4)))] → W p l e R s m args below meth c H locs 0 0 (MQ below (YQi D cA ad RR.1 RR.2) args s 0 0 (ZA ad)) (F0 m 44 ls []) := by
  intro z x1 x2 x3 x4 H locs ls hF hw hzz hx1 hx2 hx3 hx4 hl
  unfold X6_readTerm_b44 at hF
  refine lv_aload_n S.1 S.2.1 dX6_readTerm_44 rfl (lv_at hl 0 rfl) ?_
  refine lv_dup S.1 S.2.1 dX6_readTerm_45 rfl ?_
  refine gg_X6_45 S hw dX6_readTerm_46 ?_
  refine lv_iconst (v := i32 1) S.1 S.2.1 dX6_readTerm_49 ic_1 ?_
  obtain ⟨g1_, hF⟩ := Zgs hF
  refine Yiadd S dX6_readTerm_50 ?_
  refine pp_X6_45 S hw hzz g1_ dX6_readTerm_51 (fun z2_ H locs ez hzz2_ hw => ?_)
  replace hF := Zle ez hF; clear ez
  refine lv_aload_n S.1 S.2.1 dX6_readTerm_54 rfl (lv_at hl 0 rfl) ?_
  refine lv_iload_n S.1 S.2.1 dX6_readTerm_55 rfl (lv_at hl 1 rfl) ?_
  obtain ⟨r5_, z3_, h4_, hF⟩ := Ybs hF
  refine YcallVi (rest := []) S hw (c_X6_readUnit hdj hrs hzz2_ hx1 h4_) my_X6_readUnit mi_X6_readUnit ml_X6_79 zd_30 zc_X6 rfl (Zrr hR (by omega)) ⟨Nat.zero_le _, Nat.zero_le _⟩ hl.1 rfl rfl (Nat.le_of_ble_eq_true rfl) dX6_readTerm_56 (fun hrr5_ hzz3_ H locs hw => ?_)
  refine Yi2l S hrr5_ dX6_readTerm_59 ?_
  refine lv_lstore (lv' := [(5, .long (i64 (r5_))), (0, .ref (ad 30)), (1, .int (i32 (x1))), (2, .int (i32 (x2))), (3, .int (i32 (x3))), (4, .int (i32 (x4)))]) S.1 S.2.1 dX6_readTerm_60 hl (by decide) rfl (fun ls hl => ?_)
  refine lv_iload S.1 S.2.1 dX6_readTerm_62 (lv_at hl 5 rfl) ?_
  refine lv_bipush (v := i32 42) S.1 S.2.1 dX6_readTerm_64 bp_42 ?_
  refine Yicmp_ne (tgt := 77) S hx4 r_42 dX6_readTerm_66 (by decide) (fun c6_ => ?_) (fun c6_ => ?_)
  · replace hF := ZtN c6_ hF
    refine lv_iload_n S.1 S.2.1 dX6_readTerm_77 rfl (lv_at hl 3 rfl) ?_
    refine Yi2l S hx2 dX6_readTerm_78 ?_
    refine lv_lload S.1 S.2.1 dX6_readTerm_79 (lv_at hl 0 rfl) ?_
    obtain ⟨r9_, z7_, h8_, hF⟩ := Ybs hF
    refine YcallSl (rest := []) S hw (c_X6_divided hdj hzz3_ (InR_L hx2) (InR_L hrr5_) h8_) my_X6_divided ms_X6_divided ml_X6_82 (Zrr hR (by omega)) ⟨Nat.zero_le _, Nat.zero_le _⟩ hl.1 rfl rfl (Nat.le_of_ble_eq_true rfl) dX6_readTerm_81 (fun hrr9_ hzz7_ H locs hw => ?_)
    exact w_X6_readTerm_b84 hrs S hr hlk hR hdj hk8 _ _ _ _ _ _ _ hF hw hzz7_ hx1 hx3 hrr9_ (lv_sub hl [1, 2, 4] rfl)
  · replace hF := ZtP c6_ hF
    refine lv_iload_n S.1 S.2.1 dX6_readTerm_69 rfl (lv_at hl 3 rfl) ?_
    refine Yi2l S hx2 dX6_readTerm_70 ?_
    refine lv_lload S.1 S.2.1 dX6_readTerm_71 (lv_at hl 0 rfl) ?_
    obtain ⟨g10_, hF⟩ := Zgs hF
    refine Ylmul S dX6_readTerm_73 ?_
    refine lv_goto (tgt := 84) S.1 S.2.1 dX6_readTerm_74 (by decide) ?_
    exact w_X6_readTerm_b84 hrs S hr hlk hR hdj hk8 _ _ _ _ _ _ _ hF hw hzz3_ hx1 hx3 g10_ (lv_sub hl [1, 2, 4] rfl)
set_option maxRecDepth 100000 in
set_option maxHeartbeats 4000000 in
theorem w_X6_readTerm_b41 {rs : ZI → Int → Option (Int × ZI)} {hb : Nat} (hrs : ∀ z x r z1, Zok z → InR x → rs z x = some (r, z1) → YMi l D cA ad hb yX6_readSum cX6_readSum 7 (some .int) [.ref (ad 30), .int (i32 x)] z r z1) {RR : Int × ZI} (S : CallFix p m c cX6_readTerm 7 s args Ztbl RX6) (hr : meth.sig.returnType = some .int) (hlk : meth.locks = false) (hR : hb + 6 ≤ R.frames ∧ 60 * (hb + 6) ≤ R.locals) (hdj : Zdj ad) : ∀ (z : ZI) (x2 : Int) (H : Heap) (locs : List Loc) (ls : Array Slot), X6_readTerm_b41 rs z x2 = some RR → ZW D cA ad (ZA ad) (Zc z) s H locs → Zok z → InR x2 → lv_has ls 7 [(2, .int (i32 (x2)))] → W p l e R s m args below meth c H locs 0 0 (MQ below (YQi D cA ad RR.1 RR.2) args s 0 0 (ZA ad)) (F0 m 41 ls []) := by
  intro z x2 H locs ls hF hw hzz hx2 hl
  unfold X6_readTerm_b41 at hF
  refine lv_goto (tgt := 94) S.1 S.2.1 dX6_readTerm_41 (by decide) ?_
  exact w_X6_readTerm_b94 hrs S hr hlk hR hdj _ _ _ _ _ hF hw hzz hx2 (lv_sub hl [0] rfl)
set_option maxRecDepth 100000 in
set_option maxHeartbeats 4000000 in
theorem w_X6_readTerm_L8 {rs : ZI → Int → Option (Int × ZI)} {hb : Nat} (hrs : ∀ z x r z1, Zok z → InR x → rs z x = some (r, z1) → YMi l D cA ad hb yX6_readSum cX6_readSum 7 (some .int) [.ref (ad 30), .int (i32 x)] z r z1) {RR : Int × ZI} (S : CallFix p m c cX6_readTerm 7 s args Ztbl RX6) (hr : meth.sig.returnType = some .int) (hlk : meth.locks = false) (hR : hb + 6 ≤ R.frames ∧ 60 * (hb + 6) ≤ R.locals) (hdj : Zdj ad) : ∀ (n : Nat) (z : ZI) (x1 : Int) (x2 : Int) (x3 : Int) (H : Heap) (locs : List Loc) (ls : Array Slot), X6_readTerm_L8 rs n z x1 x2 x3 = some RR → ZW D cA ad (ZA ad) (Zc z) s H locs → Zok z → InR x1 → InR x2 → InR x3 → lv_has ls 7 [(0, .ref (ad 30)), (1, .int (i32 (x1))), (2, .int (i32 (x2))), (3, .int (i32 (x3)))] → W p l e R s m args below meth c H locs 0 0 (MQ below (YQi D cA ad RR.1 RR.2) args s 0 0 (ZA ad)) (F0 m 8 ls []) := by
  intro n
  induction n with
  | zero => intro z x1 x2 x3 H locs ls hF; exact nomatch hF
  | succ n hk8 =>
    intro z x1 x2 x3 H locs ls hF hw hzz hx1 hx2 hx3 hl
    replace hF : X6_readTerm_L8b rs (X6_readTerm_L8 rs n) z x1 x2 x3 = some RR := hF
    unfold X6_readTerm_L8b at hF
    refine lv_iload_n S.1 S.2.1 dX6_readTerm_8 rfl (lv_at hl 3 rfl) ?_
    refine lv_bipush (v := i32 60) S.1 S.2.1 dX6_readTerm_9 bp_60 ?_
    refine Yicmp_ge (tgt := 94) S hx3 r_60 dX6_readTerm_11 (by decide) (fun c1_ => ?_) (fun c1_ => ?_)
    · replace hF := ZtP c1_ hF
      exact w_X6_readTerm_b94 hrs S hr hlk hR hdj _ _ _ _ _ hF hw hzz hx2 (lv_sub hl [2] rfl)
    · replace hF := ZtN c1_ hF
      refine lv_aload_n S.1 S.2.1 dX6_readTerm_14 rfl (lv_at hl 0 rfl) ?_
      obtain ⟨r4_, z2_, h3_, hF⟩ := Ybs hF
      refine YcallVi (rest := []) S hw (c_X6_sound hdj hzz  h3_) my_X6_sound mi_X6_sound ml_X6_52 zd_30 zc_X6 rfl (Zrr hR (by omega)) ⟨Nat.zero_le _, Nat.zero_le _⟩ hl.1 rfl rfl (Nat.le_of_ble_eq_true rfl) dX6_readTerm_15 (fun hrr4_ hzz2_ H locs hw => ?_)
      refine Yif_eq (tgt := 94) S hrr4_ dX6_readTerm_18 (by decide) (fun c5_ => ?_) (fun c5_ => ?_)
      · replace hF := ZtP c5_ hF
        exact w_X6_readTerm_b94 hrs S hr hlk hR hdj _ _ _ _ _ hF hw hzz2_ hx2 (lv_sub hl [2] rfl)
      · replace hF := ZtN c5_ hF
        refine lv_aload_n S.1 S.2.1 dX6_readTerm_21 rfl (lv_at hl 0 rfl) ?_
        obtain ⟨r8_, z6_, h7_, hF⟩ := Ybs hF
        refine YcallVi (rest := []) S hw (c_X6_next hdj hzz2_  h7_) my_X6_next mi_X6_next ml_X6_72 zd_30 zc_X6 rfl (Zrr hR (by omega)) ⟨Nat.zero_le _, Nat.zero_le _⟩ hl.1 rfl rfl (Nat.le_of_ble_eq_true rfl) dX6_readTerm_22 (fun hrr8_ hzz6_ H locs hw => ?_)
        refine lv_istore (lv' := [(4, .int (i32 (r8_))), (0, .ref (ad 30)), (1, .int (i32 (x1))), (2, .int (i32 (x2))), (3, .int (i32 (x3)))]) S.1 S.2.1 dX6_readTerm_25 hl (by decide) rfl (fun ls hl => ?_)
        refine lv_iload S.1 S.2.1 dX6_readTerm_27 (lv_at hl 0 rfl) ?_
        refine lv_bipush (v := i32 42) S.1 S.2.1 dX6_readTerm_29 bp_42 ?_
        refine Yicmp_eq (tgt := 44) S hrr8_ r_42 dX6_readTerm_31 (by decide) (fun c9_ => ?_) (fun c9_ => ?_)
        · replace hF := ZtP c9_ hF
          exact w_X6_readTerm_b44 hrs S hr hlk hR hdj hk8 _ _ _ _ _ _ _ _ hF hw hzz6_ hx1 hx2 hx3 hrr8_ (lv_sub hl [1, 2, 3, 4, 0] rfl)
        · replace hF := ZtN c9_ hF
          refine lv_iload S.1 S.2.1 dX6_readTerm_34 (lv_at hl 0 rfl) ?_
          refine lv_bipush (v := i32 47) S.1 S.2.1 dX6_readTerm_36 bp_47 ?_
          refine Yicmp_eq (tgt := 44) S hrr8_ r_47 dX6_readTerm_38 (by decide) (fun c10_ => ?_) (fun c10_ => ?_)
          · replace hF := ZtP c10_ hF
            exact w_X6_readTerm_b44 hrs S hr hlk hR hdj hk8 _ _ _ _ _ _ _ _ hF hw hzz6_ hx1 hx2 hx3 hrr8_ (lv_sub hl [1, 2, 3, 4, 0] rfl)
          · replace hF := ZtN c10_ hF
            exact w_X6_readTerm_b41 hrs S hr hlk hR hdj _ _ _ _ _ hF hw hzz6_ hx2 (lv_sub hl [3] rfl)
set_option maxRecDepth 100000 in
set_option maxHeartbeats 4000000 in
theorem c_X6_readTerm {l : Launch} {D : va_G} {cA : Nat → ClassId} {ad : Nat → Nat} (hdj : Zdj ad) {rs : ZI → Int → Option (Int × ZI)} {hb : Nat} (hrs : ∀ z x r z1, Zok z → InR x → rs z x = some (r, z1) → YMi l D cA ad hb yX6_readSum cX6_readSum 7 (some .int) [.ref (ad 30), .int (i32 x)] z r z1) {z z1 : ZI} {x1 : Int} {r : Int} (hzz : Zok z) (hx1 : InR x1) (hF : F_X6_readTerm rs z x1 = some (r, z1)) : YMi l D cA ad (hb + 6) yX6_readTerm cX6_readTerm 7 (some .int) [.ref (ad 30), .int (i32 x1)] z r z1 :=
  Zmet hdj (by decide) rfl (Nat.le_of_ble_eq_true rfl) (lv := [(0, .ref (ad 30)), (1, .int (i32 (x1)))]) rfl (fun p e s m args below meth c ls S hr hlk hw hl => by
    have hR : hb + 6 ≤ (Zrm (hb + 6)).frames ∧ 60 * (hb + 6) ≤ (Zrm (hb + 6)).locals := ⟨Nat.le_refl _, Nat.le_refl _⟩
    unfold F_X6_readTerm at hF
    revert hR
    generalize Zrm (hb + 6) = R
    intro hR
    refine lv_aload_n S.1 S.2.1 dX6_readTerm_0 rfl (lv_at hl 0 rfl) ?_
    refine lv_iload_n S.1 S.2.1 dX6_readTerm_1 rfl (lv_at hl 1 rfl) ?_
    obtain ⟨r3_, z1_, h2_, hF⟩ := Ybs hF
    refine YcallVi (rest := []) S hw (c_X6_readUnit hdj hrs hzz hx1 h2_) my_X6_readUnit mi_X6_readUnit ml_X6_79 zd_30 zc_X6 rfl (Zrr hR (by omega)) ⟨Nat.zero_le _, Nat.zero_le _⟩ hl.1 rfl rfl (Nat.le_of_ble_eq_true rfl) dX6_readTerm_2 (fun hrr3_ hzz1_ H locs hw => ?_)
    refine lv_istore_n (lv' := [(2, .int (i32 (r3_))), (0, .ref (ad 30)), (1, .int (i32 (x1)))]) S.1 S.2.1 dX6_readTerm_5 rfl hl (by decide) rfl (fun ls hl => ?_)
    refine lv_iconst (v := i32 0) S.1 S.2.1 dX6_readTerm_6 ic_0 ?_
    refine lv_istore_n (lv' := [(3, .int (i32 (0))), (2, .int (i32 (r3_))), (0, .ref (ad 30)), (1, .int (i32 (x1)))]) S.1 S.2.1 dX6_readTerm_7 rfl hl (by decide) rfl (fun ls hl => ?_)
    exact w_X6_readTerm_L8 hrs S hr hlk hR hdj Zfuel _ _ _ _ _ _ _ hF hw hzz1_ hx1 hrr3_ r_0 (lv_sub hl [2, 3, 1, 0] rfl))
set_option maxRecDepth 100000 in
set_option maxHeartbeats 4000000 in
theorem w_X6_readSum_b92 {rs : ZI → Int → Option (Int × ZI)} {hb : Nat} (hrs : ∀ z x r z1, Zok z → InR x → rs z x = some (r, z1) → YMi l D cA ad hb yX6_readSum cX6_readSum 7 (some .int) [.ref (ad 30), .int (i32 x)] z r z1) {RR : Int × ZI} (S : CallFix p m c cX6_readSum 7 s args Ztbl RX6) (hr : meth.sig.returnType = some .int) (hlk : meth.locks = false) (hR : hb + 7 ≤ R.frames ∧ 60 * (hb + 7) ≤ R.locals) (hdj : Zdj ad) : ∀ (z : ZI) (x2 : Int) (H : Heap) (locs : List Loc) (ls : Array Slot), X6_readSum_b92 rs z x2 = some RR → ZW D cA ad (ZA ad) (Zc z) s H locs → Zok z → InR x2 → lv_has ls 7 [(2, .int (i32 (x2)))] → W p l e R s m args below meth c H locs 0 0 (MQ below (YQi D cA ad RR.1 RR.2) args s 0 0 (ZA ad)) (F0 m 92 ls []) := by
  intro z x2 H locs ls hF hw hzz hx2 hl
  unfold X6_readSum_b92 at hF
  refine lv_iload_n S.1 S.2.1 dX6_readSum_92 rfl (lv_at hl 0 rfl) ?_
  exact Yireti S hw hzz hx2 hr hlk hF dX6_readSum_93
set_option maxRecDepth 100000 in
set_option maxHeartbeats 4000000 in
theorem w_X6_readSum_b82 {rs : ZI → Int → Option (Int × ZI)} {hb : Nat} (hrs : ∀ z x r z1, Zok z → InR x → rs z x = some (r, z1) → YMi l D cA ad hb yX6_readSum cX6_readSum 7 (some .int) [.ref (ad 30), .int (i32 x)] z r z1) {RR : Int × ZI} (S : CallFix p m c cX6_readSum 7 s args Ztbl RX6) (hr : meth.sig.returnType = some .int) (hlk : meth.locks = false) (hR : hb + 7 ≤ R.frames ∧ 60 * (hb + 7) ≤ R.locals) (hdj : Zdj ad) {k8 : ZI → Int → Int → Int → Option (Int × ZI)} (hk8 : ∀ (z : ZI) (x1 : Int) (x2 : Int) (x3 : Int) (H : Heap) (locs : List Loc) (ls : Array Slot), k8 z x1 x2 x3 = some RR → ZW D cA ad (ZA ad) (Zc z) s H locs → Zok z → InR x1 → InR x2 → InR x3 → lv_has ls 7 [(0, .ref (ad 30)), (1, .int (i32 (x1))), (2, .int (i32 (x2))), (3, .int (i32 (x3)))] → W p l e R s m args below meth c H locs 0 0 (MQ below (YQi D cA ad RR.1 RR.2) args s 0 0 (ZA ad)) (F0 m 8 ls [])) : ∀ (z : ZI) (x1 : Int) (x3 : Int) (y0 : Int) (H : Heap) (locs : List Loc) (ls : Array Slot), X6_readSum_b82 rs k8 z x1 x3 y0 = some RR → ZW D cA ad (ZA ad) (Zc z) s H locs → Zok z → InR x1 → InR x3 → InL y0 → lv_has ls 7 [(0, .ref (ad 30)), (1, .int (i32 (x1))), (3, .int (i32 (x3)))] → W p l e R s m args below meth c H locs 0 0 (MQ below (YQi D cA ad RR.1 RR.2) args s 0 0 (ZA ad)) (F0 m 82 ls [.long (i64 (y0))]) := by
  intro z x1 x3 y0 H locs ls hF hw hzz hx1 hx3 hy0 hl
  unfold X6_readSum_b82 at hF
  obtain ⟨r3_, z1_, h2_, hF⟩ := Ybs hF
  refine YcallSi (rest := []) S hw (c_X6_held hdj hzz hy0 h2_) my_X6_held ms_X6_held ml_X6_75 (Zrr hR (by omega)) ⟨Nat.zero_le _, Nat.zero_le _⟩ hl.1 rfl rfl (Nat.le_of_ble_eq_true rfl) dX6_readSum_82 (fun hrr3_ hzz1_ H locs hw => ?_)
  refine lv_istore_n (lv' := [(2, .int (i32 (r3_))), (0, .ref (ad 30)), (1, .int (i32 (x1))), (3, .int (i32 (x3)))]) S.1 S.2.1 dX6_readSum_85 rfl hl (by decide) rfl (fun ls hl => ?_)
  obtain ⟨g4_, hF⟩ := Zgs hF
  refine lv_iinc (v := i32 (x3 + 1)) (lv' := [(3, .int (i32 (x3 + 1))), (2, .int (i32 (r3_))), (0, .ref (ad 30)), (1, .int (i32 (x1)))]) S.1 S.2.1 dX6_readSum_86 hl (k := 3) rfl Yiinc (by decide) rfl (fun ls hl => ?_)
  refine lv_goto (tgt := 8) S.1 S.2.1 dX6_readSum_89 (by decide) ?_
  exact hk8 _ _ _ _ _ _ _ hF hw hzz1_ hx1 hrr3_ g4_ (lv_sub hl [2, 3, 1, 0] rfl)
set_option maxRecDepth 100000 in
set_option maxHeartbeats 4000000 in
theorem w_X6_readSum_b44 {rs : ZI → Int → Option (Int × ZI)} {hb : Nat} (hrs : ∀ z x r z1, Zok z → InR x → rs z x = some (r, z1) → YMi l D cA ad hb yX6_readSum cX6_readSum 7 (some .int) [.ref (ad 30), .int (i32 x)] z r z1) {RR : Int × ZI} (S : CallFix p m c cX6_readSum 7 s args Ztbl RX6) (hr : meth.sig.returnType = some .int) (hlk : meth.locks = false) (hR : hb + 7 ≤ R.frames ∧ 60 * (hb + 7) ≤ R.locals) (hdj : Zdj ad) {k8 : ZI → Int → Int → Int → Option (Int × ZI)} (hk8 : ∀ (z : ZI) (x1 : Int) (x2 : Int) (x3 : Int) (H : Heap) (locs : List Loc) (ls : Array Slot), k8 z x1 x2 x3 = some RR → ZW D cA ad (ZA ad) (Zc z) s H locs → Zok z → InR x1 → InR x2 → InR x3 → lv_has ls 7 [(0, .ref (ad 30)), (1, .int (i32 (x1))), (2, .int (i32 (x2))), (3, .int (i32 (x3)))] → W p l e R s m args below meth c H locs 0 0 (MQ below (YQi D cA ad RR.1 RR.2) args s 0 0 (ZA ad)) (F0 m 8 ls [])) : ∀ (z : ZI) (x1 : Int) (x2 : Int) (x3 : Int) (x4 : Int) (H : Heap) (locs : List Loc) (ls : Array Slot), X6_readSum_b44 rs k8 z x1 x2 x3 x4 = some RR → ZW D cA ad (ZA ad) (Zc z) s H locs → Zok z → InR x1 → InR x2 → InR x3 → InR x4 → lv_has ls 7 [(0, .ref (ad 30)), (1, .int (i32 (x1))), (2, .int (i32 (x2))), (3, .int (i32 (x3))), (4, .int (i32 (x4)))] → W p l e R s m args below meth c H locs 0 0 (MQ below (YQi D cA ad RR.1 RR.2) args s 0 0 (ZA ad)) (F0 m 44 ls []) := by
  intro z x1 x2 x3 x4 H locs ls hF hw hzz hx1 hx2 hx3 hx4 hl
  unfold X6_readSum_b44 at hF
  refine lv_aload_n S.1 S.2.1 dX6_readSum_44 rfl (lv_at hl 0 rfl) ?_
  refine lv_dup S.1 S.2.1 dX6_readSum_45 rfl ?_
  refine gg_X6_45 S hw dX6_readSum_46 ?_
  refine lv_iconst (v := i32 1) S.1 S.2.1 dX6_readSum_49 ic_1 ?_
  obtain ⟨g1_, hF⟩ := Zgs hF
  refine Yiadd S dX6_readSum_50 ?_
  refine pp_X6_45 S hw hzz g1_ dX6_readSum_51 (fun z2_ H locs ez hzz2_ hw => ?_)
  replace hF := Zle ez hF; clear ez
  refine lv_aload_n S.1 S.2.1 dX6_readSum_54 rfl (lv_at hl 0 rfl) ?_
  refine lv_iload_n S.1 S.2.1 dX6_readSum_55 rfl (lv_at hl 1 rfl) ?_
  obtain ⟨r5_, z3_, h4_, hF⟩ := Ybs hF
  refine YcallVi (rest := []) S hw (c_X6_readTerm hdj hrs hzz2_ hx1 h4_) my_X6_readTerm mi_X6_readTerm ml_X6_69 zd_30 zc_X6 rfl (Zrr hR (by omega)) ⟨Nat.zero_le _, Nat.zero_le _⟩ hl.1 rfl rfl (Nat.le_of_ble_eq_true rfl) dX6_readSum_56 (fun hrr5_ hzz3_ H locs hw => ?_)
  refine Yi2l S hrr5_ dX6_readSum_59 ?_
  refine lv_lstore (lv' := [(5, .long (i64 (r5_))), (0, .ref (ad 30)), (1, .int (i32 (x1))), (2, .int (i32 (x2))), (3, .int (i32 (x3))), (4, .int (i32 (x4)))]) S.1 S.2.1 dX6_readSum_60 hl (by decide) rfl (fun ls hl => ?_)
  refine lv_iload S.1 S.2.1 dX6_readSum_62 (lv_at hl 5 rfl) ?_
  refine lv_bipush (v := i32 43) S.1 S.2.1 dX6_readSum_64 bp_43 ?_
  refine Yicmp_ne (tgt := 77) S hx4 r_43 dX6_readSum_66 (by decide) (fun c6_ => ?_) (fun c6_ => ?_)
  · replace hF := ZtN c6_ hF
    refine lv_iload_n S.1 S.2.1 dX6_readSum_77 rfl (lv_at hl 3 rfl) ?_
    refine Yi2l S hx2 dX6_readSum_78 ?_
    refine lv_lload S.1 S.2.1 dX6_readSum_79 (lv_at hl 0 rfl) ?_
    obtain ⟨g7_, hF⟩ := Zgs hF
    refine Ylsub S dX6_readSum_81 ?_
    exact w_X6_readSum_b82 hrs S hr hlk hR hdj hk8 _ _ _ _ _ _ _ hF hw hzz3_ hx1 hx3 g7_ (lv_sub hl [1, 2, 4] rfl)
  · replace hF := ZtP c6_ hF
    refine lv_iload_n S.1 S.2.1 dX6_readSum_69 rfl (lv_at hl 3 rfl) ?_
    refine Yi2l S hx2 dX6_readSum_70 ?_
    refine lv_lload S.1 S.2.1 dX6_readSum_71 (lv_at hl 0 rfl) ?_
    obtain ⟨g8_, hF⟩ := Zgs hF
    refine Yladd S dX6_readSum_73 ?_
    refine lv_goto (tgt := 82) S.1 S.2.1 dX6_readSum_74 (by decide) ?_
    exact w_X6_readSum_b82 hrs S hr hlk hR hdj hk8 _ _ _ _ _ _ _ hF hw hzz3_ hx1 hx3 g8_ (lv_sub hl [1, 2, 4] rfl)
set_option maxRecDepth 100000 in
set_option maxHeartbeats 4000000 in
theorem w_X6_readSum_b41 {rs : ZI → Int → Option (Int × ZI)} {hb : Nat} (hrs : ∀ z x r z1, Zok z → InR x → rs z x = some (r, z1) → YMi l D cA ad hb yX6_readSum cX6_readSum 7 (some .int) [.ref (ad 30), .int (i32 x)] z r z1) {RR : Int × ZI} (S : CallFix p m c cX6_readSum 7 s args Ztbl RX6) (hr : meth.sig.returnType = some .int) (hlk : meth.locks = false) (hR : hb + 7 ≤ R.frames ∧ 60 * (hb + 7) ≤ R.locals) (hdj : Zdj ad) : ∀ (z : ZI) (x2 : Int) (H : Heap) (locs : List Loc) (ls : Array Slot), X6_readSum_b41 rs z x2 = some RR → ZW D cA ad (ZA ad) (Zc z) s H locs → Zok z → InR x2 → lv_has ls 7 [(2, .int (i32 (x2)))] → W p l e R s m args below meth c H locs 0 0 (MQ below (YQi D cA ad RR.1 RR.2) args s 0 0 (ZA ad)) (F0 m 41 ls []) := by
  intro z x2 H locs ls hF hw hzz hx2 hl
  unfold X6_readSum_b41 at hF
  refine lv_goto (tgt := 92) S.1 S.2.1 dX6_readSum_41 (by decide) ?_
  exact w_X6_readSum_b92 hrs S hr hlk hR hdj _ _ _ _ _ hF hw hzz hx2 (lv_sub hl [0] rfl)
set_option maxRecDepth 100000 in
set_option maxHeartbeats 4000000 in
theorem w_X6_readSum_L8 {rs : ZI → Int → Option (Int × ZI)} {hb : Nat} (hrs : ∀ z x r z1, Zok z → InR x → rs z x = some (r, z1) → YMi l D cA ad hb yX6_readSum cX6_readSum 7 (some .int) [.ref (ad 30), .int (i32 x)] z r z1) {RR : Int × ZI} (S : CallFix p m c cX6_readSum 7 s args Ztbl RX6) (hr : meth.sig.returnType = some .int) (hlk : meth.locks = false) (hR : hb + 7 ≤ R.frames ∧ 60 * (hb + 7) ≤ R.locals) (hdj : Zdj ad) : ∀ (n : Nat) (z : ZI) (x1 : Int) (x2 : Int) (x3 : Int) (H : Heap) (locs : List Loc) (ls : Array Slot), X6_readSum_L8 rs n z x1 x2 x3 = some RR → ZW D cA ad (ZA ad) (Zc z) s H locs → Zok z → InR x1 → InR x2 → InR x3 → lv_has ls 7 [(0, .ref (ad 30)), (1, .int (i32 (x1))), (2, .int (i32 (x2))), (3, .int (i32 (x3)))] → W p l e R s m args below meth c H locs 0 0 (MQ below (YQi D cA ad RR.1 RR.2) args s 0 0 (ZA ad)) (F0 m 8 ls []) := by
  intro n
  induction n with
  | zero => intro z x1 x2 x3 H locs ls hF; exact nomatch hF
  | succ n hk8 =>
    intro z x1 x2 x3 H locs ls hF hw hzz hx1 hx2 hx3 hl
    replace hF : X6_readSum_L8b rs (X6_readSum_L8 rs n) z x1 x2 x3 = some RR := hF
    unfold X6_readSum_L8b at hF
    refine lv_iload_n S.1 S.2.1 dX6_readSum_8 rfl (lv_at hl 3 rfl) ?_
    refine lv_bipush (v := i32 60) S.1 S.2.1 dX6_readSum_9 bp_60 ?_
    refine Yicmp_ge (tgt := 92) S hx3 r_60 dX6_readSum_11 (by decide) (fun c1_ => ?_) (fun c1_ => ?_)
    · replace hF := ZtP c1_ hF
      exact w_X6_readSum_b92 hrs S hr hlk hR hdj _ _ _ _ _ hF hw hzz hx2 (lv_sub hl [2] rfl)
    · replace hF := ZtN c1_ hF
      refine lv_aload_n S.1 S.2.1 dX6_readSum_14 rfl (lv_at hl 0 rfl) ?_
      obtain ⟨r4_, z2_, h3_, hF⟩ := Ybs hF
      refine YcallVi (rest := []) S hw (c_X6_sound hdj hzz  h3_) my_X6_sound mi_X6_sound ml_X6_52 zd_30 zc_X6 rfl (Zrr hR (by omega)) ⟨Nat.zero_le _, Nat.zero_le _⟩ hl.1 rfl rfl (Nat.le_of_ble_eq_true rfl) dX6_readSum_15 (fun hrr4_ hzz2_ H locs hw => ?_)
      refine Yif_eq (tgt := 92) S hrr4_ dX6_readSum_18 (by decide) (fun c5_ => ?_) (fun c5_ => ?_)
      · replace hF := ZtP c5_ hF
        exact w_X6_readSum_b92 hrs S hr hlk hR hdj _ _ _ _ _ hF hw hzz2_ hx2 (lv_sub hl [2] rfl)
      · replace hF := ZtN c5_ hF
        refine lv_aload_n S.1 S.2.1 dX6_readSum_21 rfl (lv_at hl 0 rfl) ?_
        obtain ⟨r8_, z6_, h7_, hF⟩ := Ybs hF
        refine YcallVi (rest := []) S hw (c_X6_next hdj hzz2_  h7_) my_X6_next mi_X6_next ml_X6_72 zd_30 zc_X6 rfl (Zrr hR (by omega)) ⟨Nat.zero_le _, Nat.zero_le _⟩ hl.1 rfl rfl (Nat.le_of_ble_eq_true rfl) dX6_readSum_22 (fun hrr8_ hzz6_ H locs hw => ?_)
        refine lv_istore (lv' := [(4, .int (i32 (r8_))), (0, .ref (ad 30)), (1, .int (i32 (x1))), (2, .int (i32 (x2))), (3, .int (i32 (x3)))]) S.1 S.2.1 dX6_readSum_25 hl (by decide) rfl (fun ls hl => ?_)
        refine lv_iload S.1 S.2.1 dX6_readSum_27 (lv_at hl 0 rfl) ?_
        refine lv_bipush (v := i32 43) S.1 S.2.1 dX6_readSum_29 bp_43 ?_
        refine Yicmp_eq (tgt := 44) S hrr8_ r_43 dX6_readSum_31 (by decide) (fun c9_ => ?_) (fun c9_ => ?_)
        · replace hF := ZtP c9_ hF
          exact w_X6_readSum_b44 hrs S hr hlk hR hdj hk8 _ _ _ _ _ _ _ _ hF hw hzz6_ hx1 hx2 hx3 hrr8_ (lv_sub hl [1, 2, 3, 4, 0] rfl)
        · replace hF := ZtN c9_ hF
          refine lv_iload S.1 S.2.1 dX6_readSum_34 (lv_at hl 0 rfl) ?_
          refine lv_bipush (v := i32 45) S.1 S.2.1 dX6_readSum_36 bp_45 ?_
          refine Yicmp_eq (tgt := 44) S hrr8_ r_45 dX6_readSum_38 (by decide) (fun c10_ => ?_) (fun c10_ => ?_)
          · replace hF := ZtP c10_ hF
            exact w_X6_readSum_b44 hrs S hr hlk hR hdj hk8 _ _ _ _ _ _ _ _ hF hw hzz6_ hx1 hx2 hx3 hrr8_ (lv_sub hl [1, 2, 3, 4, 0] rfl)
          · replace hF := ZtN c10_ hF
            exact w_X6_readSum_b41 hrs S hr hlk hR hdj _ _ _ _ _ hF hw hzz6_ hx2 (lv_sub hl [3] rfl)
set_option maxRecDepth 100000 in
set_option maxHeartbeats 4000000 in
theorem c_X6_readSum {l : Launch} {D : va_G} {cA : Nat → ClassId} {ad : Nat → Nat} (hdj : Zdj ad) {rs : ZI → Int → Option (Int × ZI)} {hb : Nat} (hrs : ∀ z x r z1, Zok z → InR x → rs z x = some (r, z1) → YMi l D cA ad hb yX6_readSum cX6_readSum 7 (some .int) [.ref (ad 30), .int (i32 x)] z r z1) {z z1 : ZI} {x1 : Int} {r : Int} (hzz : Zok z) (hx1 : InR x1) (hF : F_X6_readSum rs z x1 = some (r, z1)) : YMi l D cA ad (hb + 7) yX6_readSum cX6_readSum 7 (some .int) [.ref (ad 30), .int (i32 x1)] z r z1 :=
  Zmet hdj (by decide) rfl (Nat.le_of_ble_eq_true rfl) (lv := [(0, .ref (ad 30)), (1, .int (i32 (x1)))]) rfl (fun p e s m args below meth c ls S hr hlk hw hl => by
    have hR : hb + 7 ≤ (Zrm (hb + 7)).frames ∧ 60 * (hb + 7) ≤ (Zrm (hb + 7)).locals := ⟨Nat.le_refl _, Nat.le_refl _⟩
    unfold F_X6_readSum at hF
    revert hR
    generalize Zrm (hb + 7) = R
    intro hR
    refine lv_aload_n S.1 S.2.1 dX6_readSum_0 rfl (lv_at hl 0 rfl) ?_
    refine lv_iload_n S.1 S.2.1 dX6_readSum_1 rfl (lv_at hl 1 rfl) ?_
    obtain ⟨r3_, z1_, h2_, hF⟩ := Ybs hF
    refine YcallVi (rest := []) S hw (c_X6_readTerm hdj hrs hzz hx1 h2_) my_X6_readTerm mi_X6_readTerm ml_X6_69 zd_30 zc_X6 rfl (Zrr hR (by omega)) ⟨Nat.zero_le _, Nat.zero_le _⟩ hl.1 rfl rfl (Nat.le_of_ble_eq_true rfl) dX6_readSum_2 (fun hrr3_ hzz1_ H locs hw => ?_)
    refine lv_istore_n (lv' := [(2, .int (i32 (r3_))), (0, .ref (ad 30)), (1, .int (i32 (x1)))]) S.1 S.2.1 dX6_readSum_5 rfl hl (by decide) rfl (fun ls hl => ?_)
    refine lv_iconst (v := i32 0) S.1 S.2.1 dX6_readSum_6 ic_0 ?_
    refine lv_istore_n (lv' := [(3, .int (i32 (0))), (2, .int (i32 (r3_))), (0, .ref (ad 30)), (1, .int (i32 (x1)))]) S.1 S.2.1 dX6_readSum_7 rfl hl (by decide) rfl (fun ls hl => ?_)
    exact w_X6_readSum_L8 hrs S hr hlk hR hdj Zfuel _ _ _ _ _ _ _ hF hw hzz1_ hx1 hrr3_ r_0 (lv_sub hl [2, 3, 1, 0] rfl))
theorem c_Zrs_n {l : Launch} {D : va_G} {cA : Nat → ClassId} {ad : Nat → Nat} (hdj : Zdj ad) : ∀ (n : Nat) (z : ZI) (x r : Int) (z1 : ZI), Zok z → InR x → Zrs n z x = some (r, z1) → YMi l D cA ad (7 * n) yX6_readSum cX6_readSum 7 (some .int) [.ref (ad 30), .int (i32 x)] z r z1 := by
  intro n
  induction n with
  | zero => intro z x r z1 _ _ h; exact nomatch h
  | succ n ih => intro z x r z1 hz hx h; exact c_X6_readSum hdj ih hz hx h
theorem c_Zrs {l : Launch} {D : va_G} {cA : Nat → ClassId} {ad : Nat → Nat} (hdj : Zdj ad) {z : ZI} {x r : Int} {z1 : ZI} (hz : Zok z) (hx : InR x) (h : Zrs 6 z x = some (r, z1)) : YMi l D cA ad 42 yX6_readSum cX6_readSum 7 (some .int) [.ref (ad 30), .int (i32 x)] z r z1 := c_Zrs_n hdj 6 z x r z1 hz hx h
set_option maxRecDepth 100000 in
set_option maxHeartbeats 4000000 in
theorem c_X0_close {l : Launch} {D : va_G} {cA : Nat → ClassId} {ad : Nat → Nat} (hdj : Zdj ad) {z z1 : ZI} {x1 : Int} {x2 : Int} (hzz : Zok z) (hx1 : InR x1) (hx2 : InR x2) (hF : F_X0_close z x1 x2 = some ((), z1)) : YMv l D cA ad (0) yX0_close cX0_close 3 [.ref (ad 33), .int (i32 x1), .int (i32 x2)] z z1 :=
  Zmet hdj (by decide) rfl (Nat.le_of_ble_eq_true rfl) (lv := [(0, .ref (ad 33)), (1, .int (i32 (x1))), (2, .int (i32 (x2)))]) rfl (fun p e s m args below meth c ls S hr hlk hw hl => by
    have hR : 0 ≤ (Zrm (0)).frames ∧ 60 * (0) ≤ (Zrm (0)).locals := ⟨Nat.le_refl _, Nat.le_refl _⟩
    unfold F_X0_close at hF
    revert hR
    generalize Zrm (0) = R
    intro hR
    refine lv_aload_n S.1 S.2.1 dX0_close_0 rfl (lv_at hl 0 rfl) ?_
    refine gf_X0_18 S hw dX0_close_1 ?_
    refine lv_iload_n S.1 S.2.1 dX0_close_4 rfl (lv_at hl 1 rfl) ?_
    refine lv_iload_n S.1 S.2.1 dX0_close_5 rfl (lv_at hl 2 rfl) ?_
    obtain ⟨b1_, hF⟩ := Zgs hF
    refine Yiast S hw hzz zd_36 (by decide) hx1 hx2 b1_ dX0_close_6 (fun z2_ H locs ez hzz2_ hw => ?_)
    replace hF := Zle ez hF; clear ez
    exact Yvret S hw hzz2_ hr hlk hF dX0_close_7)
set_option maxRecDepth 100000 in
set_option maxHeartbeats 4000000 in
theorem w_X0_has_b17 {RR : Int × ZI} (S : CallFix p m c cX0_has 2 s args Ztbl RX0) (hr : meth.sig.returnType = some .boolean) (hlk : meth.locks = false) (hR : 0 ≤ R.frames ∧ 60 * (0) ≤ R.locals) (hdj : Zdj ad) : ∀ (z : ZI) (y0 : Int) (H : Heap) (locs : List Loc) (ls : Array Slot), X0_has_b17 z y0 = some RR → ZW D cA ad (ZA ad) (Zc z) s H locs → Zok z → InR y0 → lv_has ls 2 [] → W p l e R s m args below meth c H locs 0 0 (MQ below (YQi D cA ad RR.1 RR.2) args s 0 0 (ZA ad)) (F0 m 17 ls [.int (i32 (y0))]) := by
  intro z y0 H locs ls hF hw hzz hy0 hl
  unfold X0_has_b17 at hF
  obtain ⟨b1_, hF⟩ := Zgs hF
  exact Yiretz S hw hzz hy0 hr hlk b1_ hF dX0_has_17
set_option maxRecDepth 100000 in
set_option maxHeartbeats 4000000 in
theorem w_X0_has_b16 {RR : Int × ZI} (S : CallFix p m c cX0_has 2 s args Ztbl RX0) (hr : meth.sig.returnType = some .boolean) (hlk : meth.locks = false) (hR : 0 ≤ R.frames ∧ 60 * (0) ≤ R.locals) (hdj : Zdj ad) : ∀ (z : ZI) (H : Heap) (locs : List Loc) (ls : Array Slot), X0_has_b16 z  = some RR → ZW D cA ad (ZA ad) (Zc z) s H locs → Zok z → lv_has ls 2 [] → W p l e R s m args below meth c H locs 0 0 (MQ below (YQi D cA ad RR.1 RR.2) args s 0 0 (ZA ad)) (F0 m 16 ls []) := by
  intro z  H locs ls hF hw hzz  hl
  unfold X0_has_b16 at hF
  refine lv_iconst (v := i32 0) S.1 S.2.1 dX0_has_16 ic_0 ?_
  exact w_X0_has_b17 S hr hlk hR hdj _ _ _ _ _ hF hw hzz r_0 (lv_sub hl [] rfl)
set_option maxRecDepth 100000 in
set_option maxHeartbeats 4000000 in
theorem c_X0_has {l : Launch} {D : va_G} {cA : Nat → ClassId} {ad : Nat → Nat} (hdj : Zdj ad) {z z1 : ZI} {x1 : Int} {r : Int} (hzz : Zok z) (hx1 : InR x1) (hF : F_X0_has z x1 = some (r, z1)) : YMi l D cA ad (0) yX0_has cX0_has 2 (some .boolean) [.ref (ad 33), .int (i32 x1)] z r z1 :=
  Zmet hdj (by decide) rfl (Nat.le_of_ble_eq_true rfl) (lv := [(0, .ref (ad 33)), (1, .int (i32 (x1)))]) rfl (fun p e s m args below meth c ls S hr hlk hw hl => by
    have hR : 0 ≤ (Zrm (0)).frames ∧ 60 * (0) ≤ (Zrm (0)).locals := ⟨Nat.le_refl _, Nat.le_refl _⟩
    unfold F_X0_has at hF
    revert hR
    generalize Zrm (0) = R
    intro hR
    refine lv_iload_n S.1 S.2.1 dX0_has_0 rfl (lv_at hl 1 rfl) ?_
    refine Yif_lt (tgt := 16) S hx1 dX0_has_1 (by decide) (fun c1_ => ?_) (fun c1_ => ?_)
    · replace hF := ZtP c1_ hF
      exact w_X0_has_b16 S hr hlk hR hdj _ _ _ _ hF hw hzz  (lv_sub hl [] rfl)
    · replace hF := ZtN c1_ hF
      refine lv_iload_n S.1 S.2.1 dX0_has_4 rfl (lv_at hl 1 rfl) ?_
      refine lv_aload_n S.1 S.2.1 dX0_has_5 rfl (lv_at hl 0 rfl) ?_
      refine gg_X0_21 S hw dX0_has_6 ?_
      refine Yicmp_ge (tgt := 16) S hx1 (hzz.1 33 0 (by decide)) dX0_has_9 (by decide) (fun c2_ => ?_) (fun c2_ => ?_)
      · replace hF := ZtP c2_ hF
        exact w_X0_has_b16 S hr hlk hR hdj _ _ _ _ hF hw hzz  (lv_sub hl [] rfl)
      · replace hF := ZtN c2_ hF
        refine lv_iconst (v := i32 1) S.1 S.2.1 dX0_has_12 ic_1 ?_
        refine lv_goto (tgt := 17) S.1 S.2.1 dX0_has_13 (by decide) ?_
        exact w_X0_has_b17 S hr hlk hR hdj _ _ _ _ _ hF hw hzz r_1 (lv_sub hl [] rfl))
set_option maxRecDepth 100000 in
set_option maxHeartbeats 4000000 in
theorem c_X0_houseOf {l : Launch} {D : va_G} {cA : Nat → ClassId} {ad : Nat → Nat} (hdj : Zdj ad) {z z1 : ZI} {x1 : Int} {r : Int} (hzz : Zok z) (hx1 : InR x1) (hF : F_X0_houseOf z x1 = some (r, z1)) : YMi l D cA ad (0) yX0_houseOf cX0_houseOf 2 (some .int) [.ref (ad 33), .int (i32 x1)] z r z1 :=
  Zmet hdj (by decide) rfl (Nat.le_of_ble_eq_true rfl) (lv := [(0, .ref (ad 33)), (1, .int (i32 (x1)))]) rfl (fun p e s m args below meth c ls S hr hlk hw hl => by
    have hR : 0 ≤ (Zrm (0)).frames ∧ 60 * (0) ≤ (Zrm (0)).locals := ⟨Nat.le_refl _, Nat.le_refl _⟩
    unfold F_X0_houseOf at hF
    revert hR
    generalize Zrm (0) = R
    intro hR
    refine lv_aload_n S.1 S.2.1 dX0_houseOf_0 rfl (lv_at hl 0 rfl) ?_
    refine gf_X0_9 S hw dX0_houseOf_1 ?_
    refine lv_iload_n S.1 S.2.1 dX0_houseOf_4 rfl (lv_at hl 1 rfl) ?_
    obtain ⟨b1_, hF⟩ := Zgs hF
    refine Yiald S hw zd_34 (by decide) hx1 b1_ dX0_houseOf_5 ?_
    exact Yireti S hw hzz (hzz.1 _ _ (by decide)) hr hlk hF dX0_houseOf_6)
set_option maxRecDepth 100000 in
set_option maxHeartbeats 4000000 in
theorem w_X0_isEnded_b16 {RR : Int × ZI} (S : CallFix p m c cX0_isEnded 2 s args Ztbl RX0) (hr : meth.sig.returnType = some .boolean) (hlk : meth.locks = false) (hR : 0 ≤ R.frames ∧ 60 * (0) ≤ R.locals) (hdj : Zdj ad) : ∀ (z : ZI) (y0 : Int) (H : Heap) (locs : List Loc) (ls : Array Slot), X0_isEnded_b16 z y0 = some RR → ZW D cA ad (ZA ad) (Zc z) s H locs → Zok z → InR y0 → lv_has ls 2 [] → W p l e R s m args below meth c H locs 0 0 (MQ below (YQi D cA ad RR.1 RR.2) args s 0 0 (ZA ad)) (F0 m 16 ls [.int (i32 (y0))]) := by
  intro z y0 H locs ls hF hw hzz hy0 hl
  unfold X0_isEnded_b16 at hF
  obtain ⟨b1_, hF⟩ := Zgs hF
  exact Yiretz S hw hzz hy0 hr hlk b1_ hF dX0_isEnded_16
set_option maxRecDepth 100000 in
set_option maxHeartbeats 4000000 in
theorem c_X0_isEnded {l : Launch} {D : va_G} {cA : Nat → ClassId} {ad : Nat → Nat} (hdj : Zdj ad) {z z1 : ZI} {x1 : Int} {r : Int} (hzz : Zok z) (hx1 : InR x1) (hF : F_X0_isEnded z x1 = some (r, z1)) : YMi l D cA ad (0) yX0_isEnded cX0_isEnded 2 (some .boolean) [.ref (ad 33), .int (i32 x1)] z r z1 :=
  Zmet hdj (by decide) rfl (Nat.le_of_ble_eq_true rfl) (lv := [(0, .ref (ad 33)), (1, .int (i32 (x1)))]) rfl (fun p e s m args below meth c ls S hr hlk hw hl => by
    have hR : 0 ≤ (Zrm (0)).frames ∧ 60 * (0) ≤ (Zrm (0)).locals := ⟨Nat.le_refl _, Nat.le_refl _⟩
    unfold F_X0_isEnded at hF
    revert hR
    generalize Zrm (0) = R
    intro hR
    refine lv_aload_n S.1 S.2.1 dX0_isEnded_0 rfl (lv_at hl 0 rfl) ?_
    refine gf_X0_18 S hw dX0_isEnded_1 ?_
    refine lv_iload_n S.1 S.2.1 dX0_isEnded_4 rfl (lv_at hl 1 rfl) ?_
    obtain ⟨b1_, hF⟩ := Zgs hF
    refine Yiald S hw zd_36 (by decide) hx1 b1_ dX0_isEnded_5 ?_
    refine lv_bipush (v := i32 (-9)) S.1 S.2.1 dX0_isEnded_6 bp_m9 ?_
    refine Yicmp_eq (tgt := 15) S (hzz.1 _ _ (by decide)) r_m9 dX0_isEnded_8 (by decide) (fun c2_ => ?_) (fun c2_ => ?_)
    · replace hF := ZtP c2_ hF
      refine lv_iconst (v := i32 0) S.1 S.2.1 dX0_isEnded_15 ic_0 ?_
      exact w_X0_isEnded_b16 S hr hlk hR hdj _ _ _ _ _ hF hw hzz r_0 (lv_sub hl [] rfl)
    · replace hF := ZtN c2_ hF
      refine lv_iconst (v := i32 1) S.1 S.2.1 dX0_isEnded_11 ic_1 ?_
      refine lv_goto (tgt := 16) S.1 S.2.1 dX0_isEnded_12 (by decide) ?_
      exact w_X0_isEnded_b16 S hr hlk hR hdj _ _ _ _ _ hF hw hzz r_1 (lv_sub hl [] rfl))
set_option maxRecDepth 100000 in
set_option maxHeartbeats 4000000 in
theorem w_X0_isGoodOn_b36 {RR : Int × ZI} (S : CallFix p m c cX0_isGoodOn 3 s args Ztbl RX0) (hr : meth.sig.returnType = some .boolean) (hlk : meth.locks = false) (hR : 0 ≤ R.frames ∧ 60 * (0) ≤ R.locals) (hdj : Zdj ad) : ∀ (z : ZI) (y0 : Int) (H : Heap) (locs : List Loc) (ls : Array Slot), X0_isGoodOn_b36 z y0 = some RR → ZW D cA ad (ZA ad) (Zc z) s H locs → Zok z → InR y0 → lv_has ls 3 [] → W p l e R s m args below meth c H locs 0 0 (MQ below (YQi D cA ad RR.1 RR.2) args s 0 0 (ZA ad)) (F0 m 36 ls [.int (i32 (y0))]) := by
  intro z y0 H locs ls hF hw hzz hy0 hl
  unfold X0_isGoodOn_b36 at hF
  obtain ⟨b1_, hF⟩ := Zgs hF
  exact Yiretz S hw hzz hy0 hr hlk b1_ hF dX0_isGoodOn_36
set_option maxRecDepth 100000 in
set_option maxHeartbeats 4000000 in
theorem w_X0_isGoodOn_b35 {RR : Int × ZI} (S : CallFix p m c cX0_isGoodOn 3 s args Ztbl RX0) (hr : meth.sig.returnType = some .boolean) (hlk : meth.locks = false) (hR : 0 ≤ R.frames ∧ 60 * (0) ≤ R.locals) (hdj : Zdj ad) : ∀ (z : ZI) (H : Heap) (locs : List Loc) (ls : Array Slot), X0_isGoodOn_b35 z  = some RR → ZW D cA ad (ZA ad) (Zc z) s H locs → Zok z → lv_has ls 3 [] → W p l e R s m args below meth c H locs 0 0 (MQ below (YQi D cA ad RR.1 RR.2) args s 0 0 (ZA ad)) (F0 m 35 ls []) := by
  intro z  H locs ls hF hw hzz  hl
  unfold X0_isGoodOn_b35 at hF
  refine lv_iconst (v := i32 0) S.1 S.2.1 dX0_isGoodOn_35 ic_0 ?_
  exact w_X0_isGoodOn_b36 S hr hlk hR hdj _ _ _ _ _ hF hw hzz r_0 (lv_sub hl [] rfl)
set_option maxRecDepth 100000 in
set_option maxHeartbeats 4000000 in
theorem w_X0_isGoodOn_b31 {RR : Int × ZI} (S : CallFix p m c cX0_isGoodOn 3 s args Ztbl RX0) (hr : meth.sig.returnType = some .boolean) (hlk : meth.locks = false) (hR : 0 ≤ R.frames ∧ 60 * (0) ≤ R.locals) (hdj : Zdj ad) : ∀ (z : ZI) (H : Heap) (locs : List Loc) (ls : Array Slot), X0_isGoodOn_b31 z  = some RR → ZW D cA ad (ZA ad) (Zc z) s H locs → Zok z → lv_has ls 3 [] → W p l e R s m args below meth c H locs 0 0 (MQ below (YQi D cA ad RR.1 RR.2) args s 0 0 (ZA ad)) (F0 m 31 ls []) := by
  intro z  H locs ls hF hw hzz  hl
  unfold X0_isGoodOn_b31 at hF
  refine lv_iconst (v := i32 1) S.1 S.2.1 dX0_isGoodOn_31 ic_1 ?_
  refine lv_goto (tgt := 36) S.1 S.2.1 dX0_isGoodOn_32 (by decide) ?_
  exact w_X0_isGoodOn_b36 S hr hlk hR hdj _ _ _ _ _ hF hw hzz r_1 (lv_sub hl [] rfl)
set_option maxRecDepth 100000 in
set_option maxHeartbeats 4000000 in
theorem c_X0_isGoodOn {l : Launch} {D : va_G} {cA : Nat → ClassId} {ad : Nat → Nat} (hdj : Zdj ad) {z z1 : ZI} {x1 : Int} {x2 : Int} {r : Int} (hzz : Zok z) (hx1 : InR x1) (hx2 : InR x2) (hF : F_X0_isGoodOn z x1 x2 = some (r, z1)) : YMi l D cA ad (0) yX0_isGoodOn cX0_isGoodOn 3 (some .boolean) [.ref (ad 33), .int (i32 x1), .int (i32 x2)] z r z1 :=
  Zmet hdj (by decide) rfl (Nat.le_of_ble_eq_true rfl) (lv := [(0, .ref (ad 33)), (1, .int (i32 (x1))), (2, .int (i32 (x2)))]) rfl (fun p e s m args below meth c ls S hr hlk hw hl => by
    have hR : 0 ≤ (Zrm (0)).frames ∧ 60 * (0) ≤ (Zrm (0)).locals := ⟨Nat.le_refl _, Nat.le_refl _⟩
    unfold F_X0_isGoodOn at hF
    revert hR
    generalize Zrm (0) = R
    intro hR
    refine lv_iload_n S.1 S.2.1 dX0_isGoodOn_0 rfl (lv_at hl 2 rfl) ?_
    refine lv_aload_n S.1 S.2.1 dX0_isGoodOn_1 rfl (lv_at hl 0 rfl) ?_
    refine gf_X0_15 S hw dX0_isGoodOn_2 ?_
    refine lv_iload_n S.1 S.2.1 dX0_isGoodOn_5 rfl (lv_at hl 1 rfl) ?_
    obtain ⟨b1_, hF⟩ := Zgs hF
    refine Yiald S hw zd_35 (by decide) hx1 b1_ dX0_isGoodOn_6 ?_
    refine Yicmp_lt (tgt := 35) S hx2 (hzz.1 _ _ (by decide)) dX0_isGoodOn_7 (by decide) (fun c2_ => ?_) (fun c2_ => ?_)
    · replace hF := ZtP c2_ hF
      exact w_X0_isGoodOn_b35 S hr hlk hR hdj _ _ _ _ hF hw hzz  (lv_sub hl [] rfl)
    · replace hF := ZtN c2_ hF
      refine lv_aload_n S.1 S.2.1 dX0_isGoodOn_10 rfl (lv_at hl 0 rfl) ?_
      refine gf_X0_18 S hw dX0_isGoodOn_11 ?_
      refine lv_iload_n S.1 S.2.1 dX0_isGoodOn_14 rfl (lv_at hl 1 rfl) ?_
      obtain ⟨b3_, hF⟩ := Zgs hF
      refine Yiald S hw zd_36 (by decide) hx1 b3_ dX0_isGoodOn_15 ?_
      refine lv_bipush (v := i32 (-9)) S.1 S.2.1 dX0_isGoodOn_16 bp_m9 ?_
      refine Yicmp_eq (tgt := 31) S (hzz.1 _ _ (by decide)) r_m9 dX0_isGoodOn_18 (by decide) (fun c4_ => ?_) (fun c4_ => ?_)
      · replace hF := ZtP c4_ hF
        exact w_X0_isGoodOn_b31 S hr hlk hR hdj _ _ _ _ hF hw hzz  (lv_sub hl [] rfl)
      · replace hF := ZtN c4_ hF
        refine lv_iload_n S.1 S.2.1 dX0_isGoodOn_21 rfl (lv_at hl 2 rfl) ?_
        refine lv_aload_n S.1 S.2.1 dX0_isGoodOn_22 rfl (lv_at hl 0 rfl) ?_
        refine gf_X0_18 S hw dX0_isGoodOn_23 ?_
        refine lv_iload_n S.1 S.2.1 dX0_isGoodOn_26 rfl (lv_at hl 1 rfl) ?_
        obtain ⟨b5_, hF⟩ := Zgs hF
        refine Yiald S hw zd_36 (by decide) hx1 b5_ dX0_isGoodOn_27 ?_
        refine Yicmp_ge (tgt := 35) S hx2 (hzz.1 _ _ (by decide)) dX0_isGoodOn_28 (by decide) (fun c6_ => ?_) (fun c6_ => ?_)
        · replace hF := ZtP c6_ hF
          exact w_X0_isGoodOn_b35 S hr hlk hR hdj _ _ _ _ hF hw hzz  (lv_sub hl [] rfl)
        · replace hF := ZtN c6_ hF
          exact w_X0_isGoodOn_b31 S hr hlk hR hdj _ _ _ _ hF hw hzz  (lv_sub hl [] rfl))
set_option maxRecDepth 100000 in
set_option maxHeartbeats 4000000 in
theorem c_X0_madeOn {l : Launch} {D : va_G} {cA : Nat → ClassId} {ad : Nat → Nat} (hdj : Zdj ad) {z z1 : ZI} {x1 : Int} {r : Int} (hzz : Zok z) (hx1 : InR x1) (hF : F_X0_madeOn z x1 = some (r, z1)) : YMi l D cA ad (0) yX0_madeOn cX0_madeOn 2 (some .int) [.ref (ad 33), .int (i32 x1)] z r z1 :=
  Zmet hdj (by decide) rfl (Nat.le_of_ble_eq_true rfl) (lv := [(0, .ref (ad 33)), (1, .int (i32 (x1)))]) rfl (fun p e s m args below meth c ls S hr hlk hw hl => by
    have hR : 0 ≤ (Zrm (0)).frames ∧ 60 * (0) ≤ (Zrm (0)).locals := ⟨Nat.le_refl _, Nat.le_refl _⟩
    unfold F_X0_madeOn at hF
    revert hR
    generalize Zrm (0) = R
    intro hR
    refine lv_aload_n S.1 S.2.1 dX0_madeOn_0 rfl (lv_at hl 0 rfl) ?_
    refine gf_X0_15 S hw dX0_madeOn_1 ?_
    refine lv_iload_n S.1 S.2.1 dX0_madeOn_4 rfl (lv_at hl 1 rfl) ?_
    obtain ⟨b1_, hF⟩ := Zgs hF
    refine Yiald S hw zd_35 (by decide) hx1 b1_ dX0_madeOn_5 ?_
    exact Yireti S hw hzz (hzz.1 _ _ (by decide)) hr hlk hF dX0_madeOn_6)
set_option maxRecDepth 100000 in
set_option maxHeartbeats 4000000 in
theorem c_X0_make {l : Launch} {D : va_G} {cA : Nat → ClassId} {ad : Nat → Nat} (hdj : Zdj ad) {z z1 : ZI} {x1 : Int} {x2 : Int} {r : Int} (hzz : Zok z) (hx1 : InR x1) (hx2 : InR x2) (hF : F_X0_make z x1 x2 = some (r, z1)) : YMi l D cA ad (0) yX0_make cX0_make 3 (some .int) [.ref (ad 33), .int (i32 x1), .int (i32 x2)] z r z1 :=
  Zmet hdj (by decide) rfl (Nat.le_of_ble_eq_true rfl) (lv := [(0, .ref (ad 33)), (1, .int (i32 (x1))), (2, .int (i32 (x2)))]) rfl (fun p e s m args below meth c ls S hr hlk hw hl => by
    have hR : 0 ≤ (Zrm (0)).frames ∧ 60 * (0) ≤ (Zrm (0)).locals := ⟨Nat.le_refl _, Nat.le_refl _⟩
    unfold F_X0_make at hF
    revert hR
    generalize Zrm (0) = R
    intro hR
    refine lv_aload_n S.1 S.2.1 dX0_make_0 rfl (lv_at hl 0 rfl) ?_
    refine gf_X0_9 S hw dX0_make_1 ?_
    refine lv_aload_n S.1 S.2.1 dX0_make_4 rfl (lv_at hl 0 rfl) ?_
    refine gg_X0_21 S hw dX0_make_5 ?_
    refine lv_iload_n S.1 S.2.1 dX0_make_8 rfl (lv_at hl 1 rfl) ?_
    obtain ⟨b1_, hF⟩ := Zgs hF
    refine Yiast S hw hzz zd_34 (by decide) (hzz.1 33 0 (by decide)) hx1 b1_ dX0_make_9 (fun z2_ H locs ez hzz2_ hw => ?_)
    replace hF := Zle ez hF; clear ez
    refine lv_aload_n S.1 S.2.1 dX0_make_10 rfl (lv_at hl 0 rfl) ?_
    refine gf_X0_15 S hw dX0_make_11 ?_
    refine lv_aload_n S.1 S.2.1 dX0_make_14 rfl (lv_at hl 0 rfl) ?_
    refine gg_X0_21 S hw dX0_make_15 ?_
    refine lv_iload_n S.1 S.2.1 dX0_make_18 rfl (lv_at hl 2 rfl) ?_
    obtain ⟨b3_, hF⟩ := Zgs hF
    refine Yiast S hw hzz2_ zd_35 (by decide) (hzz2_.1 33 0 (by decide)) hx2 b3_ dX0_make_19 (fun z4_ H locs ez hzz4_ hw => ?_)
    replace hF := Zle ez hF; clear ez
    refine lv_aload_n S.1 S.2.1 dX0_make_20 rfl (lv_at hl 0 rfl) ?_
    refine gf_X0_18 S hw dX0_make_21 ?_
    refine lv_aload_n S.1 S.2.1 dX0_make_24 rfl (lv_at hl 0 rfl) ?_
    refine gg_X0_21 S hw dX0_make_25 ?_
    refine lv_bipush (v := i32 (-9)) S.1 S.2.1 dX0_make_28 bp_m9 ?_
    obtain ⟨b5_, hF⟩ := Zgs hF
    refine Yiast S hw hzz4_ zd_36 (by decide) (hzz4_.1 33 0 (by decide)) r_m9 b5_ dX0_make_30 (fun z6_ H locs ez hzz6_ hw => ?_)
    replace hF := Zle ez hF; clear ez
    refine lv_aload_n S.1 S.2.1 dX0_make_31 rfl (lv_at hl 0 rfl) ?_
    refine lv_dup S.1 S.2.1 dX0_make_32 rfl ?_
    refine gg_X0_21 S hw dX0_make_33 ?_
    refine lv_dup_x1 S.1 S.2.1 dX0_make_36 rfl rfl ?_
    refine lv_iconst (v := i32 1) S.1 S.2.1 dX0_make_37 ic_1 ?_
    obtain ⟨g7_, hF⟩ := Zgs hF
    refine Yiadd S dX0_make_38 ?_
    refine pp_X0_21 S hw hzz6_ g7_ dX0_make_39 (fun z8_ H locs ez hzz8_ hw => ?_)
    replace hF := Zle ez hF; clear ez
    exact Yireti S hw hzz8_ (hzz6_.1 33 0 (by decide)) hr hlk hF dX0_make_42)
set_option maxRecDepth 100000 in
set_option maxHeartbeats 4000000 in
theorem w_X0_notEnded_b26 {RR : Int × ZI} (S : CallFix p m c cX0_notEnded 3 s args Ztbl RX0) (hr : meth.sig.returnType = some .int) (hlk : meth.locks = false) (hR : 0 ≤ R.frames ∧ 60 * (0) ≤ R.locals) (hdj : Zdj ad) {k4 : ZI → Int → Int → Option (Int × ZI)} (hk4 : ∀ (z : ZI) (x1 : Int) (x2 : Int) (H : Heap) (locs : List Loc) (ls : Array Slot), k4 z x1 x2 = some RR → ZW D cA ad (ZA ad) (Zc z) s H locs → Zok z → InR x1 → InR x2 → lv_has ls 3 [(0, .ref (ad 33)), (1, .int (i32 (x1))), (2, .int (i32 (x2)))] → W p l e R s m args below meth c H locs 0 0 (MQ below (YQi D cA ad RR.1 RR.2) args s 0 0 (ZA ad)) (F0 m 4 ls [])) : ∀ (z : ZI) (x1 : Int) (x2 : Int) (H : Heap) (locs : List Loc) (ls : Array Slot), X0_notEnded_b26 k4 z x1 x2 = some RR → ZW D cA ad (ZA ad) (Zc z) s H locs → Zok z → InR x1 → InR x2 → lv_has ls 3 [(0, .ref (ad 33)), (1, .int (i32 (x1))), (2, .int (i32 (x2)))] → W p l e R s m args below meth c H locs 0 0 (MQ below (YQi D cA ad RR.1 RR.2) args s 0 0 (ZA ad)) (F0 m 26 ls []) := by
  intro z x1 x2 H locs ls hF hw hzz hx1 hx2 hl
  unfold X0_notEnded_b26 at hF
  obtain ⟨g1_, hF⟩ := Zgs hF
  refine lv_iinc (v := i32 (x2 + 1)) (lv' := [(2, .int (i32 (x2 + 1))), (0, .ref (ad 33)), (1, .int (i32 (x1)))]) S.1 S.2.1 dX0_notEnded_26 hl (k := 2) rfl Yiinc (by decide) rfl (fun ls hl => ?_)
  refine lv_goto (tgt := 4) S.1 S.2.1 dX0_notEnded_29 (by decide) ?_
  exact hk4 _ _ _ _ _ _ hF hw hzz hx1 g1_ (lv_sub hl [1, 2, 0] rfl)
set_option maxRecDepth 100000 in
set_option maxHeartbeats 4000000 in
theorem w_X0_notEnded_L4 {RR : Int × ZI} (S : CallFix p m c cX0_notEnded 3 s args Ztbl RX0) (hr : meth.sig.returnType = some .int) (hlk : meth.locks = false) (hR : 0 ≤ R.frames ∧ 60 * (0) ≤ R.locals) (hdj : Zdj ad) : ∀ (n : Nat) (z : ZI) (x1 : Int) (x2 : Int) (H : Heap) (locs : List Loc) (ls : Array Slot), X0_notEnded_L4 n z x1 x2 = some RR → ZW D cA ad (ZA ad) (Zc z) s H locs → Zok z → InR x1 → InR x2 → lv_has ls 3 [(0, .ref (ad 33)), (1, .int (i32 (x1))), (2, .int (i32 (x2)))] → W p l e R s m args below meth c H locs 0 0 (MQ below (YQi D cA ad RR.1 RR.2) args s 0 0 (ZA ad)) (F0 m 4 ls []) := by
  intro n
  induction n with
  | zero => intro z x1 x2 H locs ls hF; exact nomatch hF
  | succ n hk4 =>
    intro z x1 x2 H locs ls hF hw hzz hx1 hx2 hl
    replace hF : X0_notEnded_L4b (X0_notEnded_L4 n) z x1 x2 = some RR := hF
    unfold X0_notEnded_L4b at hF
    refine lv_iload_n S.1 S.2.1 dX0_notEnded_4 rfl (lv_at hl 2 rfl) ?_
    refine lv_aload_n S.1 S.2.1 dX0_notEnded_5 rfl (lv_at hl 0 rfl) ?_
    refine gg_X0_21 S hw dX0_notEnded_6 ?_
    refine Yicmp_ge (tgt := 32) S hx2 (hzz.1 33 0 (by decide)) dX0_notEnded_9 (by decide) (fun c1_ => ?_) (fun c1_ => ?_)
    · replace hF := ZtP c1_ hF
      refine lv_iload_n S.1 S.2.1 dX0_notEnded_32 rfl (lv_at hl 1 rfl) ?_
      exact Yireti S hw hzz hx1 hr hlk hF dX0_notEnded_33
    · replace hF := ZtN c1_ hF
      refine lv_aload_n S.1 S.2.1 dX0_notEnded_12 rfl (lv_at hl 0 rfl) ?_
      refine gf_X0_18 S hw dX0_notEnded_13 ?_
      refine lv_iload_n S.1 S.2.1 dX0_notEnded_16 rfl (lv_at hl 2 rfl) ?_
      obtain ⟨b2_, hF⟩ := Zgs hF
      refine Yiald S hw zd_36 (by decide) hx2 b2_ dX0_notEnded_17 ?_
      refine lv_bipush (v := i32 (-9)) S.1 S.2.1 dX0_notEnded_18 bp_m9 ?_
      refine Yicmp_ne (tgt := 26) S (hzz.1 _ _ (by decide)) r_m9 dX0_notEnded_20 (by decide) (fun c3_ => ?_) (fun c3_ => ?_)
      · replace hF := ZtN c3_ hF
        exact w_X0_notEnded_b26 S hr hlk hR hdj hk4 _ _ _ _ _ _ hF hw hzz hx1 hx2 (lv_sub hl [0, 1, 2] rfl)
      · replace hF := ZtP c3_ hF
        obtain ⟨g4_, hF⟩ := Zgs hF
        refine lv_iinc (v := i32 (x1 + 1)) (lv' := [(1, .int (i32 (x1 + 1))), (0, .ref (ad 33)), (2, .int (i32 (x2)))]) S.1 S.2.1 dX0_notEnded_23 hl (k := 1) rfl Yiinc (by decide) rfl (fun ls hl => ?_)
        exact w_X0_notEnded_b26 S hr hlk hR hdj hk4 _ _ _ _ _ _ hF hw hzz g4_ hx2 (lv_sub hl [1, 0, 2] rfl)
set_option maxRecDepth 100000 in
set_option maxHeartbeats 4000000 in
theorem c_X0_notEnded {l : Launch} {D : va_G} {cA : Nat → ClassId} {ad : Nat → Nat} (hdj : Zdj ad) {z z1 : ZI} {r : Int} (hzz : Zok z) (hF : F_X0_notEnded z  = some (r, z1)) : YMi l D cA ad (0) yX0_notEnded cX0_notEnded 3 (some .int) [.ref (ad 33)] z r z1 :=
  Zmet hdj (by decide) rfl (Nat.le_of_ble_eq_true rfl) (lv := [(0, .ref (ad 33))]) rfl (fun p e s m args below meth c ls S hr hlk hw hl => by
    have hR : 0 ≤ (Zrm (0)).frames ∧ 60 * (0) ≤ (Zrm (0)).locals := ⟨Nat.le_refl _, Nat.le_refl _⟩
    unfold F_X0_notEnded at hF
    revert hR
    generalize Zrm (0) = R
    intro hR
    refine lv_iconst (v := i32 0) S.1 S.2.1 dX0_notEnded_0 ic_0 ?_
    refine lv_istore_n (lv' := [(1, .int (i32 (0))), (0, .ref (ad 33))]) S.1 S.2.1 dX0_notEnded_1 rfl hl (by decide) rfl (fun ls hl => ?_)
    refine lv_iconst (v := i32 0) S.1 S.2.1 dX0_notEnded_2 ic_0 ?_
    refine lv_istore_n (lv' := [(2, .int (i32 (0))), (1, .int (i32 (0))), (0, .ref (ad 33))]) S.1 S.2.1 dX0_notEnded_3 rfl hl (by decide) rfl (fun ls hl => ?_)
    exact w_X0_notEnded_L4 S hr hlk hR hdj Zfuel _ _ _ _ _ _ hF hw hzz r_0 r_0 (lv_sub hl [2, 1, 0] rfl))
set_option maxRecDepth 100000 in
set_option maxHeartbeats 4000000 in
theorem w_X10_checkTwoCards_b27 {RR : Int × ZI} (S : CallFix p m c cX10_checkTwoCards 3 s args Ztbl RX10) (hr : meth.sig.returnType = some .int) (hlk : meth.locks = false) (hR : 1 ≤ R.frames ∧ 60 * (1) ≤ R.locals) (hdj : Zdj ad) : ∀ (z : ZI) (H : Heap) (locs : List Loc) (ls : Array Slot), X10_checkTwoCards_b27 z  = some RR → ZW D cA ad (ZA ad) (Zc z) s H locs → Zok z → lv_has ls 3 [] → W p l e R s m args below meth c H locs 0 0 (MQ below (YQi D cA ad RR.1 RR.2) args s 0 0 (ZA ad)) (F0 m 27 ls []) := by
  intro z  H locs ls hF hw hzz  hl
  unfold X10_checkTwoCards_b27 at hF
  refine lv_iconst (v := i32 (-1)) S.1 S.2.1 dX10_checkTwoCards_27 ic_m1 ?_
  exact Yireti S hw hzz r_m1 hr hlk hF dX10_checkTwoCards_28
set_option maxRecDepth 100000 in
set_option maxHeartbeats 4000000 in
theorem w_X10_checkTwoCards_b57 {RR : Int × ZI} (S : CallFix p m c cX10_checkTwoCards 3 s args Ztbl RX10) (hr : meth.sig.returnType = some .int) (hlk : meth.locks = false) (hR : 1 ≤ R.frames ∧ 60 * (1) ≤ R.locals) (hdj : Zdj ad) : ∀ (z : ZI) (y0 : Int) (H : Heap) (locs : List Loc) (ls : Array Slot), X10_checkTwoCards_b57 z y0 = some RR → ZW D cA ad (ZA ad) (Zc z) s H locs → Zok z → InR y0 → lv_has ls 3 [] → W p l e R s m args below meth c H locs 0 0 (MQ below (YQi D cA ad RR.1 RR.2) args s 0 0 (ZA ad)) (F0 m 57 ls [.int (i32 (y0))]) := by
  intro z y0 H locs ls hF hw hzz hy0 hl
  unfold X10_checkTwoCards_b57 at hF
  exact Yireti S hw hzz hy0 hr hlk hF dX10_checkTwoCards_57
set_option maxRecDepth 100000 in
set_option maxHeartbeats 4000000 in
theorem w_X10_checkTwoCards_b51 {RR : Int × ZI} (S : CallFix p m c cX10_checkTwoCards 3 s args Ztbl RX10) (hr : meth.sig.returnType = some .int) (hlk : meth.locks = false) (hR : 1 ≤ R.frames ∧ 60 * (1) ≤ R.locals) (hdj : Zdj ad) : ∀ (z : ZI) (H : Heap) (locs : List Loc) (ls : Array Slot), X10_checkTwoCards_b51 z  = some RR → ZW D cA ad (ZA ad) (Zc z) s H locs → Zok z → lv_has ls 3 [] → W p l e R s m args below meth c H locs 0 0 (MQ below (YQi D cA ad RR.1 RR.2) args s 0 0 (ZA ad)) (F0 m 51 ls []) := by
  intro z  H locs ls hF hw hzz  hl
  unfold X10_checkTwoCards_b51 at hF
  refine lv_bipush (v := i32 (-3)) S.1 S.2.1 dX10_checkTwoCards_51 bp_m3 ?_
  refine lv_goto (tgt := 57) S.1 S.2.1 dX10_checkTwoCards_53 (by decide) ?_
  exact w_X10_checkTwoCards_b57 S hr hlk hR hdj _ _ _ _ _ hF hw hzz r_m3 (lv_sub hl [] rfl)
set_option maxRecDepth 100000 in
set_option maxHeartbeats 4000000 in
theorem c_X10_checkTwoCards {l : Launch} {D : va_G} {cA : Nat → ClassId} {ad : Nat → Nat} (hdj : Zdj ad) {z z1 : ZI} {x1 : Int} {x2 : Int} {r : Int} (hzz : Zok z) (hx1 : InR x1) (hx2 : InR x2) (hF : F_X10_checkTwoCards z x1 x2 = some (r, z1)) : YMi l D cA ad (1) yX10_checkTwoCards cX10_checkTwoCards 3 (some .int) [.ref (ad 0), .int (i32 x1), .int (i32 x2)] z r z1 :=
  Zmet hdj (by decide) rfl (Nat.le_of_ble_eq_true rfl) (lv := [(0, .ref (ad 0)), (1, .int (i32 (x1))), (2, .int (i32 (x2)))]) rfl (fun p e s m args below meth c ls S hr hlk hw hl => by
    have hR : 1 ≤ (Zrm (1)).frames ∧ 60 * (1) ≤ (Zrm (1)).locals := ⟨Nat.le_refl _, Nat.le_refl _⟩
    unfold F_X10_checkTwoCards at hF
    revert hR
    generalize Zrm (1) = R
    intro hR
    refine lv_aload_n S.1 S.2.1 dX10_checkTwoCards_0 rfl (lv_at hl 0 rfl) ?_
    refine gf_X10_41 S hw dX10_checkTwoCards_1 ?_
    refine lv_iload_n S.1 S.2.1 dX10_checkTwoCards_4 rfl (lv_at hl 1 rfl) ?_
    obtain ⟨r3_, z1_, h2_, hF⟩ := Ybs hF
    refine YcallVi (rest := []) S hw (c_X0_has hdj hzz hx1 h2_) my_X0_has mi_X0_has ml_X10_160 zd_33 zc_X0 rfl (Zrr hR (by decide)) ⟨Nat.zero_le _, Nat.zero_le _⟩ hl.1 rfl rfl (Nat.le_of_ble_eq_true rfl) dX10_checkTwoCards_5 (fun hrr3_ hzz1_ H locs hw => ?_)
    refine Yif_eq (tgt := 27) S hrr3_ dX10_checkTwoCards_8 (by decide) (fun c4_ => ?_) (fun c4_ => ?_)
    · replace hF := ZtP c4_ hF
      exact w_X10_checkTwoCards_b27 S hr hlk hR hdj _ _ _ _ hF hw hzz1_  (lv_sub hl [] rfl)
    · replace hF := ZtN c4_ hF
      refine lv_aload_n S.1 S.2.1 dX10_checkTwoCards_11 rfl (lv_at hl 0 rfl) ?_
      refine gf_X10_41 S hw dX10_checkTwoCards_12 ?_
      refine lv_iload_n S.1 S.2.1 dX10_checkTwoCards_15 rfl (lv_at hl 2 rfl) ?_
      obtain ⟨r7_, z5_, h6_, hF⟩ := Ybs hF
      refine YcallVi (rest := []) S hw (c_X0_has hdj hzz1_ hx2 h6_) my_X0_has mi_X0_has ml_X10_160 zd_33 zc_X0 rfl (Zrr hR (by decide)) ⟨Nat.zero_le _, Nat.zero_le _⟩ hl.1 rfl rfl (Nat.le_of_ble_eq_true rfl) dX10_checkTwoCards_16 (fun hrr7_ hzz5_ H locs hw => ?_)
      refine Yif_eq (tgt := 27) S hrr7_ dX10_checkTwoCards_19 (by decide) (fun c8_ => ?_) (fun c8_ => ?_)
      · replace hF := ZtP c8_ hF
        exact w_X10_checkTwoCards_b27 S hr hlk hR hdj _ _ _ _ hF hw hzz5_  (lv_sub hl [] rfl)
      · replace hF := ZtN c8_ hF
        refine lv_iload_n S.1 S.2.1 dX10_checkTwoCards_22 rfl (lv_at hl 1 rfl) ?_
        refine lv_iload_n S.1 S.2.1 dX10_checkTwoCards_23 rfl (lv_at hl 2 rfl) ?_
        refine Yicmp_ne (tgt := 29) S hx1 hx2 dX10_checkTwoCards_24 (by decide) (fun c9_ => ?_) (fun c9_ => ?_)
        · replace hF := ZtN c9_ hF
          refine lv_aload_n S.1 S.2.1 dX10_checkTwoCards_29 rfl (lv_at hl 0 rfl) ?_
          refine gf_X10_41 S hw dX10_checkTwoCards_30 ?_
          refine lv_iload_n S.1 S.2.1 dX10_checkTwoCards_33 rfl (lv_at hl 1 rfl) ?_
          obtain ⟨r12_, z10_, h11_, hF⟩ := Ybs hF
          refine YcallVi (rest := []) S hw (c_X0_isEnded hdj hzz5_ hx1 h11_) my_X0_isEnded mi_X0_isEnded ml_X10_163 zd_33 zc_X0 rfl (Zrr hR (by decide)) ⟨Nat.zero_le _, Nat.zero_le _⟩ hl.1 rfl rfl (Nat.le_of_ble_eq_true rfl) dX10_checkTwoCards_34 (fun hrr12_ hzz10_ H locs hw => ?_)
          refine Yif_ne (tgt := 51) S hrr12_ dX10_checkTwoCards_37 (by decide) (fun c13_ => ?_) (fun c13_ => ?_)
          · replace hF := ZtN c13_ hF
            exact w_X10_checkTwoCards_b51 S hr hlk hR hdj _ _ _ _ hF hw hzz10_  (lv_sub hl [] rfl)
          · replace hF := ZtP c13_ hF
            refine lv_aload_n S.1 S.2.1 dX10_checkTwoCards_40 rfl (lv_at hl 0 rfl) ?_
            refine gf_X10_41 S hw dX10_checkTwoCards_41 ?_
            refine lv_iload_n S.1 S.2.1 dX10_checkTwoCards_44 rfl (lv_at hl 2 rfl) ?_
            obtain ⟨r16_, z14_, h15_, hF⟩ := Ybs hF
            refine YcallVi (rest := []) S hw (c_X0_isEnded hdj hzz10_ hx2 h15_) my_X0_isEnded mi_X0_isEnded ml_X10_163 zd_33 zc_X0 rfl (Zrr hR (by decide)) ⟨Nat.zero_le _, Nat.zero_le _⟩ hl.1 rfl rfl (Nat.le_of_ble_eq_true rfl) dX10_checkTwoCards_45 (fun hrr16_ hzz14_ H locs hw => ?_)
            refine Yif_eq (tgt := 56) S hrr16_ dX10_checkTwoCards_48 (by decide) (fun c17_ => ?_) (fun c17_ => ?_)
            · replace hF := ZtP c17_ hF
              refine lv_iconst (v := i32 0) S.1 S.2.1 dX10_checkTwoCards_56 ic_0 ?_
              exact w_X10_checkTwoCards_b57 S hr hlk hR hdj _ _ _ _ _ hF hw hzz14_ r_0 (lv_sub hl [] rfl)
            · replace hF := ZtN c17_ hF
              exact w_X10_checkTwoCards_b51 S hr hlk hR hdj _ _ _ _ hF hw hzz14_  (lv_sub hl [] rfl)
        · replace hF := ZtP c9_ hF
          exact w_X10_checkTwoCards_b27 S hr hlk hR hdj _ _ _ _ hF hw hzz5_  (lv_sub hl [] rfl))
set_option maxRecDepth 100000 in
set_option maxHeartbeats 4000000 in
theorem w_X10_refuse_b26 {RR : Int × ZI} (S : CallFix p m c cX10_refuse 3 s args Ztbl RX10) (hr : meth.sig.returnType = some .int) (hlk : meth.locks = false) (hR : 0 ≤ R.frames ∧ 60 * (0) ≤ R.locals) (hdj : Zdj ad) : ∀ (z : ZI) (x1 : Int) (H : Heap) (locs : List Loc) (ls : Array Slot), X10_refuse_b26 z x1 = some RR → ZW D cA ad (ZA ad) (Zc z) s H locs → Zok z → InR x1 → lv_has ls 3 [(1, .int (i32 (x1)))] → W p l e R s m args below meth c H locs 0 0 (MQ below (YQi D cA ad RR.1 RR.2) args s 0 0 (ZA ad)) (F0 m 26 ls []) := by
  intro z x1 H locs ls hF hw hzz hx1 hl
  unfold X10_refuse_b26 at hF
  refine lv_iload_n S.1 S.2.1 dX10_refuse_26 rfl (lv_at hl 0 rfl) ?_
  exact Yireti S hw hzz hx1 hr hlk hF dX10_refuse_27
set_option maxRecDepth 100000 in
set_option maxHeartbeats 4000000 in
theorem c_X10_refuse {l : Launch} {D : va_G} {cA : Nat → ClassId} {ad : Nat → Nat} (hdj : Zdj ad) {z z1 : ZI} {x1 : Int} {r : Int} (hzz : Zok z) (hx1 : InR x1) (hF : F_X10_refuse z x1 = some (r, z1)) : YMi l D cA ad (0) yX10_refuse cX10_refuse 3 (some .int) [.ref (ad 0), .int (i32 x1)] z r z1 :=
  Zmet hdj (by decide) rfl (Nat.le_of_ble_eq_true rfl) (lv := [(0, .ref (ad 0)), (1, .int (i32 (x1)))]) rfl (fun p e s m args below meth c ls S hr hlk hw hl => by
    have hR : 0 ≤ (Zrm (0)).frames ∧ 60 * (0) ≤ (Zrm (0)).locals := ⟨Nat.le_refl _, Nat.le_refl _⟩
    unfold F_X10_refuse at hF
    revert hR
    generalize Zrm (0) = R
    intro hR
    refine lv_iload_n S.1 S.2.1 dX10_refuse_0 rfl (lv_at hl 1 rfl) ?_
    obtain ⟨g1_, hF⟩ := Zgs hF
    refine Yineg S dX10_refuse_1 ?_
    refine lv_istore_n (lv' := [(2, .int (i32 (-x1))), (0, .ref (ad 0)), (1, .int (i32 (x1)))]) S.1 S.2.1 dX10_refuse_2 rfl hl (by decide) rfl (fun ls hl => ?_)
    refine lv_iload_n S.1 S.2.1 dX10_refuse_3 rfl (lv_at hl 0 rfl) ?_
    refine Yif_le (tgt := 26) S g1_ dX10_refuse_4 (by decide) (fun c2_ => ?_) (fun c2_ => ?_)
    · replace hF := ZtP c2_ hF
      exact w_X10_refuse_b26 S hr hlk hR hdj _ _ _ _ _ hF hw hzz hx1 (lv_sub hl [2] rfl)
    · replace hF := ZtN c2_ hF
      refine lv_iload_n S.1 S.2.1 dX10_refuse_7 rfl (lv_at hl 0 rfl) ?_
      refine lv_aload_n S.1 S.2.1 dX10_refuse_8 rfl (lv_at hl 1 rfl) ?_
      refine gf_X10_13 S hw dX10_refuse_9 ?_
      refine Yalen S hw zd_1 dX10_refuse_12 ?_
      refine Yicmp_ge (tgt := 26) S g1_ r_7 dX10_refuse_13 (by decide) (fun c3_ => ?_) (fun c3_ => ?_)
      · replace hF := ZtP c3_ hF
        exact w_X10_refuse_b26 S hr hlk hR hdj _ _ _ _ _ hF hw hzz hx1 (lv_sub hl [2] rfl)
      · replace hF := ZtN c3_ hF
        refine lv_aload_n S.1 S.2.1 dX10_refuse_16 rfl (lv_at hl 1 rfl) ?_
        refine gf_X10_13 S hw dX10_refuse_17 ?_
        refine lv_iload_n S.1 S.2.1 dX10_refuse_20 rfl (lv_at hl 0 rfl) ?_
        refine lv_dup2_11 S.1 S.2.1 dX10_refuse_21 rfl rfl ?_
        obtain ⟨b4_, hF⟩ := Zgs hF
        refine Yiald S hw zd_1 (by decide) g1_ b4_ dX10_refuse_22 ?_
        refine lv_iconst (v := i32 1) S.1 S.2.1 dX10_refuse_23 ic_1 ?_
        obtain ⟨g5_, hF⟩ := Zgs hF
        refine Yiadd S dX10_refuse_24 ?_
        obtain ⟨b6_, hF⟩ := Zgs hF
        refine Yiast S hw hzz zd_1 (by decide) g1_ g5_ b6_ dX10_refuse_25 (fun z7_ H locs ez hzz7_ hw => ?_)
        replace hF := Zle ez hF; clear ez
        exact w_X10_refuse_b26 S hr hlk hR hdj _ _ _ _ _ hF hw hzz7_ hx1 (lv_sub hl [2] rfl))
set_option maxRecDepth 100000 in
set_option maxHeartbeats 4000000 in
theorem w_X3_stateOn_b65 {RR : Int × ZI} (S : CallFix p m c cX3_stateOn 5 s args Ztbl RX3) (hr : meth.sig.returnType = some .int) (hlk : meth.locks = false) (hR : 0 ≤ R.frames ∧ 60 * (0) ≤ R.locals) (hdj : Zdj ad) : ∀ (z : ZI) (H : Heap) (locs : List Loc) (ls : Array Slot), X3_stateOn_b65 z  = some RR → ZW D cA ad (ZA ad) (Zc z) s H locs → Zok z → lv_has ls 5 [] → W p l e R s m args below meth c H locs 0 0 (MQ below (YQi D cA ad RR.1 RR.2) args s 0 0 (ZA ad)) (F0 m 65 ls []) := by
  intro z  H locs ls hF hw hzz  hl
  unfold X3_stateOn_b65 at hF
  refine lv_iconst (v := i32 0) S.1 S.2.1 dX3_stateOn_65 ic_0 ?_
  exact Yireti S hw hzz r_0 hr hlk hF dX3_stateOn_66
set_option maxRecDepth 100000 in
set_option maxHeartbeats 4000000 in
theorem w_X3_stateOn_L23 {RR : Int × ZI} (S : CallFix p m c cX3_stateOn 5 s args Ztbl RX3) (hr : meth.sig.returnType = some .int) (hlk : meth.locks = false) (hR : 0 ≤ R.frames ∧ 60 * (0) ≤ R.locals) (hdj : Zdj ad) : ∀ (n : Nat) (z : ZI) (x2 : Int) (x3 : Int) (x4 : Int) (H : Heap) (locs : List Loc) (ls : Array Slot), X3_stateOn_L23 n z x2 x3 x4 = some RR → ZW D cA ad (ZA ad) (Zc z) s H locs → Zok z → InR x2 → InR x3 → InR x4 → lv_has ls 5 [(0, .ref (ad 11)), (2, .int (i32 (x2))), (3, .int (i32 (x3))), (4, .int (i32 (x4)))] → W p l e R s m args below meth c H locs 0 0 (MQ below (YQi D cA ad RR.1 RR.2) args s 0 0 (ZA ad)) (F0 m 23 ls []) := by
  intro n
  induction n with
  | zero => intro z x2 x3 x4 H locs ls hF; exact nomatch hF
  | succ n hk23 =>
    intro z x2 x3 x4 H locs ls hF hw hzz hx2 hx3 hx4 hl
    replace hF : X3_stateOn_L23b (X3_stateOn_L23 n) z x2 x3 x4 = some RR := hF
    unfold X3_stateOn_L23b at hF
    refine lv_iload S.1 S.2.1 dX3_stateOn_23 (lv_at hl 3 rfl) ?_
    refine lv_sipush (v := i32 150) S.1 S.2.1 dX3_stateOn_25 sp_150 ?_
    refine Yicmp_ge (tgt := 65) S hx4 r_150 dX3_stateOn_28 (by decide) (fun c1_ => ?_) (fun c1_ => ?_)
    · replace hF := ZtP c1_ hF
      exact w_X3_stateOn_b65 S hr hlk hR hdj _ _ _ _ hF hw hzz  (lv_sub hl [] rfl)
    · replace hF := ZtN c1_ hF
      refine lv_iload_n S.1 S.2.1 dX3_stateOn_31 rfl (lv_at hl 2 rfl) ?_
      refine Yif_lt (tgt := 65) S hx3 dX3_stateOn_32 (by decide) (fun c2_ => ?_) (fun c2_ => ?_)
      · replace hF := ZtP c2_ hF
        exact w_X3_stateOn_b65 S hr hlk hR hdj _ _ _ _ hF hw hzz  (lv_sub hl [] rfl)
      · replace hF := ZtN c2_ hF
        refine lv_aload_n S.1 S.2.1 dX3_stateOn_35 rfl (lv_at hl 0 rfl) ?_
        refine gf_X3_42 S hw dX3_stateOn_36 ?_
        refine lv_iload_n S.1 S.2.1 dX3_stateOn_39 rfl (lv_at hl 2 rfl) ?_
        obtain ⟨b3_, hF⟩ := Zgs hF
        refine Yiald S hw zd_20 (by decide) hx3 b3_ dX3_stateOn_40 ?_
        refine lv_iload_n S.1 S.2.1 dX3_stateOn_41 rfl (lv_at hl 1 rfl) ?_
        refine Yicmp_gt (tgt := 52) S (hzz.1 _ _ (by decide)) hx2 dX3_stateOn_42 (by decide) (fun c4_ => ?_) (fun c4_ => ?_)
        · replace hF := ZtP c4_ hF
          refine lv_aload_n S.1 S.2.1 dX3_stateOn_52 rfl (lv_at hl 0 rfl) ?_
          refine gf_X3_48 S hw dX3_stateOn_53 ?_
          refine lv_iload_n S.1 S.2.1 dX3_stateOn_56 rfl (lv_at hl 2 rfl) ?_
          obtain ⟨b5_, hF⟩ := Zgs hF
          refine Yiald S hw zd_22 (by decide) hx3 b5_ dX3_stateOn_57 ?_
          refine lv_istore_n (lv' := [(3, .int (i32 (z 22 x3))), (0, .ref (ad 11)), (2, .int (i32 (x2))), (4, .int (i32 (x4)))]) S.1 S.2.1 dX3_stateOn_58 rfl hl (by decide) rfl (fun ls hl => ?_)
          obtain ⟨g6_, hF⟩ := Zgs hF
          refine lv_iinc (v := i32 (x4 + 1)) (lv' := [(4, .int (i32 (x4 + 1))), (3, .int (i32 (z 22 x3))), (0, .ref (ad 11)), (2, .int (i32 (x2)))]) S.1 S.2.1 dX3_stateOn_59 hl (k := 3) rfl Yiinc (by decide) rfl (fun ls hl => ?_)
          refine lv_goto (tgt := 23) S.1 S.2.1 dX3_stateOn_62 (by decide) ?_
          exact hk23 _ _ _ _ _ _ _ hF hw hzz hx2 (hzz.1 _ _ (by decide)) g6_ (lv_sub hl [2, 3, 1, 0] rfl)
        · replace hF := ZtN c4_ hF
          refine lv_aload_n S.1 S.2.1 dX3_stateOn_45 rfl (lv_at hl 0 rfl) ?_
          refine gf_X3_45 S hw dX3_stateOn_46 ?_
          refine lv_iload_n S.1 S.2.1 dX3_stateOn_49 rfl (lv_at hl 2 rfl) ?_
          obtain ⟨b7_, hF⟩ := Zgs hF
          refine Yiald S hw zd_21 (by decide) hx3 b7_ dX3_stateOn_50 ?_
          exact Yireti S hw hzz (hzz.1 _ _ (by decide)) hr hlk hF dX3_stateOn_51
set_option maxRecDepth 100000 in
set_option maxHeartbeats 4000000 in
theorem c_X3_stateOn {l : Launch} {D : va_G} {cA : Nat → ClassId} {ad : Nat → Nat} (hdj : Zdj ad) {z z1 : ZI} {x1 : Int} {x2 : Int} {r : Int} (hzz : Zok z) (hx1 : InR x1) (hx2 : InR x2) (hF : F_X3_stateOn z x1 x2 = some (r, z1)) : YMi l D cA ad (0) yX3_stateOn cX3_stateOn 5 (some .int) [.ref (ad 11), .int (i32 x1), .int (i32 x2)] z r z1 :=
  Zmet hdj (by decide) rfl (Nat.le_of_ble_eq_true rfl) (lv := [(0, .ref (ad 11)), (1, .int (i32 (x1))), (2, .int (i32 (x2)))]) rfl (fun p e s m args below meth c ls S hr hlk hw hl => by
    have hR : 0 ≤ (Zrm (0)).frames ∧ 60 * (0) ≤ (Zrm (0)).locals := ⟨Nat.le_refl _, Nat.le_refl _⟩
    unfold F_X3_stateOn at hF
    revert hR
    generalize Zrm (0) = R
    intro hR
    refine lv_iload_n S.1 S.2.1 dX3_stateOn_0 rfl (lv_at hl 2 rfl) ?_
    refine lv_aload_n S.1 S.2.1 dX3_stateOn_1 rfl (lv_at hl 0 rfl) ?_
    refine gf_X3_36 S hw dX3_stateOn_2 ?_
    refine lv_iload_n S.1 S.2.1 dX3_stateOn_5 rfl (lv_at hl 1 rfl) ?_
    obtain ⟨b1_, hF⟩ := Zgs hF
    refine Yiald S hw zd_18 (by decide) hx1 b1_ dX3_stateOn_6 ?_
    refine Yicmp_ge (tgt := 13) S hx2 (hzz.1 _ _ (by decide)) dX3_stateOn_7 (by decide) (fun c2_ => ?_) (fun c2_ => ?_)
    · replace hF := ZtP c2_ hF
      refine lv_aload_n S.1 S.2.1 dX3_stateOn_13 rfl (lv_at hl 0 rfl) ?_
      refine gf_X3_39 S hw dX3_stateOn_14 ?_
      refine lv_iload_n S.1 S.2.1 dX3_stateOn_17 rfl (lv_at hl 1 rfl) ?_
      obtain ⟨b3_, hF⟩ := Zgs hF
      refine Yiald S hw zd_19 (by decide) hx1 b3_ dX3_stateOn_18 ?_
      refine lv_istore_n (lv' := [(3, .int (i32 (z 19 x1))), (0, .ref (ad 11)), (1, .int (i32 (x1))), (2, .int (i32 (x2)))]) S.1 S.2.1 dX3_stateOn_19 rfl hl (by decide) rfl (fun ls hl => ?_)
      refine lv_iconst (v := i32 0) S.1 S.2.1 dX3_stateOn_20 ic_0 ?_
      refine lv_istore (lv' := [(4, .int (i32 (0))), (3, .int (i32 (z 19 x1))), (0, .ref (ad 11)), (1, .int (i32 (x1))), (2, .int (i32 (x2)))]) S.1 S.2.1 dX3_stateOn_21 hl (by decide) rfl (fun ls hl => ?_)
      exact w_X3_stateOn_L23 S hr hlk hR hdj Zfuel _ _ _ _ _ _ _ hF hw hzz hx2 (hzz.1 _ _ (by decide)) r_0 (lv_sub hl [2, 4, 1, 0] rfl)
    · replace hF := ZtN c2_ hF
      refine lv_bipush (v := i32 (-9)) S.1 S.2.1 dX3_stateOn_10 bp_m9 ?_
      exact Yireti S hw hzz r_m9 hr hlk hF dX3_stateOn_12)
set_option maxRecDepth 100000 in
set_option maxHeartbeats 4000000 in
theorem w_X3_isHere_b21 {RR : Int × ZI} (S : CallFix p m c cX3_isHere 4 s args Ztbl RX3) (hr : meth.sig.returnType = some .boolean) (hlk : meth.locks = false) (hR : 1 ≤ R.frames ∧ 60 * (1) ≤ R.locals) (hdj : Zdj ad) : ∀ (z : ZI) (y0 : Int) (H : Heap) (locs : List Loc) (ls : Array Slot), X3_isHere_b21 z y0 = some RR → ZW D cA ad (ZA ad) (Zc z) s H locs → Zok z → InR y0 → lv_has ls 4 [] → W p l e R s m args below meth c H locs 0 0 (MQ below (YQi D cA ad RR.1 RR.2) args s 0 0 (ZA ad)) (F0 m 21 ls [.int (i32 (y0))]) := by
  intro z y0 H locs ls hF hw hzz hy0 hl
  unfold X3_isHere_b21 at hF
  obtain ⟨b1_, hF⟩ := Zgs hF
  exact Yiretz S hw hzz hy0 hr hlk b1_ hF dX3_isHere_21
set_option maxRecDepth 100000 in
set_option maxHeartbeats 4000000 in
theorem w_X3_isHere_b16 {RR : Int × ZI} (S : CallFix p m c cX3_isHere 4 s args Ztbl RX3) (hr : meth.sig.returnType = some .boolean) (hlk : meth.locks = false) (hR : 1 ≤ R.frames ∧ 60 * (1) ≤ R.locals) (hdj : Zdj ad) : ∀ (z : ZI) (H : Heap) (locs : List Loc) (ls : Array Slot), X3_isHere_b16 z  = some RR → ZW D cA ad (ZA ad) (Zc z) s H locs → Zok z → lv_has ls 4 [] → W p l e R s m args below meth c H locs 0 0 (MQ below (YQi D cA ad RR.1 RR.2) args s 0 0 (ZA ad)) (F0 m 16 ls []) := by
  intro z  H locs ls hF hw hzz  hl
  unfold X3_isHere_b16 at hF
  refine lv_iconst (v := i32 1) S.1 S.2.1 dX3_isHere_16 ic_1 ?_
  refine lv_goto (tgt := 21) S.1 S.2.1 dX3_isHere_17 (by decide) ?_
  exact w_X3_isHere_b21 S hr hlk hR hdj _ _ _ _ _ hF hw hzz r_1 (lv_sub hl [] rfl)
set_option maxRecDepth 100000 in
set_option maxHeartbeats 4000000 in
theorem c_X3_isHere {l : Launch} {D : va_G} {cA : Nat → ClassId} {ad : Nat → Nat} (hdj : Zdj ad) {z z1 : ZI} {x1 : Int} {x2 : Int} {r : Int} (hzz : Zok z) (hx1 : InR x1) (hx2 : InR x2) (hF : F_X3_isHere z x1 x2 = some (r, z1)) : YMi l D cA ad (1) yX3_isHere cX3_isHere 4 (some .boolean) [.ref (ad 11), .int (i32 x1), .int (i32 x2)] z r z1 :=
  Zmet hdj (by decide) rfl (Nat.le_of_ble_eq_true rfl) (lv := [(0, .ref (ad 11)), (1, .int (i32 (x1))), (2, .int (i32 (x2)))]) rfl (fun p e s m args below meth c ls S hr hlk hw hl => by
    have hR : 1 ≤ (Zrm (1)).frames ∧ 60 * (1) ≤ (Zrm (1)).locals := ⟨Nat.le_refl _, Nat.le_refl _⟩
    unfold F_X3_isHere at hF
    revert hR
    generalize Zrm (1) = R
    intro hR
    refine lv_aload_n S.1 S.2.1 dX3_isHere_0 rfl (lv_at hl 0 rfl) ?_
    refine lv_iload_n S.1 S.2.1 dX3_isHere_1 rfl (lv_at hl 1 rfl) ?_
    refine lv_iload_n S.1 S.2.1 dX3_isHere_2 rfl (lv_at hl 2 rfl) ?_
    obtain ⟨r3_, z1_, h2_, hF⟩ := Ybs hF
    refine YcallVi (rest := []) S hw (c_X3_stateOn hdj hzz hx1 hx2 h2_) my_X3_stateOn mi_X3_stateOn ml_X3_65 zd_11 zc_X3 rfl (Zrr hR (by decide)) ⟨Nat.zero_le _, Nat.zero_le _⟩ hl.1 rfl rfl (Nat.le_of_ble_eq_true rfl) dX3_isHere_3 (fun hrr3_ hzz1_ H locs hw => ?_)
    refine lv_istore_n (lv' := [(3, .int (i32 (r3_))), (0, .ref (ad 11)), (1, .int (i32 (x1))), (2, .int (i32 (x2)))]) S.1 S.2.1 dX3_isHere_6 rfl hl (by decide) rfl (fun ls hl => ?_)
    refine lv_iload_n S.1 S.2.1 dX3_isHere_7 rfl (lv_at hl 0 rfl) ?_
    refine Yif_eq (tgt := 16) S hrr3_ dX3_isHere_8 (by decide) (fun c4_ => ?_) (fun c4_ => ?_)
    · replace hF := ZtP c4_ hF
      exact w_X3_isHere_b16 S hr hlk hR hdj _ _ _ _ hF hw hzz1_  (lv_sub hl [] rfl)
    · replace hF := ZtN c4_ hF
      refine lv_iload_n S.1 S.2.1 dX3_isHere_11 rfl (lv_at hl 0 rfl) ?_
      refine lv_iconst (v := i32 2) S.1 S.2.1 dX3_isHere_12 ic_2 ?_
      refine Yicmp_ne (tgt := 20) S hrr3_ r_2 dX3_isHere_13 (by decide) (fun c5_ => ?_) (fun c5_ => ?_)
      · replace hF := ZtN c5_ hF
        refine lv_iconst (v := i32 0) S.1 S.2.1 dX3_isHere_20 ic_0 ?_
        exact w_X3_isHere_b21 S hr hlk hR hdj _ _ _ _ _ hF hw hzz1_ r_0 (lv_sub hl [] rfl)
      · replace hF := ZtP c5_ hF
        exact w_X3_isHere_b16 S hr hlk hR hdj _ _ _ _ hF hw hzz1_  (lv_sub hl [] rfl))
set_option maxRecDepth 100000 in
set_option maxHeartbeats 4000000 in
theorem w_X3_hereInHouse_b38 {RR : Int × ZI} (S : CallFix p m c cX3_hereInHouse 5 s args Ztbl RX3) (hr : meth.sig.returnType = some .int) (hlk : meth.locks = false) (hR : 2 ≤ R.frames ∧ 60 * (2) ≤ R.locals) (hdj : Zdj ad) {k5 : ZI → Int → Int → Int → Int → Option (Int × ZI)} (hk5 : ∀ (z : ZI) (x1 : Int) (x2 : Int) (x3 : Int) (x4 : Int) (H : Heap) (locs : List Loc) (ls : Array Slot), k5 z x1 x2 x3 x4 = some RR → ZW D cA ad (ZA ad) (Zc z) s H locs → Zok z → InR x1 → InR x2 → InR x3 → InR x4 → lv_has ls 5 [(0, .ref (ad 11)), (1, .int (i32 (x1))), (2, .int (i32 (x2))), (3, .int (i32 (x3))), (4, .int (i32 (x4)))] → W p l e R s m args below meth c H locs 0 0 (MQ below (YQi D cA ad RR.1 RR.2) args s 0 0 (ZA ad)) (F0 m 5 ls [])) : ∀ (z : ZI) (x1 : Int) (x2 : Int) (x3 : Int) (x4 : Int) (H : Heap) (locs : List Loc) (ls : Array Slot), X3_hereInHouse_b38 k5 z x1 x2 x3 x4 = some RR → ZW D cA ad (ZA ad) (Zc z) s H locs → Zok z → InR x1 → InR x2 → InR x3 → InR x4 → lv_has ls 5 [(0, .ref (ad 11)), (1, .int (i32 (x1))), (2, .int (i32 (x2))), (3, .int (i32 (x3))), (4, .int (i32 (x4)))] → W p l e R s m args below meth c H locs 0 0 (MQ below (YQi D cA ad RR.1 RR.2) args s 0 0 (ZA ad)) (F0 m 38 ls []) := by
  intro z x1 x2 x3 x4 H locs ls hF hw hzz hx1 hx2 hx3 hx4 hl
  unfold X3_hereInHouse_b38 at hF
  obtain ⟨g1_, hF⟩ := Zgs hF
  refine lv_iinc (v := i32 (x4 + 1)) (lv' := [(4, .int (i32 (x4 + 1))), (0, .ref (ad 11)), (1, .int (i32 (x1))), (2, .int (i32 (x2))), (3, .int (i32 (x3)))]) S.1 S.2.1 dX3_hereInHouse_38 hl (k := 4) rfl Yiinc (by decide) rfl (fun ls hl => ?_)
  refine lv_goto (tgt := 5) S.1 S.2.1 dX3_hereInHouse_41 (by decide) ?_
  exact hk5 _ _ _ _ _ _ _ _ hF hw hzz hx1 hx2 hx3 g1_ (lv_sub hl [1, 2, 3, 4, 0] rfl)
set_option maxRecDepth 100000 in
set_option maxHeartbeats 4000000 in
theorem w_X3_hereInHouse_L5 {RR : Int × ZI} (S : CallFix p m c cX3_hereInHouse 5 s args Ztbl RX3) (hr : meth.sig.returnType = some .int) (hlk : meth.locks = false) (hR : 2 ≤ R.frames ∧ 60 * (2) ≤ R.locals) (hdj : Zdj ad) : ∀ (n : Nat) (z : ZI) (x1 : Int) (x2 : Int) (x3 : Int) (x4 : Int) (H : Heap) (locs : List Loc) (ls : Array Slot), X3_hereInHouse_L5 n z x1 x2 x3 x4 = some RR → ZW D cA ad (ZA ad) (Zc z) s H locs → Zok z → InR x1 → InR x2 → InR x3 → InR x4 → lv_has ls 5 [(0, .ref (ad 11)), (1, .int (i32 (x1))), (2, .int (i32 (x2))), (3, .int (i32 (x3))), (4, .int (i32 (x4)))] → W p l e R s m args below meth c H locs 0 0 (MQ below (YQi D cA ad RR.1 RR.2) args s 0 0 (ZA ad)) (F0 m 5 ls []) := by
  intro n
  induction n with
  | zero => intro z x1 x2 x3 x4 H locs ls hF; exact nomatch hF
  | succ n hk5 =>
    intro z x1 x2 x3 x4 H locs ls hF hw hzz hx1 hx2 hx3 hx4 hl
    replace hF : X3_hereInHouse_L5b (X3_hereInHouse_L5 n) z x1 x2 x3 x4 = some RR := hF
    unfold X3_hereInHouse_L5b at hF
    refine lv_iload S.1 S.2.1 dX3_hereInHouse_5 (lv_at hl 4 rfl) ?_
    refine lv_aload_n S.1 S.2.1 dX3_hereInHouse_7 rfl (lv_at hl 0 rfl) ?_
    refine gg_X3_59 S hw dX3_hereInHouse_8 ?_
    refine Yicmp_ge (tgt := 44) S hx4 (hzz.1 11 4 (by decide)) dX3_hereInHouse_11 (by decide) (fun c1_ => ?_) (fun c1_ => ?_)
    · replace hF := ZtP c1_ hF
      refine lv_iload_n S.1 S.2.1 dX3_hereInHouse_44 rfl (lv_at hl 3 rfl) ?_
      exact Yireti S hw hzz hx3 hr hlk hF dX3_hereInHouse_45
    · replace hF := ZtN c1_ hF
      refine lv_aload_n S.1 S.2.1 dX3_hereInHouse_14 rfl (lv_at hl 0 rfl) ?_
      refine gf_X3_27 S hw dX3_hereInHouse_15 ?_
      refine lv_iload S.1 S.2.1 dX3_hereInHouse_18 (lv_at hl 4 rfl) ?_
      obtain ⟨b2_, hF⟩ := Zgs hF
      refine Yiald S hw zd_15 (by decide) hx4 b2_ dX3_hereInHouse_20 ?_
      refine lv_iload_n S.1 S.2.1 dX3_hereInHouse_21 rfl (lv_at hl 1 rfl) ?_
      refine Yicmp_ne (tgt := 38) S (hzz.1 _ _ (by decide)) hx1 dX3_hereInHouse_22 (by decide) (fun c3_ => ?_) (fun c3_ => ?_)
      · replace hF := ZtN c3_ hF
        exact w_X3_hereInHouse_b38 S hr hlk hR hdj hk5 _ _ _ _ _ _ _ _ hF hw hzz hx1 hx2 hx3 hx4 (lv_sub hl [0, 1, 2, 3, 4] rfl)
      · replace hF := ZtP c3_ hF
        refine lv_aload_n S.1 S.2.1 dX3_hereInHouse_25 rfl (lv_at hl 0 rfl) ?_
        refine lv_iload S.1 S.2.1 dX3_hereInHouse_26 (lv_at hl 4 rfl) ?_
        refine lv_iload_n S.1 S.2.1 dX3_hereInHouse_28 rfl (lv_at hl 2 rfl) ?_
        obtain ⟨r6_, z4_, h5_, hF⟩ := Ybs hF
        refine YcallVi (rest := []) S hw (c_X3_isHere hdj hzz hx4 hx2 h5_) my_X3_isHere mi_X3_isHere ml_X3_69 zd_11 zc_X3 rfl (Zrr hR (by decide)) ⟨Nat.zero_le _, Nat.zero_le _⟩ hl.1 rfl rfl (Nat.le_of_ble_eq_true rfl) dX3_hereInHouse_29 (fun hrr6_ hzz4_ H locs hw => ?_)
        refine Yif_eq (tgt := 38) S hrr6_ dX3_hereInHouse_32 (by decide) (fun c7_ => ?_) (fun c7_ => ?_)
        · replace hF := ZtP c7_ hF
          exact w_X3_hereInHouse_b38 S hr hlk hR hdj hk5 _ _ _ _ _ _ _ _ hF hw hzz4_ hx1 hx2 hx3 hx4 (lv_sub hl [0, 1, 2, 3, 4] rfl)
        · replace hF := ZtN c7_ hF
          obtain ⟨g8_, hF⟩ := Zgs hF
          refine lv_iinc (v := i32 (x3 + 1)) (lv' := [(3, .int (i32 (x3 + 1))), (0, .ref (ad 11)), (1, .int (i32 (x1))), (2, .int (i32 (x2))), (4, .int (i32 (x4)))]) S.1 S.2.1 dX3_hereInHouse_35 hl (k := 3) rfl Yiinc (by decide) rfl (fun ls hl => ?_)
          exact w_X3_hereInHouse_b38 S hr hlk hR hdj hk5 _ _ _ _ _ _ _ _ hF hw hzz4_ hx1 hx2 g8_ hx4 (lv_sub hl [1, 2, 3, 0, 4] rfl)
set_option maxRecDepth 100000 in
set_option maxHeartbeats 4000000 in
theorem c_X3_hereInHouse {l : Launch} {D : va_G} {cA : Nat → ClassId} {ad : Nat → Nat} (hdj : Zdj ad) {z z1 : ZI} {x1 : Int} {x2 : Int} {r : Int} (hzz : Zok z) (hx1 : InR x1) (hx2 : InR x2) (hF : F_X3_hereInHouse z x1 x2 = some (r, z1)) : YMi l D cA ad (2) yX3_hereInHouse cX3_hereInHouse 5 (some .int) [.ref (ad 11), .int (i32 x1), .int (i32 x2)] z r z1 :=
  Zmet hdj (by decide) rfl (Nat.le_of_ble_eq_true rfl) (lv := [(0, .ref (ad 11)), (1, .int (i32 (x1))), (2, .int (i32 (x2)))]) rfl (fun p e s m args below meth c ls S hr hlk hw hl => by
    have hR : 2 ≤ (Zrm (2)).frames ∧ 60 * (2) ≤ (Zrm (2)).locals := ⟨Nat.le_refl _, Nat.le_refl _⟩
    unfold F_X3_hereInHouse at hF
    revert hR
    generalize Zrm (2) = R
    intro hR
    refine lv_iconst (v := i32 0) S.1 S.2.1 dX3_hereInHouse_0 ic_0 ?_
    refine lv_istore_n (lv' := [(3, .int (i32 (0))), (0, .ref (ad 11)), (1, .int (i32 (x1))), (2, .int (i32 (x2)))]) S.1 S.2.1 dX3_hereInHouse_1 rfl hl (by decide) rfl (fun ls hl => ?_)
    refine lv_iconst (v := i32 0) S.1 S.2.1 dX3_hereInHouse_2 ic_0 ?_
    refine lv_istore (lv' := [(4, .int (i32 (0))), (3, .int (i32 (0))), (0, .ref (ad 11)), (1, .int (i32 (x1))), (2, .int (i32 (x2)))]) S.1 S.2.1 dX3_hereInHouse_3 hl (by decide) rfl (fun ls hl => ?_)
    exact w_X3_hereInHouse_L5 S hr hlk hR hdj Zfuel _ _ _ _ _ _ _ _ hF hw hzz hx1 hx2 r_0 r_0 (lv_sub hl [2, 3, 4, 1, 0] rfl))
set_option maxRecDepth 100000 in
set_option maxHeartbeats 4000000 in
theorem w_X3_matches_b40 {RR : Int × ZI} (S : CallFix p m c cX3_matches 3 s args Ztbl RX3) (hr : meth.sig.returnType = some .boolean) (hlk : meth.locks = false) (hR : 1 ≤ R.frames ∧ 60 * (1) ≤ R.locals) (hdj : Zdj ad) : ∀ (z : ZI) (y0 : Int) (H : Heap) (locs : List Loc) (ls : Array Slot), X3_matches_b40 z y0 = some RR → ZW D cA ad (ZA ad) (Zc z) s H locs → Zok z → InR y0 → lv_has ls 3 [] → W p l e R s m args below meth c H locs 0 0 (MQ below (YQi D cA ad RR.1 RR.2) args s 0 0 (ZA ad)) (F0 m 40 ls [.int (i32 (y0))]) := by
  intro z y0 H locs ls hF hw hzz hy0 hl
  unfold X3_matches_b40 at hF
  obtain ⟨b1_, hF⟩ := Zgs hF
  exact Yiretz S hw hzz hy0 hr hlk b1_ hF dX3_matches_40
set_option maxRecDepth 100000 in
set_option maxHeartbeats 4000000 in
theorem w_X3_matches_b39 {RR : Int × ZI} (S : CallFix p m c cX3_matches 3 s args Ztbl RX3) (hr : meth.sig.returnType = some .boolean) (hlk : meth.locks = false) (hR : 1 ≤ R.frames ∧ 60 * (1) ≤ R.locals) (hdj : Zdj ad) : ∀ (z : ZI) (H : Heap) (locs : List Loc) (ls : Array Slot), X3_matches_b39 z  = some RR → ZW D cA ad (ZA ad) (Zc z) s H locs → Zok z → lv_has ls 3 [] → W p l e R s m args below meth c H locs 0 0 (MQ below (YQi D cA ad RR.1 RR.2) args s 0 0 (ZA ad)) (F0 m 39 ls []) := by
  intro z  H locs ls hF hw hzz  hl
  unfold X3_matches_b39 at hF
  refine lv_iconst (v := i32 0) S.1 S.2.1 dX3_matches_39 ic_0 ?_
  exact w_X3_matches_b40 S hr hlk hR hdj _ _ _ _ _ hF hw hzz r_0 (lv_sub hl [] rfl)
set_option maxRecDepth 100000 in
set_option maxHeartbeats 4000000 in
theorem c_X3_matches {l : Launch} {D : va_G} {cA : Nat → ClassId} {ad : Nat → Nat} (hdj : Zdj ad) {z z1 : ZI} {x1 : Int} {x2 : Int} {r : Int} (hzz : Zok z) (hx1 : InR x1) (hx2 : InR x2) (hF : F_X3_matches z x1 x2 = some (r, z1)) : YMi l D cA ad (1) yX3_matches cX3_matches 3 (some .boolean) [.ref (ad 11), .int (i32 x1), .int (i32 x2)] z r z1 :=
  Zmet hdj (by decide) rfl (Nat.le_of_ble_eq_true rfl) (lv := [(0, .ref (ad 11)), (1, .int (i32 (x1))), (2, .int (i32 (x2)))]) rfl (fun p e s m args below meth c ls S hr hlk hw hl => by
    have hR : 1 ≤ (Zrm (1)).frames ∧ 60 * (1) ≤ (Zrm (1)).locals := ⟨Nat.le_refl _, Nat.le_refl _⟩
    unfold F_X3_matches at hF
    revert hR
    generalize Zrm (1) = R
    intro hR
    refine lv_aload_n S.1 S.2.1 dX3_matches_0 rfl (lv_at hl 0 rfl) ?_
    refine gf_X3_33 S hw dX3_matches_1 ?_
    refine lv_iload_n S.1 S.2.1 dX3_matches_4 rfl (lv_at hl 1 rfl) ?_
    obtain ⟨b1_, hF⟩ := Zgs hF
    refine Yiald S hw zd_17 (by decide) hx1 b1_ dX3_matches_5 ?_
    refine lv_aload_n S.1 S.2.1 dX3_matches_6 rfl (lv_at hl 0 rfl) ?_
    refine gf_X3_33 S hw dX3_matches_7 ?_
    refine lv_iload_n S.1 S.2.1 dX3_matches_10 rfl (lv_at hl 2 rfl) ?_
    obtain ⟨b2_, hF⟩ := Zgs hF
    refine Yiald S hw zd_17 (by decide) hx2 b2_ dX3_matches_11 ?_
    refine Yicmp_ne (tgt := 39) S (hzz.1 _ _ (by decide)) (hzz.1 _ _ (by decide)) dX3_matches_12 (by decide) (fun c3_ => ?_) (fun c3_ => ?_)
    · replace hF := ZtN c3_ hF
      exact w_X3_matches_b39 S hr hlk hR hdj _ _ _ _ hF hw hzz  (lv_sub hl [] rfl)
    · replace hF := ZtP c3_ hF
      refine lv_aload_n S.1 S.2.1 dX3_matches_15 rfl (lv_at hl 0 rfl) ?_
      refine gf_X3_30 S hw dX3_matches_16 ?_
      refine lv_iload_n S.1 S.2.1 dX3_matches_19 rfl (lv_at hl 1 rfl) ?_
      obtain ⟨b4_, hF⟩ := Zgs hF
      refine Yiald S hw zd_16 (by decide) hx1 b4_ dX3_matches_20 ?_
      refine lv_aload_n S.1 S.2.1 dX3_matches_21 rfl (lv_at hl 0 rfl) ?_
      refine gf_X3_30 S hw dX3_matches_22 ?_
      refine lv_iload_n S.1 S.2.1 dX3_matches_25 rfl (lv_at hl 2 rfl) ?_
      obtain ⟨b5_, hF⟩ := Zgs hF
      refine Yiald S hw zd_16 (by decide) hx2 b5_ dX3_matches_26 ?_
      obtain ⟨g6_, hF⟩ := Zgs hF
      refine Yisub S dX3_matches_27 ?_
      obtain ⟨g7_, hF⟩ := Zgs hF
      refine Ymabs S g6_ hl ml_X3_80 (Zr1 hR (by decide)) (Zr2 hR (by decide) (Nat.le_of_ble_eq_true rfl)) ⟨Nat.zero_le _, Nat.zero_le _⟩ dX3_matches_28 ?_
      refine lv_iconst (v := i32 3) S.1 S.2.1 dX3_matches_31 ic_3 ?_
      refine Yicmp_gt (tgt := 39) S (jabs_in g6_ g7_) r_3 dX3_matches_32 (by decide) (fun c8_ => ?_) (fun c8_ => ?_)
      · replace hF := ZtP c8_ hF
        exact w_X3_matches_b39 S hr hlk hR hdj _ _ _ _ hF hw hzz  (lv_sub hl [] rfl)
      · replace hF := ZtN c8_ hF
        refine lv_iconst (v := i32 1) S.1 S.2.1 dX3_matches_35 ic_1 ?_
        refine lv_goto (tgt := 40) S.1 S.2.1 dX3_matches_36 (by decide) ?_
        exact w_X3_matches_b40 S hr hlk hR hdj _ _ _ _ _ hF hw hzz r_1 (lv_sub hl [] rfl))
set_option maxRecDepth 100000 in
set_option maxHeartbeats 4000000 in
theorem w_X3_takeMatch_b75 {RR : Int × ZI} (S : CallFix p m c cX3_takeMatch 6 s args Ztbl RX3) (hr : meth.sig.returnType = some .boolean) (hlk : meth.locks = false) (hR : 2 ≤ R.frames ∧ 60 * (2) ≤ R.locals) (hdj : Zdj ad) {k3 : ZI → Int → Int → Int → Int → Option (Int × ZI)} (hk3 : ∀ (z : ZI) (x1 : Int) (x2 : Int) (x3 : Int) (x4 : Int) (H : Heap) (locs : List Loc) (ls : Array Slot), k3 z x1 x2 x3 x4 = some RR → ZW D cA ad (ZA ad) (Zc z) s H locs → Zok z → InR x1 → InR x2 → InR x3 → InR x4 → lv_has ls 6 [(0, .ref (ad 11)), (1, .int (i32 (x1))), (2, .int (i32 (x2))), (3, .int (i32 (x3))), (4, .int (i32 (x4)))] → W p l e R s m args below meth c H locs 0 0 (MQ below (YQi D cA ad RR.1 RR.2) args s 0 0 (ZA ad)) (F0 m 3 ls [])) : ∀ (z : ZI) (x1 : Int) (x2 : Int) (x3 : Int) (x4 : Int) (H : Heap) (locs : List Loc) (ls : Array Slot), X3_takeMatch_b75 k3 z x1 x2 x3 x4 = some RR → ZW D cA ad (ZA ad) (Zc z) s H locs → Zok z → InR x1 → InR x2 → InR x3 → InR x4 → lv_has ls 6 [(0, .ref (ad 11)), (1, .int (i32 (x1))), (2, .int (i32 (x2))), (3, .int (i32 (x3))), (4, .int (i32 (x4)))] → W p l e R s m args below meth c H locs 0 0 (MQ below (YQi D cA ad RR.1 RR.2) args s 0 0 (ZA ad)) (F0 m 75 ls []) := by
  intro z x1 x2 x3 x4 H locs ls hF hw hzz hx1 hx2 hx3 hx4 hl
  unfold X3_takeMatch_b75 at hF
  obtain ⟨g1_, hF⟩ := Zgs hF
  refine lv_iinc (v := i32 (x4 + 1)) (lv' := [(4, .int (i32 (x4 + 1))), (0, .ref (ad 11)), (1, .int (i32 (x1))), (2, .int (i32 (x2))), (3, .int (i32 (x3)))]) S.1 S.2.1 dX3_takeMatch_75 hl (k := 4) rfl Yiinc (by decide) rfl (fun ls hl => ?_)
  refine lv_goto (tgt := 3) S.1 S.2.1 dX3_takeMatch_78 (by decide) ?_
  exact hk3 _ _ _ _ _ _ _ _ hF hw hzz hx1 hx2 hx3 g1_ (lv_sub hl [1, 2, 3, 4, 0] rfl)
set_option maxRecDepth 100000 in
set_option maxHeartbeats 4000000 in
theorem w_X3_takeMatch_b65 {RR : Int × ZI} (S : CallFix p m c cX3_takeMatch 6 s args Ztbl RX3) (hr : meth.sig.returnType = some .boolean) (hlk : meth.locks = false) (hR : 2 ≤ R.frames ∧ 60 * (2) ≤ R.locals) (hdj : Zdj ad) : ∀ (z : ZI) (x4 : Int) (H : Heap) (locs : List Loc) (ls : Array Slot), X3_takeMatch_b65 z x4 = some RR → ZW D cA ad (ZA ad) (Zc z) s H locs → Zok z → InR x4 → lv_has ls 6 [(0, .ref (ad 11)), (4, .int (i32 (x4)))] → W p l e R s m args below meth c H locs 0 0 (MQ below (YQi D cA ad RR.1 RR.2) args s 0 0 (ZA ad)) (F0 m 65 ls []) := by
  intro z x4 H locs ls hF hw hzz hx4 hl
  unfold X3_takeMatch_b65 at hF
  refine lv_aload_n S.1 S.2.1 dX3_takeMatch_65 rfl (lv_at hl 0 rfl) ?_
  refine gf_X3_51 S hw dX3_takeMatch_66 ?_
  refine lv_iload S.1 S.2.1 dX3_takeMatch_69 (lv_at hl 1 rfl) ?_
  refine lv_iconst (v := i32 1) S.1 S.2.1 dX3_takeMatch_71 ic_1 ?_
  obtain ⟨b1_, hF⟩ := Zgs hF
  refine Yzast S hw hzz zd_23 (by decide) hx4 r_1 (Or.inr rfl) b1_ dX3_takeMatch_72 (fun z2_ H locs ez hzz2_ hw => ?_)
  replace hF := Zle ez hF; clear ez
  refine lv_iconst (v := i32 1) S.1 S.2.1 dX3_takeMatch_73 ic_1 ?_
  exact Yiretz S hw hzz2_ r_1 hr hlk (Or.inr rfl) hF dX3_takeMatch_74
set_option maxRecDepth 100000 in
set_option maxHeartbeats 4000000 in
theorem w_X3_takeMatch_b38 {RR : Int × ZI} (S : CallFix p m c cX3_takeMatch 6 s args Ztbl RX3) (hr : meth.sig.returnType = some .boolean) (hlk : meth.locks = false) (hR : 2 ≤ R.frames ∧ 60 * (2) ≤ R.locals) (hdj : Zdj ad) {k3 : ZI → Int → Int → Int → Int → Option (Int × ZI)} (hk3 : ∀ (z : ZI) (x1 : Int) (x2 : Int) (x3 : Int) (x4 : Int) (H : Heap) (locs : List Loc) (ls : Array Slot), k3 z x1 x2 x3 x4 = some RR → ZW D cA ad (ZA ad) (Zc z) s H locs → Zok z → InR x1 → InR x2 → InR x3 → InR x4 → lv_has ls 6 [(0, .ref (ad 11)), (1, .int (i32 (x1))), (2, .int (i32 (x2))), (3, .int (i32 (x3))), (4, .int (i32 (x4)))] → W p l e R s m args below meth c H locs 0 0 (MQ below (YQi D cA ad RR.1 RR.2) args s 0 0 (ZA ad)) (F0 m 3 ls [])) : ∀ (z : ZI) (x1 : Int) (x2 : Int) (x3 : Int) (x4 : Int) (y0 : Int) (H : Heap) (locs : List Loc) (ls : Array Slot), X3_takeMatch_b38 k3 z x1 x2 x3 x4 y0 = some RR → ZW D cA ad (ZA ad) (Zc z) s H locs → Zok z → InR x1 → InR x2 → InR x3 → InR x4 → InR y0 → lv_has ls 6 [(0, .ref (ad 11)), (1, .int (i32 (x1))), (2, .int (i32 (x2))), (3, .int (i32 (x3))), (4, .int (i32 (x4)))] → W p l e R s m args below meth c H locs 0 0 (MQ below (YQi D cA ad RR.1 RR.2) args s 0 0 (ZA ad)) (F0 m 38 ls [.int (i32 (y0))]) := by
  intro z x1 x2 x3 x4 y0 H locs ls hF hw hzz hx1 hx2 hx3 hx4 hy0 hl
  unfold X3_takeMatch_b38 at hF
  refine lv_istore (lv' := [(5, .int (i32 (y0))), (0, .ref (ad 11)), (1, .int (i32 (x1))), (2, .int (i32 (x2))), (3, .int (i32 (x3))), (4, .int (i32 (x4)))]) S.1 S.2.1 dX3_takeMatch_38 hl (by decide) rfl (fun ls hl => ?_)
  refine lv_iload S.1 S.2.1 dX3_takeMatch_40 (lv_at hl 0 rfl) ?_
  refine Yif_eq (tgt := 75) S hy0 dX3_takeMatch_42 (by decide) (fun c1_ => ?_) (fun c1_ => ?_)
  · replace hF := ZtP c1_ hF
    exact w_X3_takeMatch_b75 S hr hlk hR hdj hk3 _ _ _ _ _ _ _ _ hF hw hzz hx1 hx2 hx3 hx4 (lv_sub hl [1, 2, 3, 4, 5] rfl)
  · replace hF := ZtN c1_ hF
    refine lv_aload_n S.1 S.2.1 dX3_takeMatch_45 rfl (lv_at hl 1 rfl) ?_
    refine lv_iload_n S.1 S.2.1 dX3_takeMatch_46 rfl (lv_at hl 2 rfl) ?_
    refine lv_iload S.1 S.2.1 dX3_takeMatch_47 (lv_at hl 5 rfl) ?_
    obtain ⟨r4_, z2_, h3_, hF⟩ := Ybs hF
    refine YcallVi (rest := []) S hw (c_X3_matches hdj hzz hx1 hx4 h3_) my_X3_matches mi_X3_matches ml_X3_77 zd_11 zc_X3 rfl (Zrr hR (by decide)) ⟨Nat.zero_le _, Nat.zero_le _⟩ hl.1 rfl rfl (Nat.le_of_ble_eq_true rfl) dX3_takeMatch_49 (fun hrr4_ hzz2_ H locs hw => ?_)
    refine Yif_eq (tgt := 75) S hrr4_ dX3_takeMatch_52 (by decide) (fun c5_ => ?_) (fun c5_ => ?_)
    · replace hF := ZtP c5_ hF
      exact w_X3_takeMatch_b75 S hr hlk hR hdj hk3 _ _ _ _ _ _ _ _ hF hw hzz2_ hx1 hx2 hx3 hx4 (lv_sub hl [1, 2, 3, 4, 5] rfl)
    · replace hF := ZtN c5_ hF
      refine lv_aload_n S.1 S.2.1 dX3_takeMatch_55 rfl (lv_at hl 1 rfl) ?_
      refine lv_iload S.1 S.2.1 dX3_takeMatch_56 (lv_at hl 5 rfl) ?_
      refine lv_iload_n S.1 S.2.1 dX3_takeMatch_58 rfl (lv_at hl 4 rfl) ?_
      obtain ⟨r8_, z6_, h7_, hF⟩ := Ybs hF
      refine YcallVi (rest := []) S hw (c_X3_isHere hdj hzz2_ hx4 hx3 h7_) my_X3_isHere mi_X3_isHere ml_X3_69 zd_11 zc_X3 rfl (Zrr hR (by decide)) ⟨Nat.zero_le _, Nat.zero_le _⟩ hl.1 rfl rfl (Nat.le_of_ble_eq_true rfl) dX3_takeMatch_59 (fun hrr8_ hzz6_ H locs hw => ?_)
      refine Yif_eq (tgt := 75) S hrr8_ dX3_takeMatch_62 (by decide) (fun c9_ => ?_) (fun c9_ => ?_)
      · replace hF := ZtP c9_ hF
        exact w_X3_takeMatch_b75 S hr hlk hR hdj hk3 _ _ _ _ _ _ _ _ hF hw hzz6_ hx1 hx2 hx3 hx4 (lv_sub hl [1, 2, 3, 4, 5] rfl)
      · replace hF := ZtN c9_ hF
        exact w_X3_takeMatch_b65 S hr hlk hR hdj _ _ _ _ _ hF hw hzz6_ hx4 (lv_sub hl [1, 5] rfl)
set_option maxRecDepth 100000 in
set_option maxHeartbeats 4000000 in
theorem w_X3_takeMatch_b37 {RR : Int × ZI} (S : CallFix p m c cX3_takeMatch 6 s args Ztbl RX3) (hr : meth.sig.returnType = some .boolean) (hlk : meth.locks = false) (hR : 2 ≤ R.frames ∧ 60 * (2) ≤ R.locals) (hdj : Zdj ad) {k3 : ZI → Int → Int → Int → Int → Option (Int × ZI)} (hk3 : ∀ (z : ZI) (x1 : Int) (x2 : Int) (x3 : Int) (x4 : Int) (H : Heap) (locs : List Loc) (ls : Array Slot), k3 z x1 x2 x3 x4 = some RR → ZW D cA ad (ZA ad) (Zc z) s H locs → Zok z → InR x1 → InR x2 → InR x3 → InR x4 → lv_has ls 6 [(0, .ref (ad 11)), (1, .int (i32 (x1))), (2, .int (i32 (x2))), (3, .int (i32 (x3))), (4, .int (i32 (x4)))] → W p l e R s m args below meth c H locs 0 0 (MQ below (YQi D cA ad RR.1 RR.2) args s 0 0 (ZA ad)) (F0 m 3 ls [])) : ∀ (z : ZI) (x1 : Int) (x2 : Int) (x3 : Int) (x4 : Int) (H : Heap) (locs : List Loc) (ls : Array Slot), X3_takeMatch_b37 k3 z x1 x2 x3 x4 = some RR → ZW D cA ad (ZA ad) (Zc z) s H locs → Zok z → InR x1 → InR x2 → InR x3 → InR x4 → lv_has ls 6 [(0, .ref (ad 11)), (1, .int (i32 (x1))), (2, .int (i32 (x2))), (3, .int (i32 (x3))), (4, .int (i32 (x4)))] → W p l e R s m args below meth c H locs 0 0 (MQ below (YQi D cA ad RR.1 RR.2) args s 0 0 (ZA ad)) (F0 m 37 ls []) := by
  intro z x1 x2 x3 x4 H locs ls hF hw hzz hx1 hx2 hx3 hx4 hl
  unfold X3_takeMatch_b37 at hF
  refine lv_iconst (v := i32 0) S.1 S.2.1 dX3_takeMatch_37 ic_0 ?_
  exact w_X3_takeMatch_b38 S hr hlk hR hdj hk3 _ _ _ _ _ _ _ _ _ hF hw hzz hx1 hx2 hx3 hx4 r_0 (lv_sub hl [0, 1, 2, 3, 4] rfl)
set_option maxRecDepth 100000 in
set_option maxHeartbeats 4000000 in
theorem w_X3_takeMatch_L3 {RR : Int × ZI} (S : CallFix p m c cX3_takeMatch 6 s args Ztbl RX3) (hr : meth.sig.returnType = some .boolean) (hlk : meth.locks = false) (hR : 2 ≤ R.frames ∧ 60 * (2) ≤ R.locals) (hdj : Zdj ad) : ∀ (n : Nat) (z : ZI) (x1 : Int) (x2 : Int) (x3 : Int) (x4 : Int) (H : Heap) (locs : List Loc) (ls : Array Slot), X3_takeMatch_L3 n z x1 x2 x3 x4 = some RR → ZW D cA ad (ZA ad) (Zc z) s H locs → Zok z → InR x1 → InR x2 → InR x3 → InR x4 → lv_has ls 6 [(0, .ref (ad 11)), (1, .int (i32 (x1))), (2, .int (i32 (x2))), (3, .int (i32 (x3))), (4, .int (i32 (x4)))] → W p l e R s m args below meth c H locs 0 0 (MQ below (YQi D cA ad RR.1 RR.2) args s 0 0 (ZA ad)) (F0 m 3 ls []) := by
  intro n
  induction n with
  | zero => intro z x1 x2 x3 x4 H locs ls hF; exact nomatch hF
  | succ n hk3 =>
    intro z x1 x2 x3 x4 H locs ls hF hw hzz hx1 hx2 hx3 hx4 hl
    replace hF : X3_takeMatch_L3b (X3_takeMatch_L3 n) z x1 x2 x3 x4 = some RR := hF
    unfold X3_takeMatch_L3b at hF
    refine lv_iload S.1 S.2.1 dX3_takeMatch_3 (lv_at hl 4 rfl) ?_
    refine lv_aload_n S.1 S.2.1 dX3_takeMatch_5 rfl (lv_at hl 0 rfl) ?_
    refine gg_X3_59 S hw dX3_takeMatch_6 ?_
    refine Yicmp_ge (tgt := 81) S hx4 (hzz.1 11 4 (by decide)) dX3_takeMatch_9 (by decide) (fun c1_ => ?_) (fun c1_ => ?_)
    · replace hF := ZtP c1_ hF
      refine lv_iconst (v := i32 0) S.1 S.2.1 dX3_takeMatch_81 ic_0 ?_
      exact Yiretz S hw hzz r_0 hr hlk (Or.inl rfl) hF dX3_takeMatch_82
    · replace hF := ZtN c1_ hF
      refine lv_aload_n S.1 S.2.1 dX3_takeMatch_12 rfl (lv_at hl 0 rfl) ?_
      refine gf_X3_27 S hw dX3_takeMatch_13 ?_
      refine lv_iload S.1 S.2.1 dX3_takeMatch_16 (lv_at hl 4 rfl) ?_
      obtain ⟨b2_, hF⟩ := Zgs hF
      refine Yiald S hw zd_15 (by decide) hx4 b2_ dX3_takeMatch_18 ?_
      refine lv_iload_n S.1 S.2.1 dX3_takeMatch_19 rfl (lv_at hl 2 rfl) ?_
      refine Yicmp_ne (tgt := 37) S (hzz.1 _ _ (by decide)) hx2 dX3_takeMatch_20 (by decide) (fun c3_ => ?_) (fun c3_ => ?_)
      · replace hF := ZtN c3_ hF
        exact w_X3_takeMatch_b37 S hr hlk hR hdj hk3 _ _ _ _ _ _ _ _ hF hw hzz hx1 hx2 hx3 hx4 (lv_sub hl [0, 1, 2, 3, 4] rfl)
      · replace hF := ZtP c3_ hF
        refine lv_aload_n S.1 S.2.1 dX3_takeMatch_23 rfl (lv_at hl 0 rfl) ?_
        refine gf_X3_51 S hw dX3_takeMatch_24 ?_
        refine lv_iload S.1 S.2.1 dX3_takeMatch_27 (lv_at hl 4 rfl) ?_
        obtain ⟨b4_, hF⟩ := Zgs hF
        refine Yzald S hw zd_23 (by decide) hx4 b4_ dX3_takeMatch_29 ?_
        refine Yif_ne (tgt := 37) S (hzz.1 _ _ (by decide)) dX3_takeMatch_30 (by decide) (fun c5_ => ?_) (fun c5_ => ?_)
        · replace hF := ZtN c5_ hF
          exact w_X3_takeMatch_b37 S hr hlk hR hdj hk3 _ _ _ _ _ _ _ _ hF hw hzz hx1 hx2 hx3 hx4 (lv_sub hl [0, 1, 2, 3, 4] rfl)
        · replace hF := ZtP c5_ hF
          refine lv_iconst (v := i32 1) S.1 S.2.1 dX3_takeMatch_33 ic_1 ?_
          refine lv_goto (tgt := 38) S.1 S.2.1 dX3_takeMatch_34 (by decide) ?_
          exact w_X3_takeMatch_b38 S hr hlk hR hdj hk3 _ _ _ _ _ _ _ _ _ hF hw hzz hx1 hx2 hx3 hx4 r_1 (lv_sub hl [0, 1, 2, 3, 4] rfl)
set_option maxRecDepth 100000 in
set_option maxHeartbeats 4000000 in
theorem c_X3_takeMatch {l : Launch} {D : va_G} {cA : Nat → ClassId} {ad : Nat → Nat} (hdj : Zdj ad) {z z1 : ZI} {x1 : Int} {x2 : Int} {x3 : Int} {r : Int} (hzz : Zok z) (hx1 : InR x1) (hx2 : InR x2) (hx3 : InR x3) (hF : F_X3_takeMatch z x1 x2 x3 = some (r, z1)) : YMi l D cA ad (2) yX3_takeMatch cX3_takeMatch 6 (some .boolean) [.ref (ad 11), .int (i32 x1), .int (i32 x2), .int (i32 x3)] z r z1 :=
  Zmet hdj (by decide) rfl (Nat.le_of_ble_eq_true rfl) (lv := [(0, .ref (ad 11)), (1, .int (i32 (x1))), (2, .int (i32 (x2))), (3, .int (i32 (x3)))]) rfl (fun p e s m args below meth c ls S hr hlk hw hl => by
    have hR : 2 ≤ (Zrm (2)).frames ∧ 60 * (2) ≤ (Zrm (2)).locals := ⟨Nat.le_refl _, Nat.le_refl _⟩
    unfold F_X3_takeMatch at hF
    revert hR
    generalize Zrm (2) = R
    intro hR
    refine lv_iconst (v := i32 0) S.1 S.2.1 dX3_takeMatch_0 ic_0 ?_
    refine lv_istore (lv' := [(4, .int (i32 (0))), (0, .ref (ad 11)), (1, .int (i32 (x1))), (2, .int (i32 (x2))), (3, .int (i32 (x3)))]) S.1 S.2.1 dX3_takeMatch_1 hl (by decide) rfl (fun ls hl => ?_)
    exact w_X3_takeMatch_L3 S hr hlk hR hdj Zfuel _ _ _ _ _ _ _ _ hF hw hzz hx1 hx2 hx3 r_0 (lv_sub hl [1, 2, 3, 4, 0] rfl))
set_option maxRecDepth 100000 in
set_option maxHeartbeats 4000000 in
theorem w_X3_pairUp_b76 {RR : Int × ZI} (S : CallFix p m c cX3_pairUp 6 s args Ztbl RX3) (hr : meth.sig.returnType = some .int) (hlk : meth.locks = false) (hR : 3 ≤ R.frames ∧ 60 * (3) ≤ R.locals) (hdj : Zdj ad) {k32 : ZI → Int → Int → Int → Int → Int → Option (Int × ZI)} (hk32 : ∀ (z : ZI) (x1 : Int) (x2 : Int) (x3 : Int) (x4 : Int) (x5 : Int) (H : Heap) (locs : List Loc) (ls : Array Slot), k32 z x1 x2 x3 x4 x5 = some RR → ZW D cA ad (ZA ad) (Zc z) s H locs → Zok z → InR x1 → InR x2 → InR x3 → InR x4 → InR x5 → lv_has ls 6 [(0, .ref (ad 11)), (1, .int (i32 (x1))), (2, .int (i32 (x2))), (3, .int (i32 (x3))), (4, .int (i32 (x4))), (5, .int (i32 (x5)))] → W p l e R s m args below meth c H locs 0 0 (MQ below (YQi D cA ad RR.1 RR.2) args s 0 0 (ZA ad)) (F0 m 32 ls [])) : ∀ (z : ZI) (x1 : Int) (x2 : Int) (x3 : Int) (x4 : Int) (x5 : Int) (H : Heap) (locs : List Loc) (ls : Array Slot), X3_pairUp_b76 k32 z x1 x2 x3 x4 x5 = some RR → ZW D cA ad (ZA ad) (Zc z) s H locs → Zok z → InR x1 → InR x2 → InR x3 → InR x4 → InR x5 → lv_has ls 6 [(0, .ref (ad 11)), (1, .int (i32 (x1))), (2, .int (i32 (x2))), (3, .int (i32 (x3))), (4, .int (i32 (x4))), (5, .int (i32 (x5)))] → W p l e R s m args below meth c H locs 0 0 (MQ below (YQi D cA ad RR.1 RR.2) args s 0 0 (ZA ad)) (F0 m 76 ls []) := by
  intro z x1 x2 x3 x4 x5 H locs ls hF hw hzz hx1 hx2 hx3 hx4 hx5 hl
  unfold X3_pairUp_b76 at hF
  obtain ⟨g1_, hF⟩ := Zgs hF
  refine lv_iinc (v := i32 (x5 + 1)) (lv' := [(5, .int (i32 (x5 + 1))), (0, .ref (ad 11)), (1, .int (i32 (x1))), (2, .int (i32 (x2))), (3, .int (i32 (x3))), (4, .int (i32 (x4)))]) S.1 S.2.1 dX3_pairUp_76 hl (k := 5) rfl Yiinc (by decide) rfl (fun ls hl => ?_)
  refine lv_goto (tgt := 32) S.1 S.2.1 dX3_pairUp_79 (by decide) ?_
  exact hk32 _ _ _ _ _ _ _ _ _ hF hw hzz hx1 hx2 hx3 hx4 g1_ (lv_sub hl [1, 2, 3, 4, 5, 0] rfl)
set_option maxRecDepth 100000 in
set_option maxHeartbeats 4000000 in
theorem w_X3_pairUp_L32 {RR : Int × ZI} (S : CallFix p m c cX3_pairUp 6 s args Ztbl RX3) (hr : meth.sig.returnType = some .int) (hlk : meth.locks = false) (hR : 3 ≤ R.frames ∧ 60 * (3) ≤ R.locals) (hdj : Zdj ad) : ∀ (n : Nat) (z : ZI) (x1 : Int) (x2 : Int) (x3 : Int) (x4 : Int) (x5 : Int) (H : Heap) (locs : List Loc) (ls : Array Slot), X3_pairUp_L32 n z x1 x2 x3 x4 x5 = some RR → ZW D cA ad (ZA ad) (Zc z) s H locs → Zok z → InR x1 → InR x2 → InR x3 → InR x4 → InR x5 → lv_has ls 6 [(0, .ref (ad 11)), (1, .int (i32 (x1))), (2, .int (i32 (x2))), (3, .int (i32 (x3))), (4, .int (i32 (x4))), (5, .int (i32 (x5)))] → W p l e R s m args below meth c H locs 0 0 (MQ below (YQi D cA ad RR.1 RR.2) args s 0 0 (ZA ad)) (F0 m 32 ls []) := by
  intro n
  induction n with
  | zero => intro z x1 x2 x3 x4 x5 H locs ls hF; exact nomatch hF
  | succ n hk32 =>
    intro z x1 x2 x3 x4 x5 H locs ls hF hw hzz hx1 hx2 hx3 hx4 hx5 hl
    replace hF : X3_pairUp_L32b (X3_pairUp_L32 n) z x1 x2 x3 x4 x5 = some RR := hF
    unfold X3_pairUp_L32b at hF
    refine lv_iload S.1 S.2.1 dX3_pairUp_32 (lv_at hl 5 rfl) ?_
    refine lv_aload_n S.1 S.2.1 dX3_pairUp_34 rfl (lv_at hl 0 rfl) ?_
    refine gg_X3_59 S hw dX3_pairUp_35 ?_
    refine Yicmp_ge (tgt := 82) S hx5 (hzz.1 11 4 (by decide)) dX3_pairUp_38 (by decide) (fun c1_ => ?_) (fun c1_ => ?_)
    · replace hF := ZtP c1_ hF
      refine lv_iload S.1 S.2.1 dX3_pairUp_82 (lv_at hl 4 rfl) ?_
      exact Yireti S hw hzz hx4 hr hlk hF dX3_pairUp_84
    · replace hF := ZtN c1_ hF
      refine lv_aload_n S.1 S.2.1 dX3_pairUp_41 rfl (lv_at hl 0 rfl) ?_
      refine gf_X3_27 S hw dX3_pairUp_42 ?_
      refine lv_iload S.1 S.2.1 dX3_pairUp_45 (lv_at hl 5 rfl) ?_
      obtain ⟨b2_, hF⟩ := Zgs hF
      refine Yiald S hw zd_15 (by decide) hx5 b2_ dX3_pairUp_47 ?_
      refine lv_iload_n S.1 S.2.1 dX3_pairUp_48 rfl (lv_at hl 1 rfl) ?_
      refine Yicmp_ne (tgt := 76) S (hzz.1 _ _ (by decide)) hx1 dX3_pairUp_49 (by decide) (fun c3_ => ?_) (fun c3_ => ?_)
      · replace hF := ZtN c3_ hF
        exact w_X3_pairUp_b76 S hr hlk hR hdj hk32 _ _ _ _ _ _ _ _ _ hF hw hzz hx1 hx2 hx3 hx4 hx5 (lv_sub hl [0, 1, 2, 3, 4, 5] rfl)
      · replace hF := ZtP c3_ hF
        refine lv_aload_n S.1 S.2.1 dX3_pairUp_52 rfl (lv_at hl 0 rfl) ?_
        refine lv_iload S.1 S.2.1 dX3_pairUp_53 (lv_at hl 5 rfl) ?_
        refine lv_iload_n S.1 S.2.1 dX3_pairUp_55 rfl (lv_at hl 3 rfl) ?_
        obtain ⟨r6_, z4_, h5_, hF⟩ := Ybs hF
        refine YcallVi (rest := []) S hw (c_X3_isHere hdj hzz hx5 hx3 h5_) my_X3_isHere mi_X3_isHere ml_X3_69 zd_11 zc_X3 rfl (Zrr hR (by decide)) ⟨Nat.zero_le _, Nat.zero_le _⟩ hl.1 rfl rfl (Nat.le_of_ble_eq_true rfl) dX3_pairUp_56 (fun hrr6_ hzz4_ H locs hw => ?_)
        refine Yif_eq (tgt := 76) S hrr6_ dX3_pairUp_59 (by decide) (fun c7_ => ?_) (fun c7_ => ?_)
        · replace hF := ZtP c7_ hF
          exact w_X3_pairUp_b76 S hr hlk hR hdj hk32 _ _ _ _ _ _ _ _ _ hF hw hzz4_ hx1 hx2 hx3 hx4 hx5 (lv_sub hl [0, 1, 2, 3, 4, 5] rfl)
        · replace hF := ZtN c7_ hF
          refine lv_aload_n S.1 S.2.1 dX3_pairUp_62 rfl (lv_at hl 0 rfl) ?_
          refine lv_iload S.1 S.2.1 dX3_pairUp_63 (lv_at hl 5 rfl) ?_
          refine lv_iload_n S.1 S.2.1 dX3_pairUp_65 rfl (lv_at hl 2 rfl) ?_
          refine lv_iload_n S.1 S.2.1 dX3_pairUp_66 rfl (lv_at hl 3 rfl) ?_
          obtain ⟨r10_, z8_, h9_, hF⟩ := Ybs hF
          refine YcallVi (rest := []) S hw (c_X3_takeMatch hdj hzz4_ hx5 hx2 hx3 h9_) my_X3_takeMatch mi_X3_takeMatch ml_X3_73 zd_11 zc_X3 rfl (Zrr hR (by decide)) ⟨Nat.zero_le _, Nat.zero_le _⟩ hl.1 rfl rfl (Nat.le_of_ble_eq_true rfl) dX3_pairUp_67 (fun hrr10_ hzz8_ H locs hw => ?_)
          refine Yif_eq (tgt := 76) S hrr10_ dX3_pairUp_70 (by decide) (fun c11_ => ?_) (fun c11_ => ?_)
          · replace hF := ZtP c11_ hF
            exact w_X3_pairUp_b76 S hr hlk hR hdj hk32 _ _ _ _ _ _ _ _ _ hF hw hzz8_ hx1 hx2 hx3 hx4 hx5 (lv_sub hl [0, 1, 2, 3, 4, 5] rfl)
          · replace hF := ZtN c11_ hF
            obtain ⟨g12_, hF⟩ := Zgs hF
            refine lv_iinc (v := i32 (x4 + 1)) (lv' := [(4, .int (i32 (x4 + 1))), (0, .ref (ad 11)), (1, .int (i32 (x1))), (2, .int (i32 (x2))), (3, .int (i32 (x3))), (5, .int (i32 (x5)))]) S.1 S.2.1 dX3_pairUp_73 hl (k := 4) rfl Yiinc (by decide) rfl (fun ls hl => ?_)
            exact w_X3_pairUp_b76 S hr hlk hR hdj hk32 _ _ _ _ _ _ _ _ _ hF hw hzz8_ hx1 hx2 hx3 g12_ hx5 (lv_sub hl [1, 2, 3, 4, 0, 5] rfl)
set_option maxRecDepth 100000 in
set_option maxHeartbeats 4000000 in
theorem w_X3_pairUp_b26 {RR : Int × ZI} (S : CallFix p m c cX3_pairUp 6 s args Ztbl RX3) (hr : meth.sig.returnType = some .int) (hlk : meth.locks = false) (hR : 3 ≤ R.frames ∧ 60 * (3) ≤ R.locals) (hdj : Zdj ad) : ∀ (z : ZI) (x1 : Int) (x2 : Int) (x3 : Int) (H : Heap) (locs : List Loc) (ls : Array Slot), X3_pairUp_b26 z x1 x2 x3 = some RR → ZW D cA ad (ZA ad) (Zc z) s H locs → Zok z → InR x1 → InR x2 → InR x3 → lv_has ls 6 [(0, .ref (ad 11)), (1, .int (i32 (x1))), (2, .int (i32 (x2))), (3, .int (i32 (x3)))] → W p l e R s m args below meth c H locs 0 0 (MQ below (YQi D cA ad RR.1 RR.2) args s 0 0 (ZA ad)) (F0 m 26 ls []) := by
  intro z x1 x2 x3 H locs ls hF hw hzz hx1 hx2 hx3 hl
  unfold X3_pairUp_b26 at hF
  refine lv_iconst (v := i32 0) S.1 S.2.1 dX3_pairUp_26 ic_0 ?_
  refine lv_istore (lv' := [(4, .int (i32 (0))), (0, .ref (ad 11)), (1, .int (i32 (x1))), (2, .int (i32 (x2))), (3, .int (i32 (x3)))]) S.1 S.2.1 dX3_pairUp_27 hl (by decide) rfl (fun ls hl => ?_)
  refine lv_iconst (v := i32 0) S.1 S.2.1 dX3_pairUp_29 ic_0 ?_
  refine lv_istore (lv' := [(5, .int (i32 (0))), (4, .int (i32 (0))), (0, .ref (ad 11)), (1, .int (i32 (x1))), (2, .int (i32 (x2))), (3, .int (i32 (x3)))]) S.1 S.2.1 dX3_pairUp_30 hl (by decide) rfl (fun ls hl => ?_)
  exact w_X3_pairUp_L32 S hr hlk hR hdj Zfuel _ _ _ _ _ _ _ _ _ hF hw hzz hx1 hx2 hx3 r_0 r_0 (lv_sub hl [2, 3, 4, 5, 1, 0] rfl)
set_option maxRecDepth 100000 in
set_option maxHeartbeats 4000000 in
theorem w_X3_pairUp_L3 {RR : Int × ZI} (S : CallFix p m c cX3_pairUp 6 s args Ztbl RX3) (hr : meth.sig.returnType = some .int) (hlk : meth.locks = false) (hR : 3 ≤ R.frames ∧ 60 * (3) ≤ R.locals) (hdj : Zdj ad) : ∀ (n : Nat) (z : ZI) (x1 : Int) (x2 : Int) (x3 : Int) (x4 : Int) (H : Heap) (locs : List Loc) (ls : Array Slot), X3_pairUp_L3 n z x1 x2 x3 x4 = some RR → ZW D cA ad (ZA ad) (Zc z) s H locs → Zok z → InR x1 → InR x2 → InR x3 → InR x4 → lv_has ls 6 [(0, .ref (ad 11)), (1, .int (i32 (x1))), (2, .int (i32 (x2))), (3, .int (i32 (x3))), (4, .int (i32 (x4)))] → W p l e R s m args below meth c H locs 0 0 (MQ below (YQi D cA ad RR.1 RR.2) args s 0 0 (ZA ad)) (F0 m 3 ls []) := by
  intro n
  induction n with
  | zero => intro z x1 x2 x3 x4 H locs ls hF; exact nomatch hF
  | succ n hk3 =>
    intro z x1 x2 x3 x4 H locs ls hF hw hzz hx1 hx2 hx3 hx4 hl
    replace hF : X3_pairUp_L3b (X3_pairUp_L3 n) z x1 x2 x3 x4 = some RR := hF
    unfold X3_pairUp_L3b at hF
    refine lv_iload S.1 S.2.1 dX3_pairUp_3 (lv_at hl 4 rfl) ?_
    refine lv_aload_n S.1 S.2.1 dX3_pairUp_5 rfl (lv_at hl 0 rfl) ?_
    refine gg_X3_59 S hw dX3_pairUp_6 ?_
    refine Yicmp_ge (tgt := 26) S hx4 (hzz.1 11 4 (by decide)) dX3_pairUp_9 (by decide) (fun c1_ => ?_) (fun c1_ => ?_)
    · replace hF := ZtP c1_ hF
      exact w_X3_pairUp_b26 S hr hlk hR hdj _ _ _ _ _ _ _ hF hw hzz hx1 hx2 hx3 (lv_sub hl [0, 1, 2, 3] rfl)
    · replace hF := ZtN c1_ hF
      refine lv_aload_n S.1 S.2.1 dX3_pairUp_12 rfl (lv_at hl 0 rfl) ?_
      refine gf_X3_51 S hw dX3_pairUp_13 ?_
      refine lv_iload S.1 S.2.1 dX3_pairUp_16 (lv_at hl 4 rfl) ?_
      refine lv_iconst (v := i32 0) S.1 S.2.1 dX3_pairUp_18 ic_0 ?_
      obtain ⟨b2_, hF⟩ := Zgs hF
      refine Yzast S hw hzz zd_23 (by decide) hx4 r_0 (Or.inl rfl) b2_ dX3_pairUp_19 (fun z3_ H locs ez hzz3_ hw => ?_)
      replace hF := Zle ez hF; clear ez
      obtain ⟨g4_, hF⟩ := Zgs hF
      refine lv_iinc (v := i32 (x4 + 1)) (lv' := [(4, .int (i32 (x4 + 1))), (0, .ref (ad 11)), (1, .int (i32 (x1))), (2, .int (i32 (x2))), (3, .int (i32 (x3)))]) S.1 S.2.1 dX3_pairUp_20 hl (k := 4) rfl Yiinc (by decide) rfl (fun ls hl => ?_)
      refine lv_goto (tgt := 3) S.1 S.2.1 dX3_pairUp_23 (by decide) ?_
      exact hk3 _ _ _ _ _ _ _ _ hF hw hzz3_ hx1 hx2 hx3 g4_ (lv_sub hl [1, 2, 3, 4, 0] rfl)
set_option maxRecDepth 100000 in
set_option maxHeartbeats 4000000 in
theorem c_X3_pairUp {l : Launch} {D : va_G} {cA : Nat → ClassId} {ad : Nat → Nat} (hdj : Zdj ad) {z z1 : ZI} {x1 : Int} {x2 : Int} {x3 : Int} {r : Int} (hzz : Zok z) (hx1 : InR x1) (hx2 : InR x2) (hx3 : InR x3) (hF : F_X3_pairUp z x1 x2 x3 = some (r, z1)) : YMi l D cA ad (3) yX3_pairUp cX3_pairUp 6 (some .int) [.ref (ad 11), .int (i32 x1), .int (i32 x2), .int (i32 x3)] z r z1 :=
  Zmet hdj (by decide) rfl (Nat.le_of_ble_eq_true rfl) (lv := [(0, .ref (ad 11)), (1, .int (i32 (x1))), (2, .int (i32 (x2))), (3, .int (i32 (x3)))]) rfl (fun p e s m args below meth c ls S hr hlk hw hl => by
    have hR : 3 ≤ (Zrm (3)).frames ∧ 60 * (3) ≤ (Zrm (3)).locals := ⟨Nat.le_refl _, Nat.le_refl _⟩
    unfold F_X3_pairUp at hF
    revert hR
    generalize Zrm (3) = R
    intro hR
    refine lv_iconst (v := i32 0) S.1 S.2.1 dX3_pairUp_0 ic_0 ?_
    refine lv_istore (lv' := [(4, .int (i32 (0))), (0, .ref (ad 11)), (1, .int (i32 (x1))), (2, .int (i32 (x2))), (3, .int (i32 (x3)))]) S.1 S.2.1 dX3_pairUp_1 hl (by decide) rfl (fun ls hl => ?_)
    exact w_X3_pairUp_L3 S hr hlk hR hdj Zfuel _ _ _ _ _ _ _ _ hF hw hzz hx1 hx2 hx3 r_0 (lv_sub hl [1, 2, 3, 4, 0] rfl))
set_option maxRecDepth 100000 in
set_option maxHeartbeats 4000000 in
theorem c_X4_apart {l : Launch} {D : va_G} {cA : Nat → ClassId} {ad : Nat → Nat} (hdj : Zdj ad) {z z1 : ZI} {x0 : Int} {x1 : Int} {r : Int} (hzz : Zok z) (hx0 : InR x0) (hx1 : InR x1) (hF : F_X4_apart z x0 x1 = some (r, z1)) : YMi l D cA ad (1) yX4_apart cX4_apart 2 (some .int) [.int (i32 x0), .int (i32 x1)] z r z1 :=
  Zmet hdj (by decide) rfl (Nat.le_of_ble_eq_true rfl) (lv := [(0, .int (i32 (x0))), (1, .int (i32 (x1)))]) rfl (fun p e s m args below meth c ls S hr hlk hw hl => by
    have hR : 1 ≤ (Zrm (1)).frames ∧ 60 * (1) ≤ (Zrm (1)).locals := ⟨Nat.le_refl _, Nat.le_refl _⟩
    unfold F_X4_apart at hF
    revert hR
    generalize Zrm (1) = R
    intro hR
    refine lv_iload_n S.1 S.2.1 dX4_apart_0 rfl (lv_at hl 0 rfl) ?_
    refine lv_bipush (v := i32 12) S.1 S.2.1 dX4_apart_1 bp_12 ?_
    refine Yirem S hx0 r_12 (by decide) dX4_apart_3 ?_
    refine lv_iload_n S.1 S.2.1 dX4_apart_4 rfl (lv_at hl 1 rfl) ?_
    refine lv_bipush (v := i32 12) S.1 S.2.1 dX4_apart_5 bp_12 ?_
    refine Yirem S hx1 r_12 (by decide) dX4_apart_7 ?_
    obtain ⟨g1_, hF⟩ := Zgs hF
    refine Yisub S dX4_apart_8 ?_
    obtain ⟨g2_, hF⟩ := Zgs hF
    refine Ymabs S g1_ hl ml_X4_43 (Zr1 hR (by decide)) (Zr2 hR (by decide) (Nat.le_of_ble_eq_true rfl)) ⟨Nat.zero_le _, Nat.zero_le _⟩ dX4_apart_9 ?_
    refine lv_iload_n S.1 S.2.1 dX4_apart_12 rfl (lv_at hl 0 rfl) ?_
    refine lv_bipush (v := i32 12) S.1 S.2.1 dX4_apart_13 bp_12 ?_
    refine Yidiv S hx0 r_12 (by decide) dX4_apart_15 ?_
    refine lv_iload_n S.1 S.2.1 dX4_apart_16 rfl (lv_at hl 1 rfl) ?_
    refine lv_bipush (v := i32 12) S.1 S.2.1 dX4_apart_17 bp_12 ?_
    refine Yidiv S hx1 r_12 (by decide) dX4_apart_19 ?_
    obtain ⟨g3_, hF⟩ := Zgs hF
    refine Yisub S dX4_apart_20 ?_
    obtain ⟨g4_, hF⟩ := Zgs hF
    refine Ymabs S g3_ hl ml_X4_43 (Zr1 hR (by decide)) (Zr2 hR (by decide) (Nat.le_of_ble_eq_true rfl)) ⟨Nat.zero_le _, Nat.zero_le _⟩ dX4_apart_21 ?_
    obtain ⟨g5_, hF⟩ := Zgs hF
    refine Yiadd S dX4_apart_24 ?_
    exact Yireti S hw hzz g5_ hr hlk hF dX4_apart_25)
set_option maxRecDepth 100000 in
set_option maxHeartbeats 4000000 in
theorem w_X3_likeness_b89 {RR : Int × ZI} (S : CallFix p m c cX3_likeness 7 s args Ztbl RX3) (hr : meth.sig.returnType = some .int) (hlk : meth.locks = false) (hR : 4 ≤ R.frames ∧ 60 * (4) ≤ R.locals) (hdj : Zdj ad) : ∀ (z : ZI) (y0 : Int) (H : Heap) (locs : List Loc) (ls : Array Slot), X3_likeness_b89 z y0 = some RR → ZW D cA ad (ZA ad) (Zc z) s H locs → Zok z → InR y0 → lv_has ls 7 [] → W p l e R s m args below meth c H locs 0 0 (MQ below (YQi D cA ad RR.1 RR.2) args s 0 0 (ZA ad)) (F0 m 89 ls [.int (i32 (y0))]) := by
  intro z y0 H locs ls hF hw hzz hy0 hl
  unfold X3_likeness_b89 at hF
  exact Yireti S hw hzz hy0 hr hlk hF dX3_likeness_89
set_option maxRecDepth 100000 in
set_option maxHeartbeats 4000000 in
theorem w_X3_likeness_b79 {RR : Int × ZI} (S : CallFix p m c cX3_likeness 7 s args Ztbl RX3) (hr : meth.sig.returnType = some .int) (hlk : meth.locks = false) (hR : 4 ≤ R.frames ∧ 60 * (4) ≤ R.locals) (hdj : Zdj ad) : ∀ (z : ZI) (x4 : Int) (H : Heap) (locs : List Loc) (ls : Array Slot), X3_likeness_b79 z x4 = some RR → ZW D cA ad (ZA ad) (Zc z) s H locs → Zok z → InR x4 → lv_has ls 7 [(4, .int (i32 (x4)))] → W p l e R s m args below meth c H locs 0 0 (MQ below (YQi D cA ad RR.1 RR.2) args s 0 0 (ZA ad)) (F0 m 79 ls []) := by
  intro z x4 H locs ls hF hw hzz hx4 hl
  unfold X3_likeness_b79 at hF
  refine lv_iload S.1 S.2.1 dX3_likeness_79 (lv_at hl 0 rfl) ?_
  refine Yif_le (tgt := 88) S hx4 dX3_likeness_81 (by decide) (fun c1_ => ?_) (fun c1_ => ?_)
  · replace hF := ZtP c1_ hF
    refine lv_iconst (v := i32 0) S.1 S.2.1 dX3_likeness_88 ic_0 ?_
    exact w_X3_likeness_b89 S hr hlk hR hdj _ _ _ _ _ hF hw hzz r_0 (lv_sub hl [] rfl)
  · replace hF := ZtN c1_ hF
    refine lv_iconst (v := i32 1) S.1 S.2.1 dX3_likeness_84 ic_1 ?_
    refine lv_goto (tgt := 89) S.1 S.2.1 dX3_likeness_85 (by decide) ?_
    exact w_X3_likeness_b89 S hr hlk hR hdj _ _ _ _ _ hF hw hzz r_1 (lv_sub hl [] rfl)
set_option maxRecDepth 100000 in
set_option maxHeartbeats 4000000 in
theorem w_X3_likeness_b57 {RR : Int × ZI} (S : CallFix p m c cX3_likeness 7 s args Ztbl RX3) (hr : meth.sig.returnType = some .int) (hlk : meth.locks = false) (hR : 4 ≤ R.frames ∧ 60 * (4) ≤ R.locals) (hdj : Zdj ad) : ∀ (z : ZI) (x4 : Int) (x5 : Int) (y0 : Int) (H : Heap) (locs : List Loc) (ls : Array Slot), X3_likeness_b57 z x4 x5 y0 = some RR → ZW D cA ad (ZA ad) (Zc z) s H locs → Zok z → InR x4 → InR x5 → InR y0 → lv_has ls 7 [(4, .int (i32 (x4))), (5, .int (i32 (x5)))] → W p l e R s m args below meth c H locs 0 0 (MQ below (YQi D cA ad RR.1 RR.2) args s 0 0 (ZA ad)) (F0 m 57 ls [.int (i32 (y0))]) := by
  intro z x4 x5 y0 H locs ls hF hw hzz hx4 hx5 hy0 hl
  unfold X3_likeness_b57 at hF
  refine lv_istore (lv' := [(6, .int (i32 (y0))), (4, .int (i32 (x4))), (5, .int (i32 (x5)))]) S.1 S.2.1 dX3_likeness_57 hl (by decide) rfl (fun ls hl => ?_)
  refine lv_iload S.1 S.2.1 dX3_likeness_59 (lv_at hl 1 rfl) ?_
  refine lv_iconst (v := i32 2) S.1 S.2.1 dX3_likeness_61 ic_2 ?_
  refine Yicmp_lt (tgt := 79) S hx4 r_2 dX3_likeness_62 (by decide) (fun c1_ => ?_) (fun c1_ => ?_)
  · replace hF := ZtP c1_ hF
    exact w_X3_likeness_b79 S hr hlk hR hdj _ _ _ _ _ hF hw hzz hx4 (lv_sub hl [1] rfl)
  · replace hF := ZtN c1_ hF
    refine lv_iload S.1 S.2.1 dX3_likeness_65 (lv_at hl 1 rfl) ?_
    refine lv_iload S.1 S.2.1 dX3_likeness_67 (lv_at hl 2 rfl) ?_
    refine Yicmp_ne (tgt := 79) S hx4 hx5 dX3_likeness_69 (by decide) (fun c2_ => ?_) (fun c2_ => ?_)
    · replace hF := ZtN c2_ hF
      exact w_X3_likeness_b79 S hr hlk hR hdj _ _ _ _ _ hF hw hzz hx4 (lv_sub hl [1] rfl)
    · replace hF := ZtP c2_ hF
      refine lv_iload S.1 S.2.1 dX3_likeness_72 (lv_at hl 0 rfl) ?_
      refine Yif_eq (tgt := 79) S hy0 dX3_likeness_74 (by decide) (fun c3_ => ?_) (fun c3_ => ?_)
      · replace hF := ZtP c3_ hF
        exact w_X3_likeness_b79 S hr hlk hR hdj _ _ _ _ _ hF hw hzz hx4 (lv_sub hl [1] rfl)
      · replace hF := ZtN c3_ hF
        refine lv_iconst (v := i32 2) S.1 S.2.1 dX3_likeness_77 ic_2 ?_
        exact Yireti S hw hzz r_2 hr hlk hF dX3_likeness_78
set_option maxRecDepth 100000 in
set_option maxHeartbeats 4000000 in
theorem c_X3_likeness {l : Launch} {D : va_G} {cA : Nat → ClassId} {ad : Nat → Nat} (hdj : Zdj ad) {z z1 : ZI} {x1 : Int} {x2 : Int} {x3 : Int} {r : Int} (hzz : Zok z) (hx1 : InR x1) (hx2 : InR x2) (hx3 : InR x3) (hF : F_X3_likeness z x1 x2 x3 = some (r, z1)) : YMi l D cA ad (4) yX3_likeness cX3_likeness 7 (some .int) [.ref (ad 11), .int (i32 x1), .int (i32 x2), .int (i32 x3)] z r z1 :=
  Zmet hdj (by decide) rfl (Nat.le_of_ble_eq_true rfl) (lv := [(0, .ref (ad 11)), (1, .int (i32 (x1))), (2, .int (i32 (x2))), (3, .int (i32 (x3)))]) rfl (fun p e s m args below meth c ls S hr hlk hw hl => by
    have hR : 4 ≤ (Zrm (4)).frames ∧ 60 * (4) ≤ (Zrm (4)).locals := ⟨Nat.le_refl _, Nat.le_refl _⟩
    unfold F_X3_likeness at hF
    revert hR
    generalize Zrm (4) = R
    intro hR
    refine lv_iload_n S.1 S.2.1 dX3_likeness_0 rfl (lv_at hl 1 rfl) ?_
    refine lv_iload_n S.1 S.2.1 dX3_likeness_1 rfl (lv_at hl 2 rfl) ?_
    refine Yicmp_ne (tgt := 7) S hx1 hx2 dX3_likeness_2 (by decide) (fun c1_ => ?_) (fun c1_ => ?_)
    · replace hF := ZtN c1_ hF
      refine lv_aload_n S.1 S.2.1 dX3_likeness_7 rfl (lv_at hl 0 rfl) ?_
      refine lv_iload_n S.1 S.2.1 dX3_likeness_8 rfl (lv_at hl 1 rfl) ?_
      refine lv_iload_n S.1 S.2.1 dX3_likeness_9 rfl (lv_at hl 2 rfl) ?_
      refine lv_iload_n S.1 S.2.1 dX3_likeness_10 rfl (lv_at hl 3 rfl) ?_
      obtain ⟨r4_, z2_, h3_, hF⟩ := Ybs hF
      refine YcallVi (rest := []) S hw (c_X3_pairUp hdj hzz hx1 hx2 hx3 h3_) my_X3_pairUp mi_X3_pairUp ml_X3_86 zd_11 zc_X3 rfl (Zrr hR (by decide)) ⟨Nat.zero_le _, Nat.zero_le _⟩ hl.1 rfl rfl (Nat.le_of_ble_eq_true rfl) dX3_likeness_11 (fun hrr4_ hzz2_ H locs hw => ?_)
      refine lv_istore (lv' := [(4, .int (i32 (r4_))), (0, .ref (ad 11)), (1, .int (i32 (x1))), (2, .int (i32 (x2))), (3, .int (i32 (x3)))]) S.1 S.2.1 dX3_likeness_14 hl (by decide) rfl (fun ls hl => ?_)
      refine lv_aload_n S.1 S.2.1 dX3_likeness_16 rfl (lv_at hl 1 rfl) ?_
      refine lv_iload_n S.1 S.2.1 dX3_likeness_17 rfl (lv_at hl 2 rfl) ?_
      refine lv_iload_n S.1 S.2.1 dX3_likeness_18 rfl (lv_at hl 4 rfl) ?_
      obtain ⟨r7_, z5_, h6_, hF⟩ := Ybs hF
      refine YcallVi (rest := []) S hw (c_X3_hereInHouse hdj hzz2_ hx1 hx3 h6_) my_X3_hereInHouse mi_X3_hereInHouse ml_X3_90 zd_11 zc_X3 rfl (Zrr hR (by decide)) ⟨Nat.zero_le _, Nat.zero_le _⟩ hl.1 rfl rfl (Nat.le_of_ble_eq_true rfl) dX3_likeness_19 (fun hrr7_ hzz5_ H locs hw => ?_)
      refine lv_aload_n S.1 S.2.1 dX3_likeness_22 rfl (lv_at hl 1 rfl) ?_
      refine lv_iload_n S.1 S.2.1 dX3_likeness_23 rfl (lv_at hl 3 rfl) ?_
      refine lv_iload_n S.1 S.2.1 dX3_likeness_24 rfl (lv_at hl 4 rfl) ?_
      obtain ⟨r10_, z8_, h9_, hF⟩ := Ybs hF
      refine YcallVi (rest := [.int (i32 (r7_))]) S hw (c_X3_hereInHouse hdj hzz5_ hx2 hx3 h9_) my_X3_hereInHouse mi_X3_hereInHouse ml_X3_90 zd_11 zc_X3 rfl (Zrr hR (by decide)) ⟨Nat.zero_le _, Nat.zero_le _⟩ hl.1 rfl rfl (Nat.le_of_ble_eq_true rfl) dX3_likeness_25 (fun hrr10_ hzz8_ H locs hw => ?_)
      refine Ymmin S hrr7_ hrr10_ hl ml_X3_93 (Zr1 hR (by decide)) (Zr2 hR (by decide) (Nat.le_of_ble_eq_true rfl)) ⟨Nat.zero_le _, Nat.zero_le _⟩ dX3_likeness_28 ?_
      refine lv_istore (lv' := [(5, .int (i32 (min r7_ r10_))), (4, .int (i32 (r4_))), (0, .ref (ad 11)), (1, .int (i32 (x1))), (2, .int (i32 (x2))), (3, .int (i32 (x3)))]) S.1 S.2.1 dX3_likeness_31 hl (by decide) rfl (fun ls hl => ?_)
      refine lv_aload_n S.1 S.2.1 dX3_likeness_33 rfl (lv_at hl 2 rfl) ?_
      refine gf_X3_9 S hw dX3_likeness_34 ?_
      refine lv_iload_n S.1 S.2.1 dX3_likeness_37 rfl (lv_at hl 3 rfl) ?_
      obtain ⟨b11_, hF⟩ := Zgs hF
      refine Yiald S hw zd_12 (by decide) hx1 b11_ dX3_likeness_38 ?_
      refine lv_aload_n S.1 S.2.1 dX3_likeness_39 rfl (lv_at hl 2 rfl) ?_
      refine gf_X3_9 S hw dX3_likeness_40 ?_
      refine lv_iload_n S.1 S.2.1 dX3_likeness_43 rfl (lv_at hl 4 rfl) ?_
      obtain ⟨b12_, hF⟩ := Zgs hF
      refine Yiald S hw zd_12 (by decide) hx2 b12_ dX3_likeness_44 ?_
      obtain ⟨r15_, z13_, h14_, hF⟩ := Ybs hF
      refine YcallSi (rest := []) S hw (c_X4_apart hdj hzz8_ (hzz8_.1 _ _ (by decide)) (hzz8_.1 _ _ (by decide)) h14_) my_X4_apart ms_X4_apart ml_X3_96 (Zrr hR (by decide)) ⟨Nat.zero_le _, Nat.zero_le _⟩ hl.1 rfl rfl (Nat.le_of_ble_eq_true rfl) dX3_likeness_45 (fun hrr15_ hzz13_ H locs hw => ?_)
      refine lv_iconst (v := i32 3) S.1 S.2.1 dX3_likeness_48 ic_3 ?_
      refine Yicmp_gt (tgt := 56) S hrr15_ r_3 dX3_likeness_49 (by decide) (fun c16_ => ?_) (fun c16_ => ?_)
      · replace hF := ZtP c16_ hF
        refine lv_iconst (v := i32 0) S.1 S.2.1 dX3_likeness_56 ic_0 ?_
        exact w_X3_likeness_b57 S hr hlk hR hdj _ _ _ _ _ _ _ hF hw hzz13_ hrr4_ (InR_min hrr7_ hrr10_) r_0 (lv_sub hl [1, 0] rfl)
      · replace hF := ZtN c16_ hF
        refine lv_iconst (v := i32 1) S.1 S.2.1 dX3_likeness_52 ic_1 ?_
        refine lv_goto (tgt := 57) S.1 S.2.1 dX3_likeness_53 (by decide) ?_
        exact w_X3_likeness_b57 S hr hlk hR hdj _ _ _ _ _ _ _ hF hw hzz13_ hrr4_ (InR_min hrr7_ hrr10_) r_1 (lv_sub hl [1, 0] rfl)
    · replace hF := ZtP c1_ hF
      refine lv_iconst (v := i32 2) S.1 S.2.1 dX3_likeness_5 ic_2 ?_
      exact Yireti S hw hzz r_2 hr hlk hF dX3_likeness_6)
set_option maxRecDepth 100000 in
set_option maxHeartbeats 4000000 in
theorem c_X10_alike {l : Launch} {D : va_G} {cA : Nat → ClassId} {ad : Nat → Nat} (hdj : Zdj ad) {z z1 : ZI} {x1 : Int} {x2 : Int} {r : Int} (hzz : Zok z) (hx1 : InR x1) (hx2 : InR x2) (hF : F_X10_alike z x1 x2 = some (r, z1)) : YMi l D cA ad (5) yX10_alike cX10_alike 4 (some .int) [.ref (ad 0), .int (i32 x1), .int (i32 x2)] z r z1 :=
  Zmet hdj (by decide) rfl (Nat.le_of_ble_eq_true rfl) (lv := [(0, .ref (ad 0)), (1, .int (i32 (x1))), (2, .int (i32 (x2)))]) rfl (fun p e s m args below meth c ls S hr hlk hw hl => by
    have hR : 5 ≤ (Zrm (5)).frames ∧ 60 * (5) ≤ (Zrm (5)).locals := ⟨Nat.le_refl _, Nat.le_refl _⟩
    unfold F_X10_alike at hF
    revert hR
    generalize Zrm (5) = R
    intro hR
    refine lv_aload_n S.1 S.2.1 dX10_alike_0 rfl (lv_at hl 0 rfl) ?_
    refine lv_iload_n S.1 S.2.1 dX10_alike_1 rfl (lv_at hl 1 rfl) ?_
    refine lv_iload_n S.1 S.2.1 dX10_alike_2 rfl (lv_at hl 2 rfl) ?_
    obtain ⟨r3_, z1_, h2_, hF⟩ := Ybs hF
    refine YcallVi (rest := []) S hw (c_X10_checkTwoCards hdj hzz hx1 hx2 h2_) my_X10_checkTwoCards mi_X10_checkTwoCards ml_X10_205 zd_0 zc_X10 rfl (Zrr hR (by decide)) ⟨Nat.zero_le _, Nat.zero_le _⟩ hl.1 rfl rfl (Nat.le_of_ble_eq_true rfl) dX10_alike_3 (fun hrr3_ hzz1_ H locs hw => ?_)
    refine lv_istore_n (lv' := [(3, .int (i32 (r3_))), (0, .ref (ad 0)), (1, .int (i32 (x1))), (2, .int (i32 (x2)))]) S.1 S.2.1 dX10_alike_6 rfl hl (by decide) rfl (fun ls hl => ?_)
    refine lv_iload_n S.1 S.2.1 dX10_alike_7 rfl (lv_at hl 0 rfl) ?_
    refine Yif_eq (tgt := 17) S hrr3_ dX10_alike_8 (by decide) (fun c4_ => ?_) (fun c4_ => ?_)
    · replace hF := ZtP c4_ hF
      refine lv_aload_n S.1 S.2.1 dX10_alike_17 rfl (lv_at hl 1 rfl) ?_
      refine gf_X10_27 S hw dX10_alike_18 ?_
      refine lv_aload_n S.1 S.2.1 dX10_alike_21 rfl (lv_at hl 1 rfl) ?_
      refine gf_X10_41 S hw dX10_alike_22 ?_
      refine lv_iload_n S.1 S.2.1 dX10_alike_25 rfl (lv_at hl 2 rfl) ?_
      obtain ⟨r7_, z5_, h6_, hF⟩ := Ybs hF
      refine YcallVi (rest := [.ref (ad 11)]) S hw (c_X0_houseOf hdj hzz1_ hx1 h6_) my_X0_houseOf mi_X0_houseOf ml_X10_174 zd_33 zc_X0 rfl (Zrr hR (by decide)) ⟨Nat.zero_le _, Nat.zero_le _⟩ hl.1 rfl rfl (Nat.le_of_ble_eq_true rfl) dX10_alike_26 (fun hrr7_ hzz5_ H locs hw => ?_)
      refine lv_aload_n S.1 S.2.1 dX10_alike_29 rfl (lv_at hl 1 rfl) ?_
      refine gf_X10_41 S hw dX10_alike_30 ?_
      refine lv_iload_n S.1 S.2.1 dX10_alike_33 rfl (lv_at hl 3 rfl) ?_
      obtain ⟨r10_, z8_, h9_, hF⟩ := Ybs hF
      refine YcallVi (rest := [.int (i32 (r7_)), .ref (ad 11)]) S hw (c_X0_houseOf hdj hzz5_ hx2 h9_) my_X0_houseOf mi_X0_houseOf ml_X10_174 zd_33 zc_X0 rfl (Zrr hR (by decide)) ⟨Nat.zero_le _, Nat.zero_le _⟩ hl.1 rfl rfl (Nat.le_of_ble_eq_true rfl) dX10_alike_34 (fun hrr10_ hzz8_ H locs hw => ?_)
      refine lv_aload_n S.1 S.2.1 dX10_alike_37 rfl (lv_at hl 1 rfl) ?_
      refine gg_X10_7 S hw dX10_alike_38 ?_
      obtain ⟨r13_, z11_, h12_, hF⟩ := Ybs hF
      refine YcallVi (rest := []) S hw (c_X3_likeness hdj hzz8_ hrr7_ hrr10_ (hzz8_.1 0 0 (by decide)) h12_) my_X3_likeness mi_X3_likeness ml_X10_211 zd_11 zc_X3 rfl (Zrr hR (by decide)) ⟨Nat.zero_le _, Nat.zero_le _⟩ hl.1 rfl rfl (Nat.le_of_ble_eq_true rfl) dX10_alike_41 (fun hrr13_ hzz11_ H locs hw => ?_)
      exact Yireti S hw hzz11_ hrr13_ hr hlk hF dX10_alike_44
    · replace hF := ZtN c4_ hF
      refine lv_aload_n S.1 S.2.1 dX10_alike_11 rfl (lv_at hl 1 rfl) ?_
      refine lv_iload_n S.1 S.2.1 dX10_alike_12 rfl (lv_at hl 0 rfl) ?_
      obtain ⟨r16_, z14_, h15_, hF⟩ := Ybs hF
      refine YcallVi (rest := []) S hw (c_X10_refuse hdj hzz1_ hrr3_ h15_) my_X10_refuse mi_X10_refuse ml_X10_81 zd_0 zc_X10 rfl (Zrr hR (by decide)) ⟨Nat.zero_le _, Nat.zero_le _⟩ hl.1 rfl rfl (Nat.le_of_ble_eq_true rfl) dX10_alike_13 (fun hrr16_ hzz14_ H locs hw => ?_)
      exact Yireti S hw hzz14_ hrr16_ hr hlk hF dX10_alike_16)
set_option maxRecDepth 100000 in
set_option maxHeartbeats 4000000 in
theorem c_X9_shiftOf {l : Launch} {D : va_G} {cA : Nat → ClassId} {ad : Nat → Nat} (hdj : Zdj ad) {z z1 : ZI} {x0 : Int} {r : Int} (hzz : Zok z) (hx0 : InR x0) (hF : F_X9_shiftOf z x0 = some (r, z1)) : YMi l D cA ad (0) yX9_shiftOf cX9_shiftOf 1 (some .int) [.int (i32 x0)] z r z1 :=
  Zmet hdj (by decide) rfl (Nat.le_of_ble_eq_true rfl) (lv := [(0, .int (i32 (x0)))]) rfl (fun p e s m args below meth c ls S hr hlk hw hl => by
    have hR : 0 ≤ (Zrm (0)).frames ∧ 60 * (0) ≤ (Zrm (0)).locals := ⟨Nat.le_refl _, Nat.le_refl _⟩
    unfold F_X9_shiftOf at hF
    revert hR
    generalize Zrm (0) = R
    intro hR
    refine lv_iconst (v := i32 3) S.1 S.2.1 dX9_shiftOf_0 ic_3 ?_
    refine lv_iconst (v := i32 3) S.1 S.2.1 dX9_shiftOf_1 ic_3 ?_
    refine lv_iload_n S.1 S.2.1 dX9_shiftOf_2 rfl (lv_at hl 0 rfl) ?_
    obtain ⟨g1_, hF⟩ := Zgs hF
    refine Yisub S dX9_shiftOf_3 ?_
    obtain ⟨g2_, hF⟩ := Zgs hF
    refine Yimul S dX9_shiftOf_4 ?_
    exact Yireti S hw hzz g2_ hr hlk hF dX9_shiftOf_5)
set_option maxRecDepth 100000 in
set_option maxHeartbeats 4000000 in
theorem c_X9_beginIn {l : Launch} {D : va_G} {cA : Nat → ClassId} {ad : Nat → Nat} (hdj : Zdj ad) {z z1 : ZI} {x0 : Int} {x1 : Int} {r : Int} (hzz : Zok z) (hx0 : InR x0) (hx1 : InR x1) (hF : F_X9_beginIn z x0 x1 = some (r, z1)) : YMi l D cA ad (1) yX9_beginIn cX9_beginIn 2 (some .int) [.int (i32 x0), .int (i32 x1)] z r z1 :=
  Zmet hdj (by decide) rfl (Nat.le_of_ble_eq_true rfl) (lv := [(0, .int (i32 (x0))), (1, .int (i32 (x1)))]) rfl (fun p e s m args below meth c ls S hr hlk hw hl => by
    have hR : 1 ≤ (Zrm (1)).frames ∧ 60 * (1) ≤ (Zrm (1)).locals := ⟨Nat.le_refl _, Nat.le_refl _⟩
    unfold F_X9_beginIn at hF
    revert hR
    generalize Zrm (1) = R
    intro hR
    refine lv_bipush (v := i32 6) S.1 S.2.1 dX9_beginIn_0 bp_6 ?_
    refine lv_iload_n S.1 S.2.1 dX9_beginIn_2 rfl (lv_at hl 0 rfl) ?_
    refine lv_iload_n S.1 S.2.1 dX9_beginIn_3 rfl (lv_at hl 1 rfl) ?_
    obtain ⟨r3_, z1_, h2_, hF⟩ := Ybs hF
    refine YcallSi (rest := [.int (i32 (x0)), .int (i32 (6))]) S hw (c_X9_shiftOf hdj hzz hx1 h2_) my_X9_shiftOf ms_X9_shiftOf ml_X9_121 (Zrr hR (by decide)) ⟨Nat.zero_le _, Nat.zero_le _⟩ hl.1 rfl rfl (Nat.le_of_ble_eq_true rfl) dX9_beginIn_4 (fun hrr3_ hzz1_ H locs hw => ?_)
    refine Yishr S dX9_beginIn_7 ?_
    refine lv_bipush (v := i32 7) S.1 S.2.1 dX9_beginIn_8 bp_7 ?_
    refine Yiand S dX9_beginIn_10 ?_
    obtain ⟨g4_, hF⟩ := Zgs hF
    refine Yiadd S dX9_beginIn_11 ?_
    exact Yireti S hw hzz1_ g4_ hr hlk hF dX9_beginIn_12)
set_option maxRecDepth 100000 in
set_option maxHeartbeats 4000000 in
theorem c_X9_bestBegin {l : Launch} {D : va_G} {cA : Nat → ClassId} {ad : Nat → Nat} (hdj : Zdj ad) {z z1 : ZI} {x1 : Int} {r : Int} (hzz : Zok z) (hx1 : InR x1) (hF : F_X9_bestBegin z x1 = some (r, z1)) : YMi l D cA ad (2) yX9_bestBegin cX9_bestBegin 2 (some .int) [.ref (ad 41), .int (i32 x1)] z r z1 :=
  Zmet hdj (by decide) rfl (Nat.le_of_ble_eq_true rfl) (lv := [(0, .ref (ad 41)), (1, .int (i32 (x1)))]) rfl (fun p e s m args below meth c ls S hr hlk hw hl => by
    have hR : 2 ≤ (Zrm (2)).frames ∧ 60 * (2) ≤ (Zrm (2)).locals := ⟨Nat.le_refl _, Nat.le_refl _⟩
    unfold F_X9_bestBegin at hF
    revert hR
    generalize Zrm (2) = R
    intro hR
    refine lv_aload_n S.1 S.2.1 dX9_bestBegin_0 rfl (lv_at hl 0 rfl) ?_
    refine gg_X9_118 S hw dX9_bestBegin_1 ?_
    refine lv_iload_n S.1 S.2.1 dX9_bestBegin_4 rfl (lv_at hl 1 rfl) ?_
    obtain ⟨r3_, z1_, h2_, hF⟩ := Ybs hF
    refine YcallSi (rest := []) S hw (c_X9_beginIn hdj hzz (hzz.1 41 15 (by decide)) hx1 h2_) my_X9_beginIn ms_X9_beginIn ml_X9_124 (Zrr hR (by decide)) ⟨Nat.zero_le _, Nat.zero_le _⟩ hl.1 rfl rfl (Nat.le_of_ble_eq_true rfl) dX9_bestBegin_5 (fun hrr3_ hzz1_ H locs hw => ?_)
    exact Yireti S hw hzz1_ hrr3_ hr hlk hF dX9_bestBegin_8)
set_option maxRecDepth 100000 in
set_option maxHeartbeats 4000000 in
theorem w_X9_bestSum_b29 {RR : Int × ZI} (S : CallFix p m c cX9_bestSum 1 s args Ztbl RX9) (hr : meth.sig.returnType = some .int) (hlk : meth.locks = false) (hR : 0 ≤ R.frames ∧ 60 * (0) ≤ R.locals) (hdj : Zdj ad) : ∀ (z : ZI) (y0 : Int) (H : Heap) (locs : List Loc) (ls : Array Slot), X9_bestSum_b29 z y0 = some RR → ZW D cA ad (ZA ad) (Zc z) s H locs → Zok z → InR y0 → lv_has ls 1 [] → W p l e R s m args below meth c H locs 0 0 (MQ below (YQi D cA ad RR.1 RR.2) args s 0 0 (ZA ad)) (F0 m 29 ls [.int (i32 (y0))]) := by
  intro z y0 H locs ls hF hw hzz hy0 hl
  unfold X9_bestSum_b29 at hF
  exact Yireti S hw hzz hy0 hr hlk hF dX9_bestSum_29
set_option maxRecDepth 100000 in
set_option maxHeartbeats 4000000 in
theorem c_X9_bestSum {l : Launch} {D : va_G} {cA : Nat → ClassId} {ad : Nat → Nat} (hdj : Zdj ad) {z z1 : ZI} {r : Int} (hzz : Zok z) (hF : F_X9_bestSum z  = some (r, z1)) : YMi l D cA ad (0) yX9_bestSum cX9_bestSum 1 (some .int) [.ref (ad 41)] z r z1 :=
  Zmet hdj (by decide) rfl (Nat.le_of_ble_eq_true rfl) (lv := [(0, .ref (ad 41))]) rfl (fun p e s m args below meth c ls S hr hlk hw hl => by
    have hR : 0 ≤ (Zrm (0)).frames ∧ 60 * (0) ≤ (Zrm (0)).locals := ⟨Nat.le_refl _, Nat.le_refl _⟩
    unfold F_X9_bestSum at hF
    revert hR
    generalize Zrm (0) = R
    intro hR
    refine lv_aload_n S.1 S.2.1 dX9_bestSum_0 rfl (lv_at hl 0 rfl) ?_
    refine gg_X9_118 S hw dX9_bestSum_1 ?_
    refine lv_aload_n S.1 S.2.1 dX9_bestSum_4 rfl (lv_at hl 0 rfl) ?_
    refine gf_X9_48 S hw dX9_bestSum_5 ?_
    obtain ⟨b1_, hF⟩ := Zgs hF
    refine Yalen4 S hw hzz zd_52 (by decide) b1_ dX9_bestSum_8 ?_
    refine Yicmp_ge (tgt := 28) S (hzz.1 41 15 (by decide)) (hzz.1 _ _ (by decide)) dX9_bestSum_9 (by decide) (fun c2_ => ?_) (fun c2_ => ?_)
    · replace hF := ZtP c2_ hF
      refine lv_iconst (v := i32 0) S.1 S.2.1 dX9_bestSum_28 ic_0 ?_
      exact w_X9_bestSum_b29 S hr hlk hR hdj _ _ _ _ _ hF hw hzz r_0 (lv_sub hl [] rfl)
    · replace hF := ZtN c2_ hF
      refine lv_aload_n S.1 S.2.1 dX9_bestSum_12 rfl (lv_at hl 0 rfl) ?_
      refine gf_X9_48 S hw dX9_bestSum_13 ?_
      refine lv_aload_n S.1 S.2.1 dX9_bestSum_16 rfl (lv_at hl 0 rfl) ?_
      refine gg_X9_118 S hw dX9_bestSum_17 ?_
      obtain ⟨b3_, hF⟩ := Zgs hF
      refine Yiald4 S hw hzz zd_52 (by decide) (hzz.1 41 15 (by decide)) b3_ dX9_bestSum_20 ?_
      refine lv_sipush (v := i32 1000) S.1 S.2.1 dX9_bestSum_21 sp_1000 ?_
      refine Yirem S (hzz.1 _ _ (by decide)) r_1000 (by decide) dX9_bestSum_24 ?_
      refine lv_goto (tgt := 29) S.1 S.2.1 dX9_bestSum_25 (by decide) ?_
      exact w_X9_bestSum_b29 S hr hlk hR hdj _ _ _ _ _ hF hw hzz (InR_tmod (hzz.1 _ _ (by decide))) (lv_sub hl [] rfl))
set_option maxRecDepth 100000 in
set_option maxHeartbeats 4000000 in
theorem w_X9_bestUnserved_b29 {RR : Int × ZI} (S : CallFix p m c cX9_bestUnserved 1 s args Ztbl RX9) (hr : meth.sig.returnType = some .int) (hlk : meth.locks = false) (hR : 0 ≤ R.frames ∧ 60 * (0) ≤ R.locals) (hdj : Zdj ad) : ∀ (z : ZI) (y0 : Int) (H : Heap) (locs : List Loc) (ls : Array Slot), X9_bestUnserved_b29 z y0 = some RR → ZW D cA ad (ZA ad) (Zc z) s H locs → Zok z → InR y0 → lv_has ls 1 [] → W p l e R s m args below meth c H locs 0 0 (MQ below (YQi D cA ad RR.1 RR.2) args s 0 0 (ZA ad)) (F0 m 29 ls [.int (i32 (y0))]) := by
  intro z y0 H locs ls hF hw hzz hy0 hl
  unfold X9_bestUnserved_b29 at hF
  exact Yireti S hw hzz hy0 hr hlk hF dX9_bestUnserved_29
set_option maxRecDepth 100000 in
set_option maxHeartbeats 4000000 in
theorem c_X9_bestUnserved {l : Launch} {D : va_G} {cA : Nat → ClassId} {ad : Nat → Nat} (hdj : Zdj ad) {z z1 : ZI} {r : Int} (hzz : Zok z) (hF : F_X9_bestUnserved z  = some (r, z1)) : YMi l D cA ad (0) yX9_bestUnserved cX9_bestUnserved 1 (some .int) [.ref (ad 41)] z r z1 :=
  Zmet hdj (by decide) rfl (Nat.le_of_ble_eq_true rfl) (lv := [(0, .ref (ad 41))]) rfl (fun p e s m args below meth c ls S hr hlk hw hl => by
    have hR : 0 ≤ (Zrm (0)).frames ∧ 60 * (0) ≤ (Zrm (0)).locals := ⟨Nat.le_refl _, Nat.le_refl _⟩
    unfold F_X9_bestUnserved at hF
    revert hR
    generalize Zrm (0) = R
    intro hR
    refine lv_aload_n S.1 S.2.1 dX9_bestUnserved_0 rfl (lv_at hl 0 rfl) ?_
    refine gg_X9_118 S hw dX9_bestUnserved_1 ?_
    refine lv_aload_n S.1 S.2.1 dX9_bestUnserved_4 rfl (lv_at hl 0 rfl) ?_
    refine gf_X9_48 S hw dX9_bestUnserved_5 ?_
    obtain ⟨b1_, hF⟩ := Zgs hF
    refine Yalen4 S hw hzz zd_52 (by decide) b1_ dX9_bestUnserved_8 ?_
    refine Yicmp_ge (tgt := 28) S (hzz.1 41 15 (by decide)) (hzz.1 _ _ (by decide)) dX9_bestUnserved_9 (by decide) (fun c2_ => ?_) (fun c2_ => ?_)
    · replace hF := ZtP c2_ hF
      refine lv_iconst (v := i32 0) S.1 S.2.1 dX9_bestUnserved_28 ic_0 ?_
      exact w_X9_bestUnserved_b29 S hr hlk hR hdj _ _ _ _ _ hF hw hzz r_0 (lv_sub hl [] rfl)
    · replace hF := ZtN c2_ hF
      refine lv_aload_n S.1 S.2.1 dX9_bestUnserved_12 rfl (lv_at hl 0 rfl) ?_
      refine gf_X9_48 S hw dX9_bestUnserved_13 ?_
      refine lv_aload_n S.1 S.2.1 dX9_bestUnserved_16 rfl (lv_at hl 0 rfl) ?_
      refine gg_X9_118 S hw dX9_bestUnserved_17 ?_
      obtain ⟨b3_, hF⟩ := Zgs hF
      refine Yiald4 S hw hzz zd_52 (by decide) (hzz.1 41 15 (by decide)) b3_ dX9_bestUnserved_20 ?_
      refine lv_sipush (v := i32 1000) S.1 S.2.1 dX9_bestUnserved_21 sp_1000 ?_
      refine Yidiv S (hzz.1 _ _ (by decide)) r_1000 (by decide) dX9_bestUnserved_24 ?_
      refine lv_goto (tgt := 29) S.1 S.2.1 dX9_bestUnserved_25 (by decide) ?_
      exact w_X9_bestUnserved_b29 S hr hlk hR hdj _ _ _ _ _ hF hw hzz (InR_tdiv (hzz.1 _ _ (by decide)) (by decide)) (lv_sub hl [] rfl))
set_option maxRecDepth 100000 in
set_option maxHeartbeats 4000000 in
theorem w_J7_fill_53178_L5 {a0 n0 : Nat} (ha0 : ZDS[a0]? = some (.inr (0, n0))) (na0 : a0 < 1000) (bn0 : InR (n0 : Int)) {RR : Unit × ZI} (S : CallFix p m c cJ7_fill_53178 4 s args Ztbl RJ7) (hr : meth.sig.returnType = none) (hlk : meth.locks = false) (hR : 0 ≤ R.frames ∧ 60 * (0) ≤ R.locals) (hdj : Zdj ad) : ∀ (n : Nat) (z : ZI) (x1 : Int) (x2 : Int) (x3 : Int) (H : Heap) (locs : List Loc) (ls : Array Slot), J7_fill_53178_L5 a0 n0 n z x1 x2 x3 = some RR → ZW D cA ad (ZA ad) (Zc z) s H locs → Zok z → InR x1 → InR x2 → InR x3 → lv_has ls 4 [(0, .ref (ad a0)), (1, .int (i32 (x1))), (2, .int (i32 (x2))), (3, .int (i32 (x3)))] → W p l e R s m args below meth c H locs 0 0 (MQ below (YQv D cA ad RR.2) args s 0 0 (ZA ad)) (F0 m 5 ls []) := by
  intro n
  induction n with
  | zero => intro z x1 x2 x3 H locs ls hF; exact nomatch hF
  | succ n hk5 =>
    intro z x1 x2 x3 H locs ls hF hw hzz hx1 hx2 hx3 hl
    replace hF : J7_fill_53178_L5b a0 n0 (J7_fill_53178_L5 a0 n0 n) z x1 x2 x3 = some RR := hF
    unfold J7_fill_53178_L5b at hF
    refine lv_iload_n S.1 S.2.1 dJ7_fill_53178_5 rfl (lv_at hl 2 rfl) ?_
    refine lv_iload_n S.1 S.2.1 dJ7_fill_53178_6 rfl (lv_at hl 3 rfl) ?_
    refine Yicmp_ge (tgt := 20) S hx2 hx3 dJ7_fill_53178_7 (by decide) (fun c1_ => ?_) (fun c1_ => ?_)
    · replace hF := ZtP c1_ hF
      exact Yvret S hw hzz hr hlk hF dJ7_fill_53178_20
    · replace hF := ZtN c1_ hF
      refine lv_aload_n S.1 S.2.1 dJ7_fill_53178_10 rfl (lv_at hl 0 rfl) ?_
      refine lv_iload_n S.1 S.2.1 dJ7_fill_53178_11 rfl (lv_at hl 2 rfl) ?_
      refine lv_iload_n S.1 S.2.1 dJ7_fill_53178_12 rfl (lv_at hl 1 rfl) ?_
      obtain ⟨b2_, hF⟩ := Zgs hF
      refine Yiast S hw hzz ha0 na0 hx2 hx1 b2_ dJ7_fill_53178_13 (fun z3_ H locs ez hzz3_ hw => ?_)
      replace hF := Zle ez hF; clear ez
      obtain ⟨g4_, hF⟩ := Zgs hF
      refine lv_iinc (v := i32 (x2 + 1)) (lv' := [(2, .int (i32 (x2 + 1))), (0, .ref (ad a0)), (1, .int (i32 (x1))), (3, .int (i32 (x3)))]) S.1 S.2.1 dJ7_fill_53178_14 hl (k := 2) rfl Yiinc (by decide) rfl (fun ls hl => ?_)
      refine lv_goto (tgt := 5) S.1 S.2.1 dJ7_fill_53178_17 (by decide) ?_
      exact hk5 _ _ _ _ _ _ _ hF hw hzz3_ hx1 g4_ hx3 (lv_sub hl [1, 2, 0, 3] rfl)
set_option maxRecDepth 100000 in
set_option maxHeartbeats 4000000 in
theorem c_J7_fill_53178 {l : Launch} {D : va_G} {cA : Nat → ClassId} {ad : Nat → Nat} (hdj : Zdj ad) {a0 n0 : Nat} (ha0 : ZDS[a0]? = some (.inr (0, n0))) (na0 : a0 < 1000) (bn0 : InR (n0 : Int)) {z z1 : ZI} {x1 : Int} (hzz : Zok z) (hx1 : InR x1) (hF : F_J7_fill_53178 a0 n0 z x1 = some ((), z1)) : YMv l D cA ad (0) yJ7_fill_53178 cJ7_fill_53178 4 [.ref (ad a0), .int (i32 x1)] z z1 :=
  Zmet hdj (by decide) rfl (Nat.le_of_ble_eq_true rfl) (lv := [(0, .ref (ad a0)), (1, .int (i32 (x1)))]) rfl (fun p e s m args below meth c ls S hr hlk hw hl => by
    have hR : 0 ≤ (Zrm (0)).frames ∧ 60 * (0) ≤ (Zrm (0)).locals := ⟨Nat.le_refl _, Nat.le_refl _⟩
    unfold F_J7_fill_53178 at hF
    revert hR
    generalize Zrm (0) = R
    intro hR
    refine lv_iconst (v := i32 0) S.1 S.2.1 dJ7_fill_53178_0 ic_0 ?_
    refine lv_istore_n (lv' := [(2, .int (i32 (0))), (0, .ref (ad a0)), (1, .int (i32 (x1)))]) S.1 S.2.1 dJ7_fill_53178_1 rfl hl (by decide) rfl (fun ls hl => ?_)
    refine lv_aload_n S.1 S.2.1 dJ7_fill_53178_2 rfl (lv_at hl 1 rfl) ?_
    refine Yalen S hw ha0 dJ7_fill_53178_3 ?_
    refine lv_istore_n (lv' := [(3, .int (i32 ((n0 : Int)))), (2, .int (i32 (0))), (0, .ref (ad a0)), (1, .int (i32 (x1)))]) S.1 S.2.1 dJ7_fill_53178_4 rfl hl (by decide) rfl (fun ls hl => ?_)
    exact w_J7_fill_53178_L5 ha0 na0 bn0 S hr hlk hR hdj Zfuel _ _ _ _ _ _ _ hF hw hzz hx1 r_0 bn0 (lv_sub hl [2, 3, 1, 0] rfl))
set_option maxRecDepth 100000 in
set_option maxHeartbeats 4000000 in
theorem w_J7_fill_531784_L5 {a0 n0 : Nat} (ha0 : ZDS[a0]? = some (.inr (4, n0))) (na0 : a0 < 1000) (bn0 : InR (n0 : Int)) {RR : Unit × ZI} (S : CallFix p m c cJ7_fill_53178 4 s args Ztbl RJ7) (hr : meth.sig.returnType = none) (hlk : meth.locks = false) (hR : 0 ≤ R.frames ∧ 60 * (0) ≤ R.locals) (hdj : Zdj ad) : ∀ (n : Nat) (z : ZI) (x1 : Int) (x2 : Int) (x3 : Int) (H : Heap) (locs : List Loc) (ls : Array Slot), J7_fill_531784_L5 a0 n0 n z x1 x2 x3 = some RR → ZW D cA ad (ZA ad) (Zc z) s H locs → Zok z → InR x1 → InR x2 → InR x3 → lv_has ls 4 [(0, .ref (ad a0)), (1, .int (i32 (x1))), (2, .int (i32 (x2))), (3, .int (i32 (x3)))] → W p l e R s m args below meth c H locs 0 0 (MQ below (YQv D cA ad RR.2) args s 0 0 (ZA ad)) (F0 m 5 ls []) := by
  intro n
  induction n with
  | zero => intro z x1 x2 x3 H locs ls hF; exact nomatch hF
  | succ n hk5 =>
    intro z x1 x2 x3 H locs ls hF hw hzz hx1 hx2 hx3 hl
    replace hF : J7_fill_531784_L5b a0 n0 (J7_fill_531784_L5 a0 n0 n) z x1 x2 x3 = some RR := hF
    unfold J7_fill_531784_L5b at hF
    refine lv_iload_n S.1 S.2.1 dJ7_fill_53178_5 rfl (lv_at hl 2 rfl) ?_
    refine lv_iload_n S.1 S.2.1 dJ7_fill_53178_6 rfl (lv_at hl 3 rfl) ?_
    refine Yicmp_ge (tgt := 20) S hx2 hx3 dJ7_fill_53178_7 (by decide) (fun c1_ => ?_) (fun c1_ => ?_)
    · replace hF := ZtP c1_ hF
      exact Yvret S hw hzz hr hlk hF dJ7_fill_53178_20
    · replace hF := ZtN c1_ hF
      refine lv_aload_n S.1 S.2.1 dJ7_fill_53178_10 rfl (lv_at hl 0 rfl) ?_
      refine lv_iload_n S.1 S.2.1 dJ7_fill_53178_11 rfl (lv_at hl 2 rfl) ?_
      refine lv_iload_n S.1 S.2.1 dJ7_fill_53178_12 rfl (lv_at hl 1 rfl) ?_
      obtain ⟨b2_, hF⟩ := Zgs hF
      refine Yiast4 S hw hzz ha0 na0 hx2 hx1 b2_ dJ7_fill_53178_13 (fun z3_ H locs ez hzz3_ hw => ?_)
      replace hF := Zle ez hF; clear ez
      obtain ⟨g4_, hF⟩ := Zgs hF
      refine lv_iinc (v := i32 (x2 + 1)) (lv' := [(2, .int (i32 (x2 + 1))), (0, .ref (ad a0)), (1, .int (i32 (x1))), (3, .int (i32 (x3)))]) S.1 S.2.1 dJ7_fill_53178_14 hl (k := 2) rfl Yiinc (by decide) rfl (fun ls hl => ?_)
      refine lv_goto (tgt := 5) S.1 S.2.1 dJ7_fill_53178_17 (by decide) ?_
      exact hk5 _ _ _ _ _ _ _ hF hw hzz3_ hx1 g4_ hx3 (lv_sub hl [1, 2, 0, 3] rfl)
set_option maxRecDepth 100000 in
set_option maxHeartbeats 4000000 in
theorem c_J7_fill_531784 {l : Launch} {D : va_G} {cA : Nat → ClassId} {ad : Nat → Nat} (hdj : Zdj ad) {a0 n0 : Nat} (ha0 : ZDS[a0]? = some (.inr (4, n0))) (na0 : a0 < 1000) (bn0 : InR (n0 : Int)) {z z1 : ZI} {x1 : Int} (hzz : Zok z) (hx1 : InR x1) (hF : F_J7_fill_531784 a0 n0 z x1 = some ((), z1)) : YMv l D cA ad (0) yJ7_fill_53178 cJ7_fill_53178 4 [.ref (ad a0), .int (i32 x1)] z z1 :=
  Zmet hdj (by decide) rfl (Nat.le_of_ble_eq_true rfl) (lv := [(0, .ref (ad a0)), (1, .int (i32 (x1)))]) rfl (fun p e s m args below meth c ls S hr hlk hw hl => by
    have hR : 0 ≤ (Zrm (0)).frames ∧ 60 * (0) ≤ (Zrm (0)).locals := ⟨Nat.le_refl _, Nat.le_refl _⟩
    unfold F_J7_fill_531784 at hF
    revert hR
    generalize Zrm (0) = R
    intro hR
    refine lv_iconst (v := i32 0) S.1 S.2.1 dJ7_fill_53178_0 ic_0 ?_
    refine lv_istore_n (lv' := [(2, .int (i32 (0))), (0, .ref (ad a0)), (1, .int (i32 (x1)))]) S.1 S.2.1 dJ7_fill_53178_1 rfl hl (by decide) rfl (fun ls hl => ?_)
    refine lv_aload_n S.1 S.2.1 dJ7_fill_53178_2 rfl (lv_at hl 1 rfl) ?_
    obtain ⟨b1_, hF⟩ := Zgs hF
    refine Yalen4 S hw hzz ha0 na0 b1_ dJ7_fill_53178_3 ?_
    refine lv_istore_n (lv' := [(3, .int (i32 (z 200 a0))), (2, .int (i32 (0))), (0, .ref (ad a0)), (1, .int (i32 (x1)))]) S.1 S.2.1 dJ7_fill_53178_4 rfl hl (by decide) rfl (fun ls hl => ?_)
    exact w_J7_fill_531784_L5 ha0 na0 bn0 S hr hlk hR hdj Zfuel _ _ _ _ _ _ _ hF hw hzz hx1 r_0 (hzz.1 _ _ (by decide)) (lv_sub hl [2, 3, 1, 0] rfl))
set_option maxRecDepth 100000 in
set_option maxHeartbeats 4000000 in
theorem w_X9_earliest_b30 {a0 n0 : Nat} (ha0 : ZDS[a0]? = some (.inr (0, n0))) (na0 : a0 < 1000) (bn0 : InR (n0 : Int)) {RR : Int × ZI} (S : CallFix p m c cX9_earliest 3 s args Ztbl RX9) (hr : meth.sig.returnType = some .int) (hlk : meth.locks = false) (hR : 1 ≤ R.frames ∧ 60 * (1) ≤ R.locals) (hdj : Zdj ad) : ∀ (z : ZI) (x1 : Int) (H : Heap) (locs : List Loc) (ls : Array Slot), X9_earliest_b30 a0 n0 z x1 = some RR → ZW D cA ad (ZA ad) (Zc z) s H locs → Zok z → InR x1 → lv_has ls 3 [(1, .int (i32 (x1)))] → W p l e R s m args below meth c H locs 0 0 (MQ below (YQi D cA ad RR.1 RR.2) args s 0 0 (ZA ad)) (F0 m 30 ls []) := by
  intro z x1 H locs ls hF hw hzz hx1 hl
  unfold X9_earliest_b30 at hF
  refine lv_iload_n S.1 S.2.1 dX9_earliest_30 rfl (lv_at hl 0 rfl) ?_
  exact Yireti S hw hzz hx1 hr hlk hF dX9_earliest_31
set_option maxRecDepth 100000 in
set_option maxHeartbeats 4000000 in
theorem w_X9_earliest_L5 {a0 n0 : Nat} (ha0 : ZDS[a0]? = some (.inr (0, n0))) (na0 : a0 < 1000) (bn0 : InR (n0 : Int)) {RR : Int × ZI} (S : CallFix p m c cX9_earliest 3 s args Ztbl RX9) (hr : meth.sig.returnType = some .int) (hlk : meth.locks = false) (hR : 1 ≤ R.frames ∧ 60 * (1) ≤ R.locals) (hdj : Zdj ad) : ∀ (n : Nat) (z : ZI) (x1 : Int) (x2 : Int) (H : Heap) (locs : List Loc) (ls : Array Slot), X9_earliest_L5 a0 n0 n z x1 x2 = some RR → ZW D cA ad (ZA ad) (Zc z) s H locs → Zok z → InR x1 → InR x2 → lv_has ls 3 [(0, .ref (ad a0)), (1, .int (i32 (x1))), (2, .int (i32 (x2)))] → W p l e R s m args below meth c H locs 0 0 (MQ below (YQi D cA ad RR.1 RR.2) args s 0 0 (ZA ad)) (F0 m 5 ls []) := by
  intro n
  induction n with
  | zero => intro z x1 x2 H locs ls hF; exact nomatch hF
  | succ n hk5 =>
    intro z x1 x2 H locs ls hF hw hzz hx1 hx2 hl
    replace hF : X9_earliest_L5b a0 n0 (X9_earliest_L5 a0 n0 n) z x1 x2 = some RR := hF
    unfold X9_earliest_L5b at hF
    refine lv_iload_n S.1 S.2.1 dX9_earliest_5 rfl (lv_at hl 2 rfl) ?_
    refine lv_iconst (v := i32 4) S.1 S.2.1 dX9_earliest_6 ic_4 ?_
    refine Yicmp_ge (tgt := 30) S hx2 r_4 dX9_earliest_7 (by decide) (fun c1_ => ?_) (fun c1_ => ?_)
    · replace hF := ZtP c1_ hF
      exact w_X9_earliest_b30 ha0 na0 bn0 S hr hlk hR hdj _ _ _ _ _ hF hw hzz hx1 (lv_sub hl [1] rfl)
    · replace hF := ZtN c1_ hF
      refine lv_iload_n S.1 S.2.1 dX9_earliest_10 rfl (lv_at hl 2 rfl) ?_
      refine lv_aload_n S.1 S.2.1 dX9_earliest_11 rfl (lv_at hl 0 rfl) ?_
      refine Yalen S hw ha0 dX9_earliest_12 ?_
      refine Yicmp_ge (tgt := 30) S hx2 bn0 dX9_earliest_13 (by decide) (fun c2_ => ?_) (fun c2_ => ?_)
      · replace hF := ZtP c2_ hF
        exact w_X9_earliest_b30 ha0 na0 bn0 S hr hlk hR hdj _ _ _ _ _ hF hw hzz hx1 (lv_sub hl [1] rfl)
      · replace hF := ZtN c2_ hF
        refine lv_iload_n S.1 S.2.1 dX9_earliest_16 rfl (lv_at hl 1 rfl) ?_
        refine lv_aload_n S.1 S.2.1 dX9_earliest_17 rfl (lv_at hl 0 rfl) ?_
        refine lv_iload_n S.1 S.2.1 dX9_earliest_18 rfl (lv_at hl 2 rfl) ?_
        obtain ⟨b3_, hF⟩ := Zgs hF
        refine Yiald S hw ha0 na0 hx2 b3_ dX9_earliest_19 ?_
        refine Ymmin S hx1 (hzz.1 _ _ na0) hl ml_X9_93 (Zr1 hR (by decide)) (Zr2 hR (by decide) (Nat.le_of_ble_eq_true rfl)) ⟨Nat.zero_le _, Nat.zero_le _⟩ dX9_earliest_20 ?_
        refine lv_istore_n (lv' := [(1, .int (i32 (min x1 (z a0 x2)))), (0, .ref (ad a0)), (2, .int (i32 (x2)))]) S.1 S.2.1 dX9_earliest_23 rfl hl (by decide) rfl (fun ls hl => ?_)
        obtain ⟨g4_, hF⟩ := Zgs hF
        refine lv_iinc (v := i32 (x2 + 1)) (lv' := [(2, .int (i32 (x2 + 1))), (1, .int (i32 (min x1 (z a0 x2)))), (0, .ref (ad a0))]) S.1 S.2.1 dX9_earliest_24 hl (k := 2) rfl Yiinc (by decide) rfl (fun ls hl => ?_)
        refine lv_goto (tgt := 5) S.1 S.2.1 dX9_earliest_27 (by decide) ?_
        exact hk5 _ _ _ _ _ _ hF hw hzz (InR_min hx1 (hzz.1 _ _ na0)) g4_ (lv_sub hl [2, 1, 0] rfl)
set_option maxRecDepth 100000 in
set_option maxHeartbeats 4000000 in
theorem c_X9_earliest {l : Launch} {D : va_G} {cA : Nat → ClassId} {ad : Nat → Nat} (hdj : Zdj ad) {a0 n0 : Nat} (ha0 : ZDS[a0]? = some (.inr (0, n0))) (na0 : a0 < 1000) (bn0 : InR (n0 : Int)) {z z1 : ZI} {r : Int} (hzz : Zok z) (hF : F_X9_earliest a0 n0 z  = some (r, z1)) : YMi l D cA ad (1) yX9_earliest cX9_earliest 3 (some .int) [.ref (ad a0)] z r z1 :=
  Zmet hdj (by decide) rfl (Nat.le_of_ble_eq_true rfl) (lv := [(0, .ref (ad a0))]) rfl (fun p e s m args below meth c ls S hr hlk hw hl => by
    have hR : 1 ≤ (Zrm (1)).frames ∧ 60 * (1) ≤ (Zrm (1)).locals := ⟨Nat.le_refl _, Nat.le_refl _⟩
    unfold F_X9_earliest at hF
    revert hR
    generalize Zrm (1) = R
    intro hR
    refine lv_bipush (v := i32 24) S.1 S.2.1 dX9_earliest_0 bp_24 ?_
    refine lv_istore_n (lv' := [(1, .int (i32 (24))), (0, .ref (ad a0))]) S.1 S.2.1 dX9_earliest_2 rfl hl (by decide) rfl (fun ls hl => ?_)
    refine lv_iconst (v := i32 0) S.1 S.2.1 dX9_earliest_3 ic_0 ?_
    refine lv_istore_n (lv' := [(2, .int (i32 (0))), (1, .int (i32 (24))), (0, .ref (ad a0))]) S.1 S.2.1 dX9_earliest_4 rfl hl (by decide) rfl (fun ls hl => ?_)
    exact w_X9_earliest_L5 ha0 na0 bn0 S hr hlk hR hdj Zfuel _ _ _ _ _ _ hF hw hzz r_24 r_0 (lv_sub hl [2, 1, 0] rfl))
set_option maxRecDepth 100000 in
set_option maxHeartbeats 4000000 in
theorem w_X9_spendHour_b101 {a3 n3 : Nat} (ha3 : ZDS[a3]? = some (.inr (0, n3))) (na3 : a3 < 1000) (bn3 : InR (n3 : Int)) {RR : Int × ZI} (S : CallFix p m c cX9_spendHour 7 s args Ztbl RX9) (hr : meth.sig.returnType = some .int) (hlk : meth.locks = false) (hR : 1 ≤ R.frames ∧ 60 * (1) ≤ R.locals) (hdj : Zdj ad) : ∀ (z : ZI) (x2 : Int) (x4 : Int) (H : Heap) (locs : List Loc) (ls : Array Slot), X9_spendHour_b101 a3 n3 z x2 x4 = some RR → ZW D cA ad (ZA ad) (Zc z) s H locs → Zok z → InR x2 → InR x4 → lv_has ls 7 [(2, .int (i32 (x2))), (4, .int (i32 (x4)))] → W p l e R s m args below meth c H locs 0 0 (MQ below (YQi D cA ad RR.1 RR.2) args s 0 0 (ZA ad)) (F0 m 101 ls []) := by
  intro z x2 x4 H locs ls hF hw hzz hx2 hx4 hl
  unfold X9_spendHour_b101 at hF
  refine lv_iload_n S.1 S.2.1 dX9_spendHour_101 rfl (lv_at hl 0 rfl) ?_
  refine lv_iload S.1 S.2.1 dX9_spendHour_102 (lv_at hl 1 rfl) ?_
  obtain ⟨g1_, hF⟩ := Zgs hF
  refine Yisub S dX9_spendHour_104 ?_
  exact Yireti S hw hzz g1_ hr hlk hF dX9_spendHour_105
set_option maxRecDepth 100000 in
set_option maxHeartbeats 4000000 in
theorem w_X9_spendHour_b95 {a3 n3 : Nat} (ha3 : ZDS[a3]? = some (.inr (0, n3))) (na3 : a3 < 1000) (bn3 : InR (n3 : Int)) {RR : Int × ZI} (S : CallFix p m c cX9_spendHour 7 s args Ztbl RX9) (hr : meth.sig.returnType = some .int) (hlk : meth.locks = false) (hR : 1 ≤ R.frames ∧ 60 * (1) ≤ R.locals) (hdj : Zdj ad) {k6 : ZI → Int → Int → Int → Int → Option (Int × ZI)} (hk6 : ∀ (z : ZI) (x1 : Int) (x2 : Int) (x4 : Int) (x5 : Int) (H : Heap) (locs : List Loc) (ls : Array Slot), k6 z x1 x2 x4 x5 = some RR → ZW D cA ad (ZA ad) (Zc z) s H locs → Zok z → InR x1 → InR x2 → InR x4 → InR x5 → lv_has ls 7 [(0, .ref (ad 41)), (1, .int (i32 (x1))), (2, .int (i32 (x2))), (3, .ref (ad a3)), (4, .int (i32 (x4))), (5, .int (i32 (x5)))] → W p l e R s m args below meth c H locs 0 0 (MQ below (YQi D cA ad RR.1 RR.2) args s 0 0 (ZA ad)) (F0 m 6 ls [])) : ∀ (z : ZI) (x1 : Int) (x2 : Int) (x4 : Int) (x5 : Int) (H : Heap) (locs : List Loc) (ls : Array Slot), X9_spendHour_b95 a3 n3 k6 z x1 x2 x4 x5 = some RR → ZW D cA ad (ZA ad) (Zc z) s H locs → Zok z → InR x1 → InR x2 → InR x4 → InR x5 → lv_has ls 7 [(0, .ref (ad 41)), (1, .int (i32 (x1))), (2, .int (i32 (x2))), (3, .ref (ad a3)), (4, .int (i32 (x4))), (5, .int (i32 (x5)))] → W p l e R s m args below meth c H locs 0 0 (MQ below (YQi D cA ad RR.1 RR.2) args s 0 0 (ZA ad)) (F0 m 95 ls []) := by
  intro z x1 x2 x4 x5 H locs ls hF hw hzz hx1 hx2 hx4 hx5 hl
  unfold X9_spendHour_b95 at hF
  obtain ⟨g1_, hF⟩ := Zgs hF
  refine lv_iinc (v := i32 (x5 + 1)) (lv' := [(5, .int (i32 (x5 + 1))), (0, .ref (ad 41)), (1, .int (i32 (x1))), (2, .int (i32 (x2))), (3, .ref (ad a3)), (4, .int (i32 (x4)))]) S.1 S.2.1 dX9_spendHour_95 hl (k := 5) rfl Yiinc (by decide) rfl (fun ls hl => ?_)
  refine lv_goto (tgt := 6) S.1 S.2.1 dX9_spendHour_98 (by decide) ?_
  exact hk6 _ _ _ _ _ _ _ _ hF hw hzz hx1 hx2 hx4 g1_ (lv_sub hl [1, 2, 3, 4, 5, 0] rfl)
set_option maxRecDepth 100000 in
set_option maxHeartbeats 4000000 in
theorem w_X9_spendHour_b84 {a3 n3 : Nat} (ha3 : ZDS[a3]? = some (.inr (0, n3))) (na3 : a3 < 1000) (bn3 : InR (n3 : Int)) {RR : Int × ZI} (S : CallFix p m c cX9_spendHour 7 s args Ztbl RX9) (hr : meth.sig.returnType = some .int) (hlk : meth.locks = false) (hR : 1 ≤ R.frames ∧ 60 * (1) ≤ R.locals) (hdj : Zdj ad) : ∀ (z : ZI) (x2 : Int) (x4 : Int) (H : Heap) (locs : List Loc) (ls : Array Slot), X9_spendHour_b84 a3 n3 z x2 x4 = some RR → ZW D cA ad (ZA ad) (Zc z) s H locs → Zok z → InR x2 → InR x4 → lv_has ls 7 [(2, .int (i32 (x2))), (4, .int (i32 (x4)))] → W p l e R s m args below meth c H locs 0 0 (MQ below (YQi D cA ad RR.1 RR.2) args s 0 0 (ZA ad)) (F0 m 84 ls []) := by
  intro z x2 x4 H locs ls hF hw hzz hx2 hx4 hl
  unfold X9_spendHour_b84 at hF
  refine lv_goto (tgt := 101) S.1 S.2.1 dX9_spendHour_84 (by decide) ?_
  exact w_X9_spendHour_b101 ha3 na3 bn3 S hr hlk hR hdj _ _ _ _ _ _ hF hw hzz hx2 hx4 (lv_sub hl [0, 1] rfl)
set_option maxRecDepth 100000 in
set_option maxHeartbeats 4000000 in
theorem w_X9_spendHour_L6 {a3 n3 : Nat} (ha3 : ZDS[a3]? = some (.inr (0, n3))) (na3 : a3 < 1000) (bn3 : InR (n3 : Int)) {RR : Int × ZI} (S : CallFix p m c cX9_spendHour 7 s args Ztbl RX9) (hr : meth.sig.returnType = some .int) (hlk : meth.locks = false) (hR : 1 ≤ R.frames ∧ 60 * (1) ≤ R.locals) (hdj : Zdj ad) : ∀ (n : Nat) (z : ZI) (x1 : Int) (x2 : Int) (x4 : Int) (x5 : Int) (H : Heap) (locs : List Loc) (ls : Array Slot), X9_spendHour_L6 a3 n3 n z x1 x2 x4 x5 = some RR → ZW D cA ad (ZA ad) (Zc z) s H locs → Zok z → InR x1 → InR x2 → InR x4 → InR x5 → lv_has ls 7 [(0, .ref (ad 41)), (1, .int (i32 (x1))), (2, .int (i32 (x2))), (3, .ref (ad a3)), (4, .int (i32 (x4))), (5, .int (i32 (x5)))] → W p l e R s m args below meth c H locs 0 0 (MQ below (YQi D cA ad RR.1 RR.2) args s 0 0 (ZA ad)) (F0 m 6 ls []) := by
  intro n
  induction n with
  | zero => intro z x1 x2 x4 x5 H locs ls hF; exact nomatch hF
  | succ n hk6 =>
    intro z x1 x2 x4 x5 H locs ls hF hw hzz hx1 hx2 hx4 hx5 hl
    replace hF : X9_spendHour_L6b a3 n3 (X9_spendHour_L6 a3 n3 n) z x1 x2 x4 x5 = some RR := hF
    unfold X9_spendHour_L6b at hF
    refine lv_iload S.1 S.2.1 dX9_spendHour_6 (lv_at hl 5 rfl) ?_
    refine lv_aload_n S.1 S.2.1 dX9_spendHour_8 rfl (lv_at hl 0 rfl) ?_
    refine gg_X9_68 S hw dX9_spendHour_9 ?_
    refine Yicmp_ge (tgt := 101) S hx5 (hzz.1 41 5 (by decide)) dX9_spendHour_12 (by decide) (fun c1_ => ?_) (fun c1_ => ?_)
    · replace hF := ZtP c1_ hF
      exact w_X9_spendHour_b101 ha3 na3 bn3 S hr hlk hR hdj _ _ _ _ _ _ hF hw hzz hx2 hx4 (lv_sub hl [2, 4] rfl)
    · replace hF := ZtN c1_ hF
      refine lv_aload_n S.1 S.2.1 dX9_spendHour_15 rfl (lv_at hl 0 rfl) ?_
      refine gf_X9_39 S hw dX9_spendHour_16 ?_
      refine lv_iload S.1 S.2.1 dX9_spendHour_19 (lv_at hl 5 rfl) ?_
      obtain ⟨b2_, hF⟩ := Zgs hF
      refine Yiald S hw zd_49 (by decide) hx5 b2_ dX9_spendHour_21 ?_
      refine Yif_eq (tgt := 95) S (hzz.1 _ _ (by decide)) dX9_spendHour_22 (by decide) (fun c3_ => ?_) (fun c3_ => ?_)
      · replace hF := ZtP c3_ hF
        exact w_X9_spendHour_b95 ha3 na3 bn3 S hr hlk hR hdj hk6 _ _ _ _ _ _ _ _ hF hw hzz hx1 hx2 hx4 hx5 (lv_sub hl [0, 1, 2, 3, 4, 5] rfl)
      · replace hF := ZtN c3_ hF
        refine lv_aload_n S.1 S.2.1 dX9_spendHour_25 rfl (lv_at hl 3 rfl) ?_
        refine lv_aload_n S.1 S.2.1 dX9_spendHour_26 rfl (lv_at hl 0 rfl) ?_
        refine gf_X9_33 S hw dX9_spendHour_27 ?_
        refine lv_iload S.1 S.2.1 dX9_spendHour_30 (lv_at hl 5 rfl) ?_
        obtain ⟨b4_, hF⟩ := Zgs hF
        refine Yiald S hw zd_47 (by decide) hx5 b4_ dX9_spendHour_32 ?_
        obtain ⟨b5_, hF⟩ := Zgs hF
        refine Yiald S hw ha3 na3 (hzz.1 _ _ (by decide)) b5_ dX9_spendHour_33 ?_
        refine lv_iload_n S.1 S.2.1 dX9_spendHour_34 rfl (lv_at hl 1 rfl) ?_
        refine Yicmp_le (tgt := 41) S (hzz.1 _ _ na3) hx1 dX9_spendHour_35 (by decide) (fun c6_ => ?_) (fun c6_ => ?_)
        · replace hF := ZtP c6_ hF
          refine lv_aload_n S.1 S.2.1 dX9_spendHour_41 rfl (lv_at hl 0 rfl) ?_
          refine gf_X9_39 S hw dX9_spendHour_42 ?_
          refine lv_iload S.1 S.2.1 dX9_spendHour_45 (lv_at hl 5 rfl) ?_
          obtain ⟨b7_, hF⟩ := Zgs hF
          refine Yiald S hw zd_49 (by decide) hx5 b7_ dX9_spendHour_47 ?_
          refine lv_iload S.1 S.2.1 dX9_spendHour_48 (lv_at hl 4 rfl) ?_
          refine Ymmin S (hzz.1 _ _ (by decide)) hx4 hl ml_X9_93 (Zr1 hR (by decide)) (Zr2 hR (by decide) (Nat.le_of_ble_eq_true rfl)) ⟨Nat.zero_le _, Nat.zero_le _⟩ dX9_spendHour_50 ?_
          refine lv_istore (lv' := [(6, .int (i32 (min (z 49 x5) x4))), (0, .ref (ad 41)), (1, .int (i32 (x1))), (2, .int (i32 (x2))), (3, .ref (ad a3)), (4, .int (i32 (x4))), (5, .int (i32 (x5)))]) S.1 S.2.1 dX9_spendHour_53 hl (by decide) rfl (fun ls hl => ?_)
          refine lv_aload_n S.1 S.2.1 dX9_spendHour_55 rfl (lv_at hl 1 rfl) ?_
          refine gf_X9_39 S hw dX9_spendHour_56 ?_
          refine lv_iload S.1 S.2.1 dX9_spendHour_59 (lv_at hl 6 rfl) ?_
          refine lv_dup2_11 S.1 S.2.1 dX9_spendHour_61 rfl rfl ?_
          obtain ⟨b8_, hF⟩ := Zgs hF
          refine Yiald S hw zd_49 (by decide) hx5 b8_ dX9_spendHour_62 ?_
          refine lv_iload S.1 S.2.1 dX9_spendHour_63 (lv_at hl 0 rfl) ?_
          obtain ⟨g9_, hF⟩ := Zgs hF
          refine Yisub S dX9_spendHour_65 ?_
          obtain ⟨b10_, hF⟩ := Zgs hF
          refine Yiast S hw hzz zd_49 (by decide) hx5 g9_ b10_ dX9_spendHour_66 (fun z11_ H locs ez hzz11_ hw => ?_)
          replace hF := Zle ez hF; clear ez
          refine lv_iload S.1 S.2.1 dX9_spendHour_67 (lv_at hl 5 rfl) ?_
          refine lv_iload S.1 S.2.1 dX9_spendHour_69 (lv_at hl 0 rfl) ?_
          obtain ⟨g12_, hF⟩ := Zgs hF
          refine Yisub S dX9_spendHour_71 ?_
          refine lv_istore (lv' := [(4, .int (i32 (x4 - (min (z 49 x5) x4)))), (6, .int (i32 (min (z 49 x5) x4))), (0, .ref (ad 41)), (1, .int (i32 (x1))), (2, .int (i32 (x2))), (3, .ref (ad a3)), (5, .int (i32 (x5)))]) S.1 S.2.1 dX9_spendHour_72 hl (by decide) rfl (fun ls hl => ?_)
          refine lv_aload_n S.1 S.2.1 dX9_spendHour_74 rfl (lv_at hl 2 rfl) ?_
          refine gf_X9_39 S hw dX9_spendHour_75 ?_
          refine lv_iload S.1 S.2.1 dX9_spendHour_78 (lv_at hl 6 rfl) ?_
          obtain ⟨b13_, hF⟩ := Zgs hF
          refine Yiald S hw zd_49 (by decide) hx5 b13_ dX9_spendHour_80 ?_
          refine Yif_le (tgt := 87) S (hzz11_.1 _ _ (by decide)) dX9_spendHour_81 (by decide) (fun c14_ => ?_) (fun c14_ => ?_)
          · replace hF := ZtP c14_ hF
            refine lv_aload_n S.1 S.2.1 dX9_spendHour_87 rfl (lv_at hl 2 rfl) ?_
            refine gf_X9_42 S hw dX9_spendHour_88 ?_
            refine lv_iload S.1 S.2.1 dX9_spendHour_91 (lv_at hl 6 rfl) ?_
            refine lv_iload_n S.1 S.2.1 dX9_spendHour_93 rfl (lv_at hl 3 rfl) ?_
            obtain ⟨b15_, hF⟩ := Zgs hF
            refine Yiast S hw hzz11_ zd_50 (by decide) hx5 hx1 b15_ dX9_spendHour_94 (fun z16_ H locs ez hzz16_ hw => ?_)
            replace hF := Zle ez hF; clear ez
            exact w_X9_spendHour_b95 ha3 na3 bn3 S hr hlk hR hdj hk6 _ _ _ _ _ _ _ _ hF hw hzz16_ hx1 hx2 g12_ hx5 (lv_sub hl [2, 3, 4, 5, 0, 6] rfl)
          · replace hF := ZtN c14_ hF
            exact w_X9_spendHour_b84 ha3 na3 bn3 S hr hlk hR hdj _ _ _ _ _ _ hF hw hzz11_ hx2 g12_ (lv_sub hl [4, 0] rfl)
        · replace hF := ZtN c6_ hF
          refine lv_goto (tgt := 95) S.1 S.2.1 dX9_spendHour_38 (by decide) ?_
          exact w_X9_spendHour_b95 ha3 na3 bn3 S hr hlk hR hdj hk6 _ _ _ _ _ _ _ _ hF hw hzz hx1 hx2 hx4 hx5 (lv_sub hl [0, 1, 2, 3, 4, 5] rfl)
set_option maxRecDepth 100000 in
set_option maxHeartbeats 4000000 in
theorem c_X9_spendHour {l : Launch} {D : va_G} {cA : Nat → ClassId} {ad : Nat → Nat} (hdj : Zdj ad) {a3 n3 : Nat} (ha3 : ZDS[a3]? = some (.inr (0, n3))) (na3 : a3 < 1000) (bn3 : InR (n3 : Int)) {z z1 : ZI} {x1 : Int} {x2 : Int} {r : Int} (hzz : Zok z) (hx1 : InR x1) (hx2 : InR x2) (hF : F_X9_spendHour a3 n3 z x1 x2 = some (r, z1)) : YMi l D cA ad (1) yX9_spendHour cX9_spendHour 7 (some .int) [.ref (ad 41), .int (i32 x1), .int (i32 x2), .ref (ad a3)] z r z1 :=
  Zmet hdj (by decide) rfl (Nat.le_of_ble_eq_true rfl) (lv := [(0, .ref (ad 41)), (1, .int (i32 (x1))), (2, .int (i32 (x2))), (3, .ref (ad a3))]) rfl (fun p e s m args below meth c ls S hr hlk hw hl => by
    have hR : 1 ≤ (Zrm (1)).frames ∧ 60 * (1) ≤ (Zrm (1)).locals := ⟨Nat.le_refl _, Nat.le_refl _⟩
    unfold F_X9_spendHour at hF
    revert hR
    generalize Zrm (1) = R
    intro hR
    refine lv_iload_n S.1 S.2.1 dX9_spendHour_0 rfl (lv_at hl 2 rfl) ?_
    refine lv_istore (lv' := [(4, .int (i32 (x2))), (0, .ref (ad 41)), (1, .int (i32 (x1))), (2, .int (i32 (x2))), (3, .ref (ad a3))]) S.1 S.2.1 dX9_spendHour_1 hl (by decide) rfl (fun ls hl => ?_)
    refine lv_iconst (v := i32 0) S.1 S.2.1 dX9_spendHour_3 ic_0 ?_
    refine lv_istore (lv' := [(5, .int (i32 (0))), (4, .int (i32 (x2))), (0, .ref (ad 41)), (1, .int (i32 (x1))), (2, .int (i32 (x2))), (3, .ref (ad a3))]) S.1 S.2.1 dX9_spendHour_4 hl (by decide) rfl (fun ls hl => ?_)
    exact w_X9_spendHour_L6 ha3 na3 bn3 S hr hlk hR hdj Zfuel _ _ _ _ _ _ _ _ hF hw hzz hx1 hx2 hx2 r_0 (lv_sub hl [2, 3, 4, 5, 1, 0] rfl))
set_option maxRecDepth 100000 in
set_option maxHeartbeats 4000000 in
theorem w_X9_spendDay_b121 {a2 n2 : Nat} (ha2 : ZDS[a2]? = some (.inr (0, n2))) (na2 : a2 < 1000) (bn2 : InR (n2 : Int)) {RR : Unit × ZI} (S : CallFix p m c cX9_spendDay 7 s args Ztbl RX9) (hr : meth.sig.returnType = none) (hlk : meth.locks = false) (hR : 2 ≤ R.frames ∧ 60 * (2) ≤ R.locals) (hdj : Zdj ad) : ∀ (z : ZI) (H : Heap) (locs : List Loc) (ls : Array Slot), X9_spendDay_b121 a2 n2 z  = some RR → ZW D cA ad (ZA ad) (Zc z) s H locs → Zok z → lv_has ls 7 [] → W p l e R s m args below meth c H locs 0 0 (MQ below (YQv D cA ad RR.2) args s 0 0 (ZA ad)) (F0 m 121 ls []) := by
  intro z  H locs ls hF hw hzz  hl
  unfold X9_spendDay_b121 at hF
  exact Yvret S hw hzz hr hlk hF dX9_spendDay_121
set_option maxRecDepth 100000 in
set_option maxHeartbeats 4000000 in
theorem w_X9_spendDay_L67 {a2 n2 : Nat} (ha2 : ZDS[a2]? = some (.inr (0, n2))) (na2 : a2 < 1000) (bn2 : InR (n2 : Int)) {RR : Unit × ZI} (S : CallFix p m c cX9_spendDay 7 s args Ztbl RX9) (hr : meth.sig.returnType = none) (hlk : meth.locks = false) (hR : 2 ≤ R.frames ∧ 60 * (2) ≤ R.locals) (hdj : Zdj ad) : ∀ (n : Nat) (z : ZI) (x1 : Int) (x3 : Int) (x4 : Int) (x5 : Int) (H : Heap) (locs : List Loc) (ls : Array Slot), X9_spendDay_L67 a2 n2 n z x1 x3 x4 x5 = some RR → ZW D cA ad (ZA ad) (Zc z) s H locs → Zok z → InR x1 → InR x3 → InR x4 → InR x5 → lv_has ls 7 [(0, .ref (ad 41)), (1, .int (i32 (x1))), (2, .ref (ad a2)), (3, .int (i32 (x3))), (4, .int (i32 (x4))), (5, .int (i32 (x5)))] → W p l e R s m args below meth c H locs 0 0 (MQ below (YQv D cA ad RR.2) args s 0 0 (ZA ad)) (F0 m 67 ls []) := by
  intro n
  induction n with
  | zero => intro z x1 x3 x4 x5 H locs ls hF; exact nomatch hF
  | succ n hk67 =>
    intro z x1 x3 x4 x5 H locs ls hF hw hzz hx1 hx3 hx4 hx5 hl
    replace hF : X9_spendDay_L67b a2 n2 (X9_spendDay_L67 a2 n2 n) z x1 x3 x4 x5 = some RR := hF
    unfold X9_spendDay_L67b at hF
    refine lv_iload S.1 S.2.1 dX9_spendDay_67 (lv_at hl 5 rfl) ?_
    refine lv_bipush (v := i32 24) S.1 S.2.1 dX9_spendDay_69 bp_24 ?_
    refine Yicmp_ge (tgt := 121) S hx5 r_24 dX9_spendDay_71 (by decide) (fun c1_ => ?_) (fun c1_ => ?_)
    · replace hF := ZtP c1_ hF
      exact w_X9_spendDay_b121 ha2 na2 bn2 S hr hlk hR hdj _ _ _ _ hF hw hzz  (lv_sub hl [] rfl)
    · replace hF := ZtN c1_ hF
      refine lv_iload S.1 S.2.1 dX9_spendDay_74 (lv_at hl 4 rfl) ?_
      refine Yif_le (tgt := 121) S hx4 dX9_spendDay_76 (by decide) (fun c2_ => ?_) (fun c2_ => ?_)
      · replace hF := ZtP c2_ hF
        exact w_X9_spendDay_b121 ha2 na2 bn2 S hr hlk hR hdj _ _ _ _ hF hw hzz  (lv_sub hl [] rfl)
      · replace hF := ZtN c2_ hF
        refine lv_iload_n S.1 S.2.1 dX9_spendDay_79 rfl (lv_at hl 3 rfl) ?_
        refine Yif_le (tgt := 121) S hx3 dX9_spendDay_80 (by decide) (fun c3_ => ?_) (fun c3_ => ?_)
        · replace hF := ZtP c3_ hF
          exact w_X9_spendDay_b121 ha2 na2 bn2 S hr hlk hR hdj _ _ _ _ hF hw hzz  (lv_sub hl [] rfl)
        · replace hF := ZtN c3_ hF
          refine lv_aload_n S.1 S.2.1 dX9_spendDay_83 rfl (lv_at hl 0 rfl) ?_
          refine lv_iload S.1 S.2.1 dX9_spendDay_84 (lv_at hl 5 rfl) ?_
          refine lv_iload S.1 S.2.1 dX9_spendDay_86 (lv_at hl 4 rfl) ?_
          refine lv_aload_n S.1 S.2.1 dX9_spendDay_88 rfl (lv_at hl 0 rfl) ?_
          refine gf_X9_15 S hw dX9_spendDay_89 ?_
          refine lv_iload_n S.1 S.2.1 dX9_spendDay_92 rfl (lv_at hl 1 rfl) ?_
          obtain ⟨b4_, hF⟩ := Zgs hF
          refine Yiald S hw zd_43 (by decide) hx1 b4_ dX9_spendDay_93 ?_
          refine Ymmin S hx4 (hzz.1 _ _ (by decide)) hl ml_X9_93 (Zr1 hR (by decide)) (Zr2 hR (by decide) (Nat.le_of_ble_eq_true rfl)) ⟨Nat.zero_le _, Nat.zero_le _⟩ dX9_spendDay_94 ?_
          refine lv_aload_n S.1 S.2.1 dX9_spendDay_97 rfl (lv_at hl 2 rfl) ?_
          obtain ⟨r7_, z5_, h6_, hF⟩ := Ybs hF
          refine YcallVi (rest := []) S hw (c_X9_spendHour hdj ha2 na2 bn2 hzz hx5 (InR_min hx4 (hzz.1 _ _ (by decide))) h6_) my_X9_spendHour mi_X9_spendHour ml_X9_98 zd_41 zc_X9 rfl (Zrr hR (by decide)) ⟨Nat.zero_le _, Nat.zero_le _⟩ hl.1 rfl rfl (Nat.le_of_ble_eq_true rfl) dX9_spendDay_98 (fun hrr7_ hzz5_ H locs hw => ?_)
          refine lv_istore (lv' := [(6, .int (i32 (r7_))), (0, .ref (ad 41)), (1, .int (i32 (x1))), (2, .ref (ad a2)), (3, .int (i32 (x3))), (4, .int (i32 (x4))), (5, .int (i32 (x5)))]) S.1 S.2.1 dX9_spendDay_101 hl (by decide) rfl (fun ls hl => ?_)
          refine lv_iload S.1 S.2.1 dX9_spendDay_103 (lv_at hl 5 rfl) ?_
          refine lv_iload S.1 S.2.1 dX9_spendDay_105 (lv_at hl 0 rfl) ?_
          obtain ⟨g8_, hF⟩ := Zgs hF
          refine Yisub S dX9_spendDay_107 ?_
          refine lv_istore (lv' := [(4, .int (i32 (x4 - r7_))), (6, .int (i32 (r7_))), (0, .ref (ad 41)), (1, .int (i32 (x1))), (2, .ref (ad a2)), (3, .int (i32 (x3))), (5, .int (i32 (x5)))]) S.1 S.2.1 dX9_spendDay_108 hl (by decide) rfl (fun ls hl => ?_)
          refine lv_iload_n S.1 S.2.1 dX9_spendDay_110 rfl (lv_at hl 5 rfl) ?_
          refine lv_iload S.1 S.2.1 dX9_spendDay_111 (lv_at hl 1 rfl) ?_
          obtain ⟨g9_, hF⟩ := Zgs hF
          refine Yisub S dX9_spendDay_113 ?_
          refine lv_istore_n (lv' := [(3, .int (i32 (x3 - r7_))), (4, .int (i32 (x4 - r7_))), (6, .int (i32 (r7_))), (0, .ref (ad 41)), (1, .int (i32 (x1))), (2, .ref (ad a2)), (5, .int (i32 (x5)))]) S.1 S.2.1 dX9_spendDay_114 rfl hl (by decide) rfl (fun ls hl => ?_)
          obtain ⟨g10_, hF⟩ := Zgs hF
          refine lv_iinc (v := i32 (x5 + 1)) (lv' := [(5, .int (i32 (x5 + 1))), (3, .int (i32 (x3 - r7_))), (4, .int (i32 (x4 - r7_))), (6, .int (i32 (r7_))), (0, .ref (ad 41)), (1, .int (i32 (x1))), (2, .ref (ad a2))]) S.1 S.2.1 dX9_spendDay_115 hl (k := 6) rfl Yiinc (by decide) rfl (fun ls hl => ?_)
          refine lv_goto (tgt := 67) S.1 S.2.1 dX9_spendDay_118 (by decide) ?_
          exact hk67 _ _ _ _ _ _ _ _ hF hw hzz5_ hx1 g9_ g8_ g10_ (lv_sub hl [4, 5, 6, 1, 2, 0] rfl)
set_option maxRecDepth 100000 in
set_option maxHeartbeats 4000000 in
theorem w_X9_spendDay_b53 {a2 n2 : Nat} (ha2 : ZDS[a2]? = some (.inr (0, n2))) (na2 : a2 < 1000) (bn2 : InR (n2 : Int)) {RR : Unit × ZI} (S : CallFix p m c cX9_spendDay 7 s args Ztbl RX9) (hr : meth.sig.returnType = none) (hlk : meth.locks = false) (hR : 2 ≤ R.frames ∧ 60 * (2) ≤ R.locals) (hdj : Zdj ad) : ∀ (z : ZI) (x1 : Int) (x3 : Int) (H : Heap) (locs : List Loc) (ls : Array Slot), X9_spendDay_b53 a2 n2 z x1 x3 = some RR → ZW D cA ad (ZA ad) (Zc z) s H locs → Zok z → InR x1 → InR x3 → lv_has ls 7 [(0, .ref (ad 41)), (1, .int (i32 (x1))), (2, .ref (ad a2)), (3, .int (i32 (x3)))] → W p l e R s m args below meth c H locs 0 0 (MQ below (YQv D cA ad RR.2) args s 0 0 (ZA ad)) (F0 m 53 ls []) := by
  intro z x1 x3 H locs ls hF hw hzz hx1 hx3 hl
  unfold X9_spendDay_b53 at hF
  refine lv_aload_n S.1 S.2.1 dX9_spendDay_53 rfl (lv_at hl 0 rfl) ?_
  refine gf_X9_18 S hw dX9_spendDay_54 ?_
  refine lv_iload_n S.1 S.2.1 dX9_spendDay_57 rfl (lv_at hl 1 rfl) ?_
  obtain ⟨b1_, hF⟩ := Zgs hF
  refine Yiald S hw zd_44 (by decide) hx1 b1_ dX9_spendDay_58 ?_
  refine lv_istore (lv' := [(4, .int (i32 (z 44 x1))), (0, .ref (ad 41)), (1, .int (i32 (x1))), (2, .ref (ad a2)), (3, .int (i32 (x3)))]) S.1 S.2.1 dX9_spendDay_59 hl (by decide) rfl (fun ls hl => ?_)
  refine lv_aload_n S.1 S.2.1 dX9_spendDay_61 rfl (lv_at hl 3 rfl) ?_
  obtain ⟨r4_, z2_, h3_, hF⟩ := Ybs hF
  refine YcallSi (rest := []) S hw (c_X9_earliest hdj ha2 na2 bn2 hzz  h3_) my_X9_earliest ms_X9_earliest ml_X9_89 (Zrr hR (by decide)) ⟨Nat.zero_le _, Nat.zero_le _⟩ hl.1 rfl rfl (Nat.le_of_ble_eq_true rfl) dX9_spendDay_62 (fun hrr4_ hzz2_ H locs hw => ?_)
  refine lv_istore (lv' := [(5, .int (i32 (r4_))), (4, .int (i32 (z 44 x1))), (0, .ref (ad 41)), (1, .int (i32 (x1))), (2, .ref (ad a2)), (3, .int (i32 (x3)))]) S.1 S.2.1 dX9_spendDay_65 hl (by decide) rfl (fun ls hl => ?_)
  exact w_X9_spendDay_L67 ha2 na2 bn2 S hr hlk hR hdj Zfuel _ _ _ _ _ _ _ _ hF hw hzz2_ hx1 hx3 (hzz.1 _ _ (by decide)) hrr4_ (lv_sub hl [2, 3, 4, 5, 1, 0] rfl)
set_option maxRecDepth 100000 in
set_option maxHeartbeats 4000000 in
theorem w_X9_spendDay_L5 {a2 n2 : Nat} (ha2 : ZDS[a2]? = some (.inr (0, n2))) (na2 : a2 < 1000) (bn2 : InR (n2 : Int)) {RR : Unit × ZI} (S : CallFix p m c cX9_spendDay 7 s args Ztbl RX9) (hr : meth.sig.returnType = none) (hlk : meth.locks = false) (hR : 2 ≤ R.frames ∧ 60 * (2) ≤ R.locals) (hdj : Zdj ad) : ∀ (n : Nat) (z : ZI) (x1 : Int) (x3 : Int) (x4 : Int) (H : Heap) (locs : List Loc) (ls : Array Slot), X9_spendDay_L5 a2 n2 n z x1 x3 x4 = some RR → ZW D cA ad (ZA ad) (Zc z) s H locs → Zok z → InR x1 → InR x3 → InR x4 → lv_has ls 7 [(0, .ref (ad 41)), (1, .int (i32 (x1))), (2, .ref (ad a2)), (3, .int (i32 (x3))), (4, .int (i32 (x4)))] → W p l e R s m args below meth c H locs 0 0 (MQ below (YQv D cA ad RR.2) args s 0 0 (ZA ad)) (F0 m 5 ls []) := by
  intro n
  induction n with
  | zero => intro z x1 x3 x4 H locs ls hF; exact nomatch hF
  | succ n hk5 =>
    intro z x1 x3 x4 H locs ls hF hw hzz hx1 hx3 hx4 hl
    replace hF : X9_spendDay_L5b a2 n2 (X9_spendDay_L5 a2 n2 n) z x1 x3 x4 = some RR := hF
    unfold X9_spendDay_L5b at hF
    refine lv_iload S.1 S.2.1 dX9_spendDay_5 (lv_at hl 4 rfl) ?_
    refine lv_aload_n S.1 S.2.1 dX9_spendDay_7 rfl (lv_at hl 0 rfl) ?_
    refine gg_X9_68 S hw dX9_spendDay_8 ?_
    refine Yicmp_ge (tgt := 53) S hx4 (hzz.1 41 5 (by decide)) dX9_spendDay_11 (by decide) (fun c1_ => ?_) (fun c1_ => ?_)
    · replace hF := ZtP c1_ hF
      exact w_X9_spendDay_b53 ha2 na2 bn2 S hr hlk hR hdj _ _ _ _ _ _ hF hw hzz hx1 hx3 (lv_sub hl [0, 1, 2, 3] rfl)
    · replace hF := ZtN c1_ hF
      refine lv_aload_n S.1 S.2.1 dX9_spendDay_14 rfl (lv_at hl 0 rfl) ?_
      refine gf_X9_39 S hw dX9_spendDay_15 ?_
      refine lv_iload S.1 S.2.1 dX9_spendDay_18 (lv_at hl 4 rfl) ?_
      refine lv_aload_n S.1 S.2.1 dX9_spendDay_20 rfl (lv_at hl 0 rfl) ?_
      refine gf_X9_36 S hw dX9_spendDay_21 ?_
      refine lv_iload S.1 S.2.1 dX9_spendDay_24 (lv_at hl 4 rfl) ?_
      obtain ⟨b2_, hF⟩ := Zgs hF
      refine Yiald S hw zd_48 (by decide) hx4 b2_ dX9_spendDay_26 ?_
      obtain ⟨b3_, hF⟩ := Zgs hF
      refine Yiast S hw hzz zd_49 (by decide) hx4 (hzz.1 _ _ (by decide)) b3_ dX9_spendDay_27 (fun z4_ H locs ez hzz4_ hw => ?_)
      replace hF := Zle ez hF; clear ez
      refine lv_aload_n S.1 S.2.1 dX9_spendDay_28 rfl (lv_at hl 0 rfl) ?_
      refine gf_X9_42 S hw dX9_spendDay_29 ?_
      refine lv_iload S.1 S.2.1 dX9_spendDay_32 (lv_at hl 4 rfl) ?_
      refine lv_bipush (v := i32 (-9)) S.1 S.2.1 dX9_spendDay_34 bp_m9 ?_
      obtain ⟨b5_, hF⟩ := Zgs hF
      refine Yiast S hw hzz4_ zd_50 (by decide) hx4 r_m9 b5_ dX9_spendDay_36 (fun z6_ H locs ez hzz6_ hw => ?_)
      replace hF := Zle ez hF; clear ez
      refine lv_iload_n S.1 S.2.1 dX9_spendDay_37 rfl (lv_at hl 3 rfl) ?_
      refine lv_aload_n S.1 S.2.1 dX9_spendDay_38 rfl (lv_at hl 0 rfl) ?_
      refine gf_X9_36 S hw dX9_spendDay_39 ?_
      refine lv_iload S.1 S.2.1 dX9_spendDay_42 (lv_at hl 4 rfl) ?_
      obtain ⟨b7_, hF⟩ := Zgs hF
      refine Yiald S hw zd_48 (by decide) hx4 b7_ dX9_spendDay_44 ?_
      obtain ⟨g8_, hF⟩ := Zgs hF
      refine Yiadd S dX9_spendDay_45 ?_
      refine lv_istore_n (lv' := [(3, .int (i32 (x3 + (z6_ 48 x4)))), (0, .ref (ad 41)), (1, .int (i32 (x1))), (2, .ref (ad a2)), (4, .int (i32 (x4)))]) S.1 S.2.1 dX9_spendDay_46 rfl hl (by decide) rfl (fun ls hl => ?_)
      obtain ⟨g9_, hF⟩ := Zgs hF
      refine lv_iinc (v := i32 (x4 + 1)) (lv' := [(4, .int (i32 (x4 + 1))), (3, .int (i32 (x3 + (z6_ 48 x4)))), (0, .ref (ad 41)), (1, .int (i32 (x1))), (2, .ref (ad a2))]) S.1 S.2.1 dX9_spendDay_47 hl (k := 4) rfl Yiinc (by decide) rfl (fun ls hl => ?_)
      refine lv_goto (tgt := 5) S.1 S.2.1 dX9_spendDay_50 (by decide) ?_
      exact hk5 _ _ _ _ _ _ _ hF hw hzz6_ hx1 g8_ g9_ (lv_sub hl [2, 3, 4, 1, 0] rfl)
set_option maxRecDepth 100000 in
set_option maxHeartbeats 4000000 in
theorem c_X9_spendDay {l : Launch} {D : va_G} {cA : Nat → ClassId} {ad : Nat → Nat} (hdj : Zdj ad) {a2 n2 : Nat} (ha2 : ZDS[a2]? = some (.inr (0, n2))) (na2 : a2 < 1000) (bn2 : InR (n2 : Int)) {z z1 : ZI} {x1 : Int} (hzz : Zok z) (hx1 : InR x1) (hF : F_X9_spendDay a2 n2 z x1 = some ((), z1)) : YMv l D cA ad (2) yX9_spendDay cX9_spendDay 7 [.ref (ad 41), .int (i32 x1), .ref (ad a2)] z z1 :=
  Zmet hdj (by decide) rfl (Nat.le_of_ble_eq_true rfl) (lv := [(0, .ref (ad 41)), (1, .int (i32 (x1))), (2, .ref (ad a2))]) rfl (fun p e s m args below meth c ls S hr hlk hw hl => by
    have hR : 2 ≤ (Zrm (2)).frames ∧ 60 * (2) ≤ (Zrm (2)).locals := ⟨Nat.le_refl _, Nat.le_refl _⟩
    unfold F_X9_spendDay at hF
    revert hR
    generalize Zrm (2) = R
    intro hR
    refine lv_iconst (v := i32 0) S.1 S.2.1 dX9_spendDay_0 ic_0 ?_
    refine lv_istore_n (lv' := [(3, .int (i32 (0))), (0, .ref (ad 41)), (1, .int (i32 (x1))), (2, .ref (ad a2))]) S.1 S.2.1 dX9_spendDay_1 rfl hl (by decide) rfl (fun ls hl => ?_)
    refine lv_iconst (v := i32 0) S.1 S.2.1 dX9_spendDay_2 ic_0 ?_
    refine lv_istore (lv' := [(4, .int (i32 (0))), (3, .int (i32 (0))), (0, .ref (ad 41)), (1, .int (i32 (x1))), (2, .ref (ad a2))]) S.1 S.2.1 dX9_spendDay_3 hl (by decide) rfl (fun ls hl => ?_)
    exact w_X9_spendDay_L5 ha2 na2 bn2 S hr hlk hR hdj Zfuel _ _ _ _ _ _ _ hF hw hzz hx1 r_0 r_0 (lv_sub hl [2, 3, 4, 1, 0] rfl))
set_option maxRecDepth 100000 in
set_option maxHeartbeats 4000000 in
theorem w_X9_lineCost_b73 {RR : Int × ZI} (S : CallFix p m c cX9_lineCost 5 s args Ztbl RX9) (hr : meth.sig.returnType = some .int) (hlk : meth.locks = false) (hR : 3 ≤ R.frames ∧ 60 * (3) ≤ R.locals) (hdj : Zdj ad) {k38 : ZI → Int → Int → Option (Int × ZI)} (hk38 : ∀ (z : ZI) (x3 : Int) (x4 : Int) (H : Heap) (locs : List Loc) (ls : Array Slot), k38 z x3 x4 = some RR → ZW D cA ad (ZA ad) (Zc z) s H locs → Zok z → InR x3 → InR x4 → lv_has ls 5 [(0, .ref (ad 41)), (3, .int (i32 (x3))), (4, .int (i32 (x4)))] → W p l e R s m args below meth c H locs 0 0 (MQ below (YQi D cA ad RR.1 RR.2) args s 0 0 (ZA ad)) (F0 m 38 ls [])) : ∀ (z : ZI) (x4 : Int) (y0 : Int) (y1 : Int) (H : Heap) (locs : List Loc) (ls : Array Slot), X9_lineCost_b73 k38 z x4 y0 y1 = some RR → ZW D cA ad (ZA ad) (Zc z) s H locs → Zok z → InR x4 → InR y0 → InR y1 → lv_has ls 5 [(0, .ref (ad 41)), (4, .int (i32 (x4)))] → W p l e R s m args below meth c H locs 0 0 (MQ below (YQi D cA ad RR.1 RR.2) args s 0 0 (ZA ad)) (F0 m 73 ls [.int (i32 (y1)), .int (i32 (y0))]) := by
  intro z x4 y0 y1 H locs ls hF hw hzz hx4 hy0 hy1 hl
  unfold X9_lineCost_b73 at hF
  obtain ⟨g1_, hF⟩ := Zgs hF
  refine Yiadd S dX9_lineCost_73 ?_
  refine lv_istore_n (lv' := [(3, .int (i32 (y0 + y1))), (0, .ref (ad 41)), (4, .int (i32 (x4)))]) S.1 S.2.1 dX9_lineCost_74 rfl hl (by decide) rfl (fun ls hl => ?_)
  obtain ⟨g2_, hF⟩ := Zgs hF
  refine lv_iinc (v := i32 (x4 + 1)) (lv' := [(4, .int (i32 (x4 + 1))), (3, .int (i32 (y0 + y1))), (0, .ref (ad 41))]) S.1 S.2.1 dX9_lineCost_75 hl (k := 2) rfl Yiinc (by decide) rfl (fun ls hl => ?_)
  refine lv_goto (tgt := 38) S.1 S.2.1 dX9_lineCost_78 (by decide) ?_
  exact hk38 _ _ _ _ _ _ hF hw hzz g1_ g2_ (lv_sub hl [2, 1, 0] rfl)
set_option maxRecDepth 100000 in
set_option maxHeartbeats 4000000 in
theorem w_X9_lineCost_L38 {RR : Int × ZI} (S : CallFix p m c cX9_lineCost 5 s args Ztbl RX9) (hr : meth.sig.returnType = some .int) (hlk : meth.locks = false) (hR : 3 ≤ R.frames ∧ 60 * (3) ≤ R.locals) (hdj : Zdj ad) : ∀ (n : Nat) (z : ZI) (x3 : Int) (x4 : Int) (H : Heap) (locs : List Loc) (ls : Array Slot), X9_lineCost_L38 n z x3 x4 = some RR → ZW D cA ad (ZA ad) (Zc z) s H locs → Zok z → InR x3 → InR x4 → lv_has ls 5 [(0, .ref (ad 41)), (3, .int (i32 (x3))), (4, .int (i32 (x4)))] → W p l e R s m args below meth c H locs 0 0 (MQ below (YQi D cA ad RR.1 RR.2) args s 0 0 (ZA ad)) (F0 m 38 ls []) := by
  intro n
  induction n with
  | zero => intro z x3 x4 H locs ls hF; exact nomatch hF
  | succ n hk38 =>
    intro z x3 x4 H locs ls hF hw hzz hx3 hx4 hl
    replace hF : X9_lineCost_L38b (X9_lineCost_L38 n) z x3 x4 = some RR := hF
    unfold X9_lineCost_L38b at hF
    refine lv_iload S.1 S.2.1 dX9_lineCost_38 (lv_at hl 2 rfl) ?_
    refine lv_aload_n S.1 S.2.1 dX9_lineCost_40 rfl (lv_at hl 0 rfl) ?_
    refine gg_X9_68 S hw dX9_lineCost_41 ?_
    refine Yicmp_ge (tgt := 81) S hx4 (hzz.1 41 5 (by decide)) dX9_lineCost_44 (by decide) (fun c1_ => ?_) (fun c1_ => ?_)
    · replace hF := ZtP c1_ hF
      refine lv_iload_n S.1 S.2.1 dX9_lineCost_81 rfl (lv_at hl 1 rfl) ?_
      exact Yireti S hw hzz hx3 hr hlk hF dX9_lineCost_82
    · replace hF := ZtN c1_ hF
      refine lv_iload_n S.1 S.2.1 dX9_lineCost_47 rfl (lv_at hl 1 rfl) ?_
      refine lv_aload_n S.1 S.2.1 dX9_lineCost_48 rfl (lv_at hl 0 rfl) ?_
      refine gf_X9_42 S hw dX9_lineCost_49 ?_
      refine lv_iload S.1 S.2.1 dX9_lineCost_52 (lv_at hl 2 rfl) ?_
      obtain ⟨b2_, hF⟩ := Zgs hF
      refine Yiald S hw zd_50 (by decide) hx4 b2_ dX9_lineCost_54 ?_
      refine lv_bipush (v := i32 (-9)) S.1 S.2.1 dX9_lineCost_55 bp_m9 ?_
      refine Yicmp_ne (tgt := 66) S (hzz.1 _ _ (by decide)) r_m9 dX9_lineCost_57 (by decide) (fun c3_ => ?_) (fun c3_ => ?_)
      · replace hF := ZtN c3_ hF
        refine lv_aload_n S.1 S.2.1 dX9_lineCost_66 rfl (lv_at hl 0 rfl) ?_
        refine gf_X9_42 S hw dX9_lineCost_67 ?_
        refine lv_iload S.1 S.2.1 dX9_lineCost_70 (lv_at hl 2 rfl) ?_
        obtain ⟨b4_, hF⟩ := Zgs hF
        refine Yiald S hw zd_50 (by decide) hx4 b4_ dX9_lineCost_72 ?_
        exact w_X9_lineCost_b73 S hr hlk hR hdj hk38 _ _ _ _ _ _ _ hF hw hzz hx4 hx3 (hzz.1 _ _ (by decide)) (lv_sub hl [0, 2] rfl)
      · replace hF := ZtP c3_ hF
        refine lv_sipush (v := i32 1000) S.1 S.2.1 dX9_lineCost_60 sp_1000 ?_
        refine lv_goto (tgt := 73) S.1 S.2.1 dX9_lineCost_63 (by decide) ?_
        exact w_X9_lineCost_b73 S hr hlk hR hdj hk38 _ _ _ _ _ _ _ hF hw hzz hx4 hx3 r_1000 (lv_sub hl [0, 2] rfl)
set_option maxRecDepth 100000 in
set_option maxHeartbeats 4000000 in
theorem w_X9_lineCost_b24 {RR : Int × ZI} (S : CallFix p m c cX9_lineCost 5 s args Ztbl RX9) (hr : meth.sig.returnType = some .int) (hlk : meth.locks = false) (hR : 3 ≤ R.frames ∧ 60 * (3) ≤ R.locals) (hdj : Zdj ad) : ∀ (z : ZI) (x1 : Int) (H : Heap) (locs : List Loc) (ls : Array Slot), X9_lineCost_b24 z x1 = some RR → ZW D cA ad (ZA ad) (Zc z) s H locs → Zok z → InR x1 → lv_has ls 5 [(0, .ref (ad 41)), (1, .int (i32 (x1)))] → W p l e R s m args below meth c H locs 0 0 (MQ below (YQi D cA ad RR.1 RR.2) args s 0 0 (ZA ad)) (F0 m 24 ls []) := by
  intro z x1 H locs ls hF hw hzz hx1 hl
  unfold X9_lineCost_b24 at hF
  refine lv_aload_n S.1 S.2.1 dX9_lineCost_24 rfl (lv_at hl 0 rfl) ?_
  refine lv_iload_n S.1 S.2.1 dX9_lineCost_25 rfl (lv_at hl 1 rfl) ?_
  refine lv_aload_n S.1 S.2.1 dX9_lineCost_26 rfl (lv_at hl 0 rfl) ?_
  refine gf_X9_45 S hw dX9_lineCost_27 ?_
  obtain ⟨r3_, z1_, h2_, hF⟩ := Ybs hF
  refine YcallVv (rest := []) S hw (c_X9_spendDay hdj zd_51 (by decide) (by decide) hzz hx1 h2_) my_X9_spendDay mi_X9_spendDay ml_X9_106 zd_41 zc_X9 rfl (Zrr hR (by decide)) ⟨Nat.zero_le _, Nat.zero_le _⟩ hl.1 rfl rfl (Nat.le_of_ble_eq_true rfl) dX9_lineCost_30 (fun hzz1_ H locs hw => ?_)
  refine lv_iconst (v := i32 0) S.1 S.2.1 dX9_lineCost_33 ic_0 ?_
  refine lv_istore_n (lv' := [(3, .int (i32 (0))), (0, .ref (ad 41)), (1, .int (i32 (x1)))]) S.1 S.2.1 dX9_lineCost_34 rfl hl (by decide) rfl (fun ls hl => ?_)
  refine lv_iconst (v := i32 0) S.1 S.2.1 dX9_lineCost_35 ic_0 ?_
  refine lv_istore (lv' := [(4, .int (i32 (0))), (3, .int (i32 (0))), (0, .ref (ad 41)), (1, .int (i32 (x1)))]) S.1 S.2.1 dX9_lineCost_36 hl (by decide) rfl (fun ls hl => ?_)
  exact w_X9_lineCost_L38 S hr hlk hR hdj Zfuel _ _ _ _ _ _ hF hw hzz1_ r_0 r_0 (lv_sub hl [2, 1, 0] rfl)
set_option maxRecDepth 100000 in
set_option maxHeartbeats 4000000 in
theorem w_X9_lineCost_L2 {RR : Int × ZI} (S : CallFix p m c cX9_lineCost 5 s args Ztbl RX9) (hr : meth.sig.returnType = some .int) (hlk : meth.locks = false) (hR : 3 ≤ R.frames ∧ 60 * (3) ≤ R.locals) (hdj : Zdj ad) : ∀ (n : Nat) (z : ZI) (x1 : Int) (x2 : Int) (x3 : Int) (H : Heap) (locs : List Loc) (ls : Array Slot), X9_lineCost_L2 n z x1 x2 x3 = some RR → ZW D cA ad (ZA ad) (Zc z) s H locs → Zok z → InR x1 → InR x2 → InR x3 → lv_has ls 5 [(0, .ref (ad 41)), (1, .int (i32 (x1))), (2, .int (i32 (x2))), (3, .int (i32 (x3)))] → W p l e R s m args below meth c H locs 0 0 (MQ below (YQi D cA ad RR.1 RR.2) args s 0 0 (ZA ad)) (F0 m 2 ls []) := by
  intro n
  induction n with
  | zero => intro z x1 x2 x3 H locs ls hF; exact nomatch hF
  | succ n hk2 =>
    intro z x1 x2 x3 H locs ls hF hw hzz hx1 hx2 hx3 hl
    replace hF : X9_lineCost_L2b (X9_lineCost_L2 n) z x1 x2 x3 = some RR := hF
    unfold X9_lineCost_L2b at hF
    refine lv_iload_n S.1 S.2.1 dX9_lineCost_2 rfl (lv_at hl 3 rfl) ?_
    refine lv_iconst (v := i32 4) S.1 S.2.1 dX9_lineCost_3 ic_4 ?_
    refine Yicmp_ge (tgt := 24) S hx3 r_4 dX9_lineCost_4 (by decide) (fun c1_ => ?_) (fun c1_ => ?_)
    · replace hF := ZtP c1_ hF
      exact w_X9_lineCost_b24 S hr hlk hR hdj _ _ _ _ _ hF hw hzz hx1 (lv_sub hl [0, 1] rfl)
    · replace hF := ZtN c1_ hF
      refine lv_aload_n S.1 S.2.1 dX9_lineCost_7 rfl (lv_at hl 0 rfl) ?_
      refine gf_X9_45 S hw dX9_lineCost_8 ?_
      refine lv_iload_n S.1 S.2.1 dX9_lineCost_11 rfl (lv_at hl 3 rfl) ?_
      refine lv_iload_n S.1 S.2.1 dX9_lineCost_12 rfl (lv_at hl 2 rfl) ?_
      refine lv_iload_n S.1 S.2.1 dX9_lineCost_13 rfl (lv_at hl 3 rfl) ?_
      obtain ⟨r4_, z2_, h3_, hF⟩ := Ybs hF
      refine YcallSi (rest := [.int (i32 (x3)), .ref (ad 51)]) S hw (c_X9_beginIn hdj hzz hx2 hx3 h3_) my_X9_beginIn ms_X9_beginIn ml_X9_124 (Zrr hR (by decide)) ⟨Nat.zero_le _, Nat.zero_le _⟩ hl.1 rfl rfl (Nat.le_of_ble_eq_true rfl) dX9_lineCost_14 (fun hrr4_ hzz2_ H locs hw => ?_)
      obtain ⟨b5_, hF⟩ := Zgs hF
      refine Yiast S hw hzz2_ zd_51 (by decide) hx3 hrr4_ b5_ dX9_lineCost_17 (fun z6_ H locs ez hzz6_ hw => ?_)
      replace hF := Zle ez hF; clear ez
      obtain ⟨g7_, hF⟩ := Zgs hF
      refine lv_iinc (v := i32 (x3 + 1)) (lv' := [(3, .int (i32 (x3 + 1))), (0, .ref (ad 41)), (1, .int (i32 (x1))), (2, .int (i32 (x2)))]) S.1 S.2.1 dX9_lineCost_18 hl (k := 3) rfl Yiinc (by decide) rfl (fun ls hl => ?_)
      refine lv_goto (tgt := 2) S.1 S.2.1 dX9_lineCost_21 (by decide) ?_
      exact hk2 _ _ _ _ _ _ _ hF hw hzz6_ hx1 hx2 g7_ (lv_sub hl [1, 2, 3, 0] rfl)
set_option maxRecDepth 100000 in
set_option maxHeartbeats 4000000 in
theorem c_X9_lineCost {l : Launch} {D : va_G} {cA : Nat → ClassId} {ad : Nat → Nat} (hdj : Zdj ad) {z z1 : ZI} {x1 : Int} {x2 : Int} {r : Int} (hzz : Zok z) (hx1 : InR x1) (hx2 : InR x2) (hF : F_X9_lineCost z x1 x2 = some (r, z1)) : YMi l D cA ad (3) yX9_lineCost cX9_lineCost 5 (some .int) [.ref (ad 41), .int (i32 x1), .int (i32 x2)] z r z1 :=
  Zmet hdj (by decide) rfl (Nat.le_of_ble_eq_true rfl) (lv := [(0, .ref (ad 41)), (1, .int (i32 (x1))), (2, .int (i32 (x2)))]) rfl (fun p e s m args below meth c ls S hr hlk hw hl => by
    have hR : 3 ≤ (Zrm (3)).frames ∧ 60 * (3) ≤ (Zrm (3)).locals := ⟨Nat.le_refl _, Nat.le_refl _⟩
    unfold F_X9_lineCost at hF
    revert hR
    generalize Zrm (3) = R
    intro hR
    refine lv_iconst (v := i32 0) S.1 S.2.1 dX9_lineCost_0 ic_0 ?_
    refine lv_istore_n (lv' := [(3, .int (i32 (0))), (0, .ref (ad 41)), (1, .int (i32 (x1))), (2, .int (i32 (x2)))]) S.1 S.2.1 dX9_lineCost_1 rfl hl (by decide) rfl (fun ls hl => ?_)
    exact w_X9_lineCost_L2 S hr hlk hR hdj Zfuel _ _ _ _ _ _ _ hF hw hzz hx1 hx2 r_0 (lv_sub hl [1, 2, 3, 0] rfl))
end ZWALK
