section ZWALK
variable {p : Program} {l : Launch} {e : Env} {R : Room} {s : State} {m : MethodId} {args : Array Value} {below : List Frame} {meth : Method} {c : Code}
variable {D : va_G} {cA : Nat → ClassId} {ad : Nat → Nat}
set_option maxRecDepth 100000 in
set_option maxHeartbeats 4000000 in
theorem w_X11_foulWells_b159 {RR : Int × ZI} (S : CallFix p m c cX11_foulWells 5 s args Ztbl RX11) (hr : meth.sig.returnType = some .int) (hlk : meth.locks = false) (hR : 1 ≤ R.frames ∧ 60 * (1) ≤ R.locals) (hdj : Zdj ad) {k126 : ZI → Int → Int → Option (Int × ZI)} (hk126 : ∀ (z : ZI) (x3 : Int) (x4 : Int) (H : Heap) (locs : List Loc) (ls : Array Slot), k126 z x3 x4 = some RR → ZW D cA ad (ZA ad) (Zc z) s H locs → Zok z → InR x3 → InR x4 → lv_has ls 5 [(0, .ref (ad 68)), (3, .int (i32 (x3))), (4, .int (i32 (x4)))] → W p l e R s m args below meth c H locs 0 0 (MQ below (YQi D cA ad RR.1 RR.2) args s 0 0 (ZA ad)) (F0 m 126 ls [])) : ∀ (z : ZI) (x4 : Int) (y0 : Int) (y1 : Int) (H : Heap) (locs : List Loc) (ls : Array Slot), X11_foulWells_b159 k126 z x4 y0 y1 = some RR → ZW D cA ad (ZA ad) (Zc z) s H locs → Zok z → InR x4 → InR y0 → InR y1 → lv_has ls 5 [(0, .ref (ad 68)), (4, .int (i32 (x4)))] → W p l e R s m args below meth c H locs 0 0 (MQ below (YQi D cA ad RR.1 RR.2) args s 0 0 (ZA ad)) (F0 m 159 ls [.int (i32 (y1)), .int (i32 (y0))]) := by
  intro z x4 y0 y1 H locs ls hF hw hzz hx4 hy0 hy1 hl
  unfold X11_foulWells_b159 at hF
  refine Yior S dX11_foulWells_159 ?_
  refine lv_istore_n (lv' := [(3, .int (i32 (jor y0 y1))), (0, .ref (ad 68)), (4, .int (i32 (x4)))]) S.1 S.2.1 dX11_foulWells_160 rfl hl (by decide) rfl (fun ls hl => ?_)
  obtain ⟨g1_, hF⟩ := Zgs hF
  refine lv_iinc (v := i32 (x4 + 1)) (lv' := [(4, .int (i32 (x4 + 1))), (3, .int (i32 (jor y0 y1))), (0, .ref (ad 68))]) S.1 S.2.1 dX11_foulWells_161 hl (k := 2) rfl Yiinc (by decide) rfl (fun ls hl => ?_)
  refine lv_goto (tgt := 126) S.1 S.2.1 dX11_foulWells_164 (by decide) ?_
  exact hk126 _ _ _ _ _ _ hF hw hzz (InR_of _) g1_ (lv_sub hl [2, 1, 0] rfl)
set_option maxRecDepth 100000 in
set_option maxHeartbeats 4000000 in
theorem w_X11_foulWells_L126 {RR : Int × ZI} (S : CallFix p m c cX11_foulWells 5 s args Ztbl RX11) (hr : meth.sig.returnType = some .int) (hlk : meth.locks = false) (hR : 1 ≤ R.frames ∧ 60 * (1) ≤ R.locals) (hdj : Zdj ad) : ∀ (n : Nat) (z : ZI) (x3 : Int) (x4 : Int) (H : Heap) (locs : List Loc) (ls : Array Slot), X11_foulWells_L126 n z x3 x4 = some RR → ZW D cA ad (ZA ad) (Zc z) s H locs → Zok z → InR x3 → InR x4 → lv_has ls 5 [(0, .ref (ad 68)), (3, .int (i32 (x3))), (4, .int (i32 (x4)))] → W p l e R s m args below meth c H locs 0 0 (MQ below (YQi D cA ad RR.1 RR.2) args s 0 0 (ZA ad)) (F0 m 126 ls []) := by
  intro n
  induction n with
  | zero => intro z x3 x4 H locs ls hF; exact nomatch hF
  | succ n hk126 =>
    intro z x3 x4 H locs ls hF hw hzz hx3 hx4 hl
    replace hF : X11_foulWells_L126b (X11_foulWells_L126 n) z x3 x4 = some RR := hF
    unfold X11_foulWells_L126b at hF
    refine lv_iload S.1 S.2.1 dX11_foulWells_126 (lv_at hl 2 rfl) ?_
    refine lv_aload_n S.1 S.2.1 dX11_foulWells_128 rfl (lv_at hl 0 rfl) ?_
    refine gg_X11_369 S hw dX11_foulWells_129 ?_
    refine Yicmp_ge (tgt := 167) S hx4 (hzz.1 68 47 (by decide)) dX11_foulWells_132 (by decide) (fun c1_ => ?_) (fun c1_ => ?_)
    · replace hF := ZtP c1_ hF
      refine lv_iload_n S.1 S.2.1 dX11_foulWells_167 rfl (lv_at hl 1 rfl) ?_
      exact Yireti S hw hzz hx3 hr hlk hF dX11_foulWells_168
    · replace hF := ZtN c1_ hF
      refine lv_iload_n S.1 S.2.1 dX11_foulWells_135 rfl (lv_at hl 1 rfl) ?_
      refine lv_aload_n S.1 S.2.1 dX11_foulWells_136 rfl (lv_at hl 0 rfl) ?_
      refine gf_X11_147 S hw dX11_foulWells_137 ?_
      refine lv_aload_n S.1 S.2.1 dX11_foulWells_140 rfl (lv_at hl 0 rfl) ?_
      refine gf_X11_90 S hw dX11_foulWells_141 ?_
      refine lv_iload S.1 S.2.1 dX11_foulWells_144 (lv_at hl 2 rfl) ?_
      obtain ⟨b2_, hF⟩ := Zgs hF
      refine Yiald S hw zd_95 (by decide) hx4 b2_ dX11_foulWells_146 ?_
      obtain ⟨b3_, hF⟩ := Zgs hF
      refine Yzald S hw zd_114 (by decide) (hzz.1 _ _ (by decide)) b3_ dX11_foulWells_147 ?_
      refine Yif_eq (tgt := 158) S (hzz.1 _ _ (by decide)) dX11_foulWells_148 (by decide) (fun c4_ => ?_) (fun c4_ => ?_)
      · replace hF := ZtP c4_ hF
        refine lv_iconst (v := i32 0) S.1 S.2.1 dX11_foulWells_158 ic_0 ?_
        exact w_X11_foulWells_b159 S hr hlk hR hdj hk126 _ _ _ _ _ _ _ hF hw hzz hx4 hx3 r_0 (lv_sub hl [0, 2] rfl)
      · replace hF := ZtN c4_ hF
        refine lv_iconst (v := i32 1) S.1 S.2.1 dX11_foulWells_151 ic_1 ?_
        refine lv_iload S.1 S.2.1 dX11_foulWells_152 (lv_at hl 2 rfl) ?_
        refine Yishl S dX11_foulWells_154 ?_
        refine lv_goto (tgt := 159) S.1 S.2.1 dX11_foulWells_155 (by decide) ?_
        exact w_X11_foulWells_b159 S hr hlk hR hdj hk126 _ _ _ _ _ _ _ hF hw hzz hx4 hx3 (InR_of _) (lv_sub hl [0, 2] rfl)
set_option maxRecDepth 100000 in
set_option maxHeartbeats 4000000 in
theorem w_X11_foulWells_b121 {RR : Int × ZI} (S : CallFix p m c cX11_foulWells 5 s args Ztbl RX11) (hr : meth.sig.returnType = some .int) (hlk : meth.locks = false) (hR : 1 ≤ R.frames ∧ 60 * (1) ≤ R.locals) (hdj : Zdj ad) : ∀ (z : ZI) (H : Heap) (locs : List Loc) (ls : Array Slot), X11_foulWells_b121 z  = some RR → ZW D cA ad (ZA ad) (Zc z) s H locs → Zok z → lv_has ls 5 [(0, .ref (ad 68))] → W p l e R s m args below meth c H locs 0 0 (MQ below (YQi D cA ad RR.1 RR.2) args s 0 0 (ZA ad)) (F0 m 121 ls []) := by
  intro z  H locs ls hF hw hzz  hl
  unfold X11_foulWells_b121 at hF
  refine lv_iconst (v := i32 0) S.1 S.2.1 dX11_foulWells_121 ic_0 ?_
  refine lv_istore_n (lv' := [(3, .int (i32 (0))), (0, .ref (ad 68))]) S.1 S.2.1 dX11_foulWells_122 rfl hl (by decide) rfl (fun ls hl => ?_)
  refine lv_iconst (v := i32 0) S.1 S.2.1 dX11_foulWells_123 ic_0 ?_
  refine lv_istore (lv' := [(4, .int (i32 (0))), (3, .int (i32 (0))), (0, .ref (ad 68))]) S.1 S.2.1 dX11_foulWells_124 hl (by decide) rfl (fun ls hl => ?_)
  exact w_X11_foulWells_L126 S hr hlk hR hdj Zfuel _ _ _ _ _ _ hF hw hzz r_0 r_0 (lv_sub hl [2, 1, 0] rfl)
set_option maxRecDepth 100000 in
set_option maxHeartbeats 4000000 in
theorem w_X11_foulWells_b115 {RR : Int × ZI} (S : CallFix p m c cX11_foulWells 5 s args Ztbl RX11) (hr : meth.sig.returnType = some .int) (hlk : meth.locks = false) (hR : 1 ≤ R.frames ∧ 60 * (1) ≤ R.locals) (hdj : Zdj ad) {k30 : ZI → Int → Option (Int × ZI)} (hk30 : ∀ (z : ZI) (x3 : Int) (H : Heap) (locs : List Loc) (ls : Array Slot), k30 z x3 = some RR → ZW D cA ad (ZA ad) (Zc z) s H locs → Zok z → InR x3 → lv_has ls 5 [(0, .ref (ad 68)), (3, .int (i32 (x3)))] → W p l e R s m args below meth c H locs 0 0 (MQ below (YQi D cA ad RR.1 RR.2) args s 0 0 (ZA ad)) (F0 m 30 ls [])) : ∀ (z : ZI) (x3 : Int) (H : Heap) (locs : List Loc) (ls : Array Slot), X11_foulWells_b115 k30 z x3 = some RR → ZW D cA ad (ZA ad) (Zc z) s H locs → Zok z → InR x3 → lv_has ls 5 [(0, .ref (ad 68)), (3, .int (i32 (x3)))] → W p l e R s m args below meth c H locs 0 0 (MQ below (YQi D cA ad RR.1 RR.2) args s 0 0 (ZA ad)) (F0 m 115 ls []) := by
  intro z x3 H locs ls hF hw hzz hx3 hl
  unfold X11_foulWells_b115 at hF
  obtain ⟨g1_, hF⟩ := Zgs hF
  refine lv_iinc (v := i32 (x3 + 1)) (lv' := [(3, .int (i32 (x3 + 1))), (0, .ref (ad 68))]) S.1 S.2.1 dX11_foulWells_115 hl (k := 1) rfl Yiinc (by decide) rfl (fun ls hl => ?_)
  refine lv_goto (tgt := 30) S.1 S.2.1 dX11_foulWells_118 (by decide) ?_
  exact hk30 _ _ _ _ _ hF hw hzz g1_ (lv_sub hl [1, 0] rfl)
set_option maxRecDepth 100000 in
set_option maxHeartbeats 4000000 in
theorem w_X11_foulWells_b110 {RR : Int × ZI} (S : CallFix p m c cX11_foulWells 5 s args Ztbl RX11) (hr : meth.sig.returnType = some .int) (hlk : meth.locks = false) (hR : 1 ≤ R.frames ∧ 60 * (1) ≤ R.locals) (hdj : Zdj ad) {k30 : ZI → Int → Option (Int × ZI)} (hk30 : ∀ (z : ZI) (x3 : Int) (H : Heap) (locs : List Loc) (ls : Array Slot), k30 z x3 = some RR → ZW D cA ad (ZA ad) (Zc z) s H locs → Zok z → InR x3 → lv_has ls 5 [(0, .ref (ad 68)), (3, .int (i32 (x3)))] → W p l e R s m args below meth c H locs 0 0 (MQ below (YQi D cA ad RR.1 RR.2) args s 0 0 (ZA ad)) (F0 m 30 ls [])) {k75 : ZI → Int → Int → Option (Int × ZI)} (hk75 : ∀ (z : ZI) (x3 : Int) (x4 : Int) (H : Heap) (locs : List Loc) (ls : Array Slot), k75 z x3 x4 = some RR → ZW D cA ad (ZA ad) (Zc z) s H locs → Zok z → InR x3 → InR x4 → lv_has ls 5 [(0, .ref (ad 68)), (3, .int (i32 (x3))), (4, .int (i32 (x4)))] → W p l e R s m args below meth c H locs 0 0 (MQ below (YQi D cA ad RR.1 RR.2) args s 0 0 (ZA ad)) (F0 m 75 ls [])) : ∀ (z : ZI) (x3 : Int) (y0 : Int) (H : Heap) (locs : List Loc) (ls : Array Slot), X11_foulWells_b110 k30 k75 z x3 y0 = some RR → ZW D cA ad (ZA ad) (Zc z) s H locs → Zok z → InR x3 → InR y0 → lv_has ls 5 [(0, .ref (ad 68)), (3, .int (i32 (x3)))] → W p l e R s m args below meth c H locs 0 0 (MQ below (YQi D cA ad RR.1 RR.2) args s 0 0 (ZA ad)) (F0 m 110 ls [.int (i32 (y0))]) := by
  intro z x3 y0 H locs ls hF hw hzz hx3 hy0 hl
  unfold X11_foulWells_b110 at hF
  refine lv_istore (lv' := [(4, .int (i32 (y0))), (0, .ref (ad 68)), (3, .int (i32 (x3)))]) S.1 S.2.1 dX11_foulWells_110 hl (by decide) rfl (fun ls hl => ?_)
  refine lv_goto (tgt := 75) S.1 S.2.1 dX11_foulWells_112 (by decide) ?_
  exact hk75 _ _ _ _ _ _ hF hw hzz hx3 hy0 (lv_sub hl [1, 2, 0] rfl)
set_option maxRecDepth 100000 in
set_option maxHeartbeats 4000000 in
theorem w_X11_foulWells_L75 {RR : Int × ZI} (S : CallFix p m c cX11_foulWells 5 s args Ztbl RX11) (hr : meth.sig.returnType = some .int) (hlk : meth.locks = false) (hR : 1 ≤ R.frames ∧ 60 * (1) ≤ R.locals) (hdj : Zdj ad) {k30 : ZI → Int → Option (Int × ZI)} (hk30 : ∀ (z : ZI) (x3 : Int) (H : Heap) (locs : List Loc) (ls : Array Slot), k30 z x3 = some RR → ZW D cA ad (ZA ad) (Zc z) s H locs → Zok z → InR x3 → lv_has ls 5 [(0, .ref (ad 68)), (3, .int (i32 (x3)))] → W p l e R s m args below meth c H locs 0 0 (MQ below (YQi D cA ad RR.1 RR.2) args s 0 0 (ZA ad)) (F0 m 30 ls [])) : ∀ (n : Nat) (z : ZI) (x3 : Int) (x4 : Int) (H : Heap) (locs : List Loc) (ls : Array Slot), X11_foulWells_L75 k30 n z x3 x4 = some RR → ZW D cA ad (ZA ad) (Zc z) s H locs → Zok z → InR x3 → InR x4 → lv_has ls 5 [(0, .ref (ad 68)), (3, .int (i32 (x3))), (4, .int (i32 (x4)))] → W p l e R s m args below meth c H locs 0 0 (MQ below (YQi D cA ad RR.1 RR.2) args s 0 0 (ZA ad)) (F0 m 75 ls []) := by
  intro n
  induction n with
  | zero => intro z x3 x4 H locs ls hF; exact nomatch hF
  | succ n hk75 =>
    intro z x3 x4 H locs ls hF hw hzz hx3 hx4 hl
    replace hF : X11_foulWells_L75b k30 (X11_foulWells_L75 k30 n) z x3 x4 = some RR := hF
    unfold X11_foulWells_L75b at hF
    refine lv_iload S.1 S.2.1 dX11_foulWells_75 (lv_at hl 2 rfl) ?_
    refine Yif_lt (tgt := 115) S hx4 dX11_foulWells_77 (by decide) (fun c1_ => ?_) (fun c1_ => ?_)
    · replace hF := ZtP c1_ hF
      exact w_X11_foulWells_b115 S hr hlk hR hdj hk30 _ _ _ _ _ hF hw hzz hx3 (lv_sub hl [0, 1] rfl)
    · replace hF := ZtN c1_ hF
      refine lv_aload_n S.1 S.2.1 dX11_foulWells_80 rfl (lv_at hl 0 rfl) ?_
      refine gf_X11_147 S hw dX11_foulWells_81 ?_
      refine lv_iload S.1 S.2.1 dX11_foulWells_84 (lv_at hl 2 rfl) ?_
      refine lv_iconst (v := i32 1) S.1 S.2.1 dX11_foulWells_86 ic_1 ?_
      obtain ⟨b2_, hF⟩ := Zgs hF
      refine Yzast S hw hzz zd_114 (by decide) hx4 r_1 (Or.inr rfl) b2_ dX11_foulWells_87 (fun z3_ H locs ez hzz3_ hw => ?_)
      replace hF := Zle ez hF; clear ez
      refine lv_aload_n S.1 S.2.1 dX11_foulWells_88 rfl (lv_at hl 0 rfl) ?_
      refine gf_X11_144 S hw dX11_foulWells_89 ?_
      refine lv_iload S.1 S.2.1 dX11_foulWells_92 (lv_at hl 2 rfl) ?_
      obtain ⟨b4_, hF⟩ := Zgs hF
      refine Yzald S hw zd_113 (by decide) hx4 b4_ dX11_foulWells_94 ?_
      refine Yif_eq (tgt := 103) S (hzz3_.1 _ _ (by decide)) dX11_foulWells_95 (by decide) (fun c5_ => ?_) (fun c5_ => ?_)
      · replace hF := ZtP c5_ hF
        refine lv_aload_n S.1 S.2.1 dX11_foulWells_103 rfl (lv_at hl 0 rfl) ?_
        refine gf_X11_141 S hw dX11_foulWells_104 ?_
        refine lv_iload S.1 S.2.1 dX11_foulWells_107 (lv_at hl 2 rfl) ?_
        obtain ⟨b6_, hF⟩ := Zgs hF
        refine Yiald S hw zd_112 (by decide) hx4 b6_ dX11_foulWells_109 ?_
        exact w_X11_foulWells_b110 S hr hlk hR hdj hk30 hk75 _ _ _ _ _ _ hF hw hzz3_ hx3 (hzz3_.1 _ _ (by decide)) (lv_sub hl [0, 1] rfl)
      · replace hF := ZtN c5_ hF
        refine lv_bipush (v := i32 (-9)) S.1 S.2.1 dX11_foulWells_98 bp_m9 ?_
        refine lv_goto (tgt := 110) S.1 S.2.1 dX11_foulWells_100 (by decide) ?_
        exact w_X11_foulWells_b110 S hr hlk hR hdj hk30 hk75 _ _ _ _ _ _ hF hw hzz3_ hx3 r_m9 (lv_sub hl [0, 1] rfl)
set_option maxRecDepth 100000 in
set_option maxHeartbeats 4000000 in
theorem w_X11_foulWells_L30 {RR : Int × ZI} (S : CallFix p m c cX11_foulWells 5 s args Ztbl RX11) (hr : meth.sig.returnType = some .int) (hlk : meth.locks = false) (hR : 1 ≤ R.frames ∧ 60 * (1) ≤ R.locals) (hdj : Zdj ad) : ∀ (n : Nat) (z : ZI) (x3 : Int) (H : Heap) (locs : List Loc) (ls : Array Slot), X11_foulWells_L30 n z x3 = some RR → ZW D cA ad (ZA ad) (Zc z) s H locs → Zok z → InR x3 → lv_has ls 5 [(0, .ref (ad 68)), (3, .int (i32 (x3)))] → W p l e R s m args below meth c H locs 0 0 (MQ below (YQi D cA ad RR.1 RR.2) args s 0 0 (ZA ad)) (F0 m 30 ls []) := by
  intro n
  induction n with
  | zero => intro z x3 H locs ls hF; exact nomatch hF
  | succ n hk30 =>
    intro z x3 H locs ls hF hw hzz hx3 hl
    replace hF : X11_foulWells_L30b (X11_foulWells_L30 n) z x3 = some RR := hF
    unfold X11_foulWells_L30b at hF
    refine lv_iload_n S.1 S.2.1 dX11_foulWells_30 rfl (lv_at hl 1 rfl) ?_
    refine lv_aload_n S.1 S.2.1 dX11_foulWells_31 rfl (lv_at hl 0 rfl) ?_
    refine gg_X11_409 S hw dX11_foulWells_32 ?_
    refine Yicmp_ge (tgt := 121) S hx3 (hzz.1 68 61 (by decide)) dX11_foulWells_35 (by decide) (fun c1_ => ?_) (fun c1_ => ?_)
    · replace hF := ZtP c1_ hF
      exact w_X11_foulWells_b121 S hr hlk hR hdj _ _ _ _ hF hw hzz  (lv_sub hl [0] rfl)
    · replace hF := ZtN c1_ hF
      refine lv_aload_n S.1 S.2.1 dX11_foulWells_38 rfl (lv_at hl 0 rfl) ?_
      refine gf_X11_129 S hw dX11_foulWells_39 ?_
      refine lv_iload_n S.1 S.2.1 dX11_foulWells_42 rfl (lv_at hl 1 rfl) ?_
      obtain ⟨b2_, hF⟩ := Zgs hF
      refine Yiald S hw zd_108 (by decide) hx3 b2_ dX11_foulWells_43 ?_
      refine lv_istore (lv' := [(4, .int (i32 (z 108 x3))), (0, .ref (ad 68)), (3, .int (i32 (x3)))]) S.1 S.2.1 dX11_foulWells_44 hl (by decide) rfl (fun ls hl => ?_)
      refine lv_aload_n S.1 S.2.1 dX11_foulWells_46 rfl (lv_at hl 1 rfl) ?_
      refine gf_X11_144 S hw dX11_foulWells_47 ?_
      refine lv_iload S.1 S.2.1 dX11_foulWells_50 (lv_at hl 0 rfl) ?_
      obtain ⟨b3_, hF⟩ := Zgs hF
      refine Yzald S hw zd_113 (by decide) (hzz.1 _ _ (by decide)) b3_ dX11_foulWells_52 ?_
      refine Yif_ne (tgt := 115) S (hzz.1 _ _ (by decide)) dX11_foulWells_53 (by decide) (fun c4_ => ?_) (fun c4_ => ?_)
      · replace hF := ZtN c4_ hF
        exact w_X11_foulWells_b115 S hr hlk hR hdj hk30 _ _ _ _ _ hF hw hzz hx3 (lv_sub hl [1, 2] rfl)
      · replace hF := ZtP c4_ hF
        refine lv_aload_n S.1 S.2.1 dX11_foulWells_56 rfl (lv_at hl 1 rfl) ?_
        refine gf_X11_138 S hw dX11_foulWells_57 ?_
        refine lv_iload S.1 S.2.1 dX11_foulWells_60 (lv_at hl 0 rfl) ?_
        obtain ⟨b5_, hF⟩ := Zgs hF
        refine Yiald S hw zd_111 (by decide) (hzz.1 _ _ (by decide)) b5_ dX11_foulWells_62 ?_
        refine lv_aload_n S.1 S.2.1 dX11_foulWells_63 rfl (lv_at hl 1 rfl) ?_
        refine gf_X11_132 S hw dX11_foulWells_64 ?_
        refine lv_iload_n S.1 S.2.1 dX11_foulWells_67 rfl (lv_at hl 2 rfl) ?_
        obtain ⟨b6_, hF⟩ := Zgs hF
        refine Yiald S hw zd_109 (by decide) hx3 b6_ dX11_foulWells_68 ?_
        refine Yicmp_ge (tgt := 75) S (hzz.1 _ _ (by decide)) (hzz.1 _ _ (by decide)) dX11_foulWells_69 (by decide) (fun c7_ => ?_) (fun c7_ => ?_)
        · replace hF := ZtP c7_ hF
          exact w_X11_foulWells_L75 S hr hlk hR hdj hk30 Zfuel _ _ _ _ _ _ hF hw hzz hx3 (hzz.1 _ _ (by decide)) (lv_sub hl [1, 2, 0] rfl)
        · replace hF := ZtN c7_ hF
          refine lv_goto (tgt := 115) S.1 S.2.1 dX11_foulWells_72 (by decide) ?_
          exact w_X11_foulWells_b115 S hr hlk hR hdj hk30 _ _ _ _ _ hF hw hzz hx3 (lv_sub hl [1, 2] rfl)
set_option maxRecDepth 100000 in
set_option maxHeartbeats 4000000 in
theorem w_X11_foulWells_b28 {RR : Int × ZI} (S : CallFix p m c cX11_foulWells 5 s args Ztbl RX11) (hr : meth.sig.returnType = some .int) (hlk : meth.locks = false) (hR : 1 ≤ R.frames ∧ 60 * (1) ≤ R.locals) (hdj : Zdj ad) : ∀ (z : ZI) (H : Heap) (locs : List Loc) (ls : Array Slot), X11_foulWells_b28 z  = some RR → ZW D cA ad (ZA ad) (Zc z) s H locs → Zok z → lv_has ls 5 [(0, .ref (ad 68))] → W p l e R s m args below meth c H locs 0 0 (MQ below (YQi D cA ad RR.1 RR.2) args s 0 0 (ZA ad)) (F0 m 28 ls []) := by
  intro z  H locs ls hF hw hzz  hl
  unfold X11_foulWells_b28 at hF
  refine lv_iconst (v := i32 0) S.1 S.2.1 dX11_foulWells_28 ic_0 ?_
  refine lv_istore_n (lv' := [(3, .int (i32 (0))), (0, .ref (ad 68))]) S.1 S.2.1 dX11_foulWells_29 rfl hl (by decide) rfl (fun ls hl => ?_)
  exact w_X11_foulWells_L30 S hr hlk hR hdj Zfuel _ _ _ _ _ hF hw hzz r_0 (lv_sub hl [1, 0] rfl)
set_option maxRecDepth 100000 in
set_option maxHeartbeats 4000000 in
theorem w_X11_foulWells_L8 {RR : Int × ZI} (S : CallFix p m c cX11_foulWells 5 s args Ztbl RX11) (hr : meth.sig.returnType = some .int) (hlk : meth.locks = false) (hR : 1 ≤ R.frames ∧ 60 * (1) ≤ R.locals) (hdj : Zdj ad) : ∀ (n : Nat) (z : ZI) (x3 : Int) (H : Heap) (locs : List Loc) (ls : Array Slot), X11_foulWells_L8 n z x3 = some RR → ZW D cA ad (ZA ad) (Zc z) s H locs → Zok z → InR x3 → lv_has ls 5 [(0, .ref (ad 68)), (3, .int (i32 (x3)))] → W p l e R s m args below meth c H locs 0 0 (MQ below (YQi D cA ad RR.1 RR.2) args s 0 0 (ZA ad)) (F0 m 8 ls []) := by
  intro n
  induction n with
  | zero => intro z x3 H locs ls hF; exact nomatch hF
  | succ n hk8 =>
    intro z x3 H locs ls hF hw hzz hx3 hl
    replace hF : X11_foulWells_L8b (X11_foulWells_L8 n) z x3 = some RR := hF
    unfold X11_foulWells_L8b at hF
    refine lv_iload_n S.1 S.2.1 dX11_foulWells_8 rfl (lv_at hl 1 rfl) ?_
    refine lv_sipush (v := i32 144) S.1 S.2.1 dX11_foulWells_9 sp_144 ?_
    refine Yicmp_ge (tgt := 28) S hx3 r_144 dX11_foulWells_12 (by decide) (fun c1_ => ?_) (fun c1_ => ?_)
    · replace hF := ZtP c1_ hF
      exact w_X11_foulWells_b28 S hr hlk hR hdj _ _ _ _ hF hw hzz  (lv_sub hl [0] rfl)
    · replace hF := ZtN c1_ hF
      refine lv_aload_n S.1 S.2.1 dX11_foulWells_15 rfl (lv_at hl 0 rfl) ?_
      refine gf_X11_147 S hw dX11_foulWells_16 ?_
      refine lv_iload_n S.1 S.2.1 dX11_foulWells_19 rfl (lv_at hl 1 rfl) ?_
      refine lv_iconst (v := i32 0) S.1 S.2.1 dX11_foulWells_20 ic_0 ?_
      obtain ⟨b2_, hF⟩ := Zgs hF
      refine Yzast S hw hzz zd_114 (by decide) hx3 r_0 (Or.inl rfl) b2_ dX11_foulWells_21 (fun z3_ H locs ez hzz3_ hw => ?_)
      replace hF := Zle ez hF; clear ez
      obtain ⟨g4_, hF⟩ := Zgs hF
      refine lv_iinc (v := i32 (x3 + 1)) (lv' := [(3, .int (i32 (x3 + 1))), (0, .ref (ad 68))]) S.1 S.2.1 dX11_foulWells_22 hl (k := 1) rfl Yiinc (by decide) rfl (fun ls hl => ?_)
      refine lv_goto (tgt := 8) S.1 S.2.1 dX11_foulWells_25 (by decide) ?_
      exact hk8 _ _ _ _ _ hF hw hzz3_ g4_ (lv_sub hl [1, 0] rfl)
set_option maxRecDepth 100000 in
set_option maxHeartbeats 4000000 in
theorem c_X11_foulWells {l : Launch} {D : va_G} {cA : Nat → ClassId} {ad : Nat → Nat} (hdj : Zdj ad) {z z1 : ZI} {x1 : Int} {x2 : Int} {r : Int} (hzz : Zok z) (hx1 : InR x1) (hx2 : InR x2) (hF : F_X11_foulWells z x1 x2 = some (r, z1)) : YMi l D cA ad (1) yX11_foulWells cX11_foulWells 5 (some .int) [.ref (ad 68), .int (i32 x1), .int (i32 x2)] z r z1 :=
  Zmet hdj (by decide) rfl (Nat.le_of_ble_eq_true rfl) (lv := [(0, .ref (ad 68)), (1, .int (i32 (x1))), (2, .int (i32 (x2)))]) rfl (fun p e s m args below meth c ls S hr hlk hw hl => by
    have hR : 1 ≤ (Zrm (1)).frames ∧ 60 * (1) ≤ (Zrm (1)).locals := ⟨Nat.le_refl _, Nat.le_refl _⟩
    unfold F_X11_foulWells at hF
    revert hR
    generalize Zrm (1) = R
    intro hR
    refine lv_aload_n S.1 S.2.1 dX11_foulWells_0 rfl (lv_at hl 0 rfl) ?_
    refine lv_iload_n S.1 S.2.1 dX11_foulWells_1 rfl (lv_at hl 1 rfl) ?_
    refine lv_iload_n S.1 S.2.1 dX11_foulWells_2 rfl (lv_at hl 2 rfl) ?_
    obtain ⟨r3_, z1_, h2_, hF⟩ := Ybs hF
    refine YcallVv (rest := []) S hw (c_X11_rains hdj hzz hx1 hx2 h2_) my_X11_rains mi_X11_rains ml_X11_418 zd_68 zc_X11 rfl (Zrr hR (by decide)) ⟨Nat.zero_le _, Nat.zero_le _⟩ hl.1 rfl rfl (Nat.le_of_ble_eq_true rfl) dX11_foulWells_3 (fun hzz1_ H locs hw => ?_)
    refine lv_iconst (v := i32 0) S.1 S.2.1 dX11_foulWells_6 ic_0 ?_
    refine lv_istore_n (lv' := [(3, .int (i32 (0))), (0, .ref (ad 68)), (1, .int (i32 (x1))), (2, .int (i32 (x2)))]) S.1 S.2.1 dX11_foulWells_7 rfl hl (by decide) rfl (fun ls hl => ?_)
    exact w_X11_foulWells_L8 S hr hlk hR hdj Zfuel _ _ _ _ _ hF hw hzz1_ r_0 (lv_sub hl [1, 0] rfl))
set_option maxRecDepth 100000 in
set_option maxHeartbeats 4000000 in
theorem w_X11_drains_b70 {RR : Int × ZI} (S : CallFix p m c cX11_drains 5 s args Ztbl RX11) (hr : meth.sig.returnType = some .int) (hlk : meth.locks = false) (hR : 3 ≤ R.frames ∧ 60 * (3) ≤ R.locals) (hdj : Zdj ad) {k30 : ZI → Int → Int → Int → Option (Int × ZI)} (hk30 : ∀ (z : ZI) (x1 : Int) (x3 : Int) (x4 : Int) (H : Heap) (locs : List Loc) (ls : Array Slot), k30 z x1 x3 x4 = some RR → ZW D cA ad (ZA ad) (Zc z) s H locs → Zok z → InR x1 → InR x3 → InR x4 → lv_has ls 5 [(0, .ref (ad 68)), (1, .int (i32 (x1))), (3, .int (i32 (x3))), (4, .int (i32 (x4)))] → W p l e R s m args below meth c H locs 0 0 (MQ below (YQi D cA ad RR.1 RR.2) args s 0 0 (ZA ad)) (F0 m 30 ls [])) : ∀ (z : ZI) (x1 : Int) (x3 : Int) (x4 : Int) (H : Heap) (locs : List Loc) (ls : Array Slot), X11_drains_b70 k30 z x1 x3 x4 = some RR → ZW D cA ad (ZA ad) (Zc z) s H locs → Zok z → InR x1 → InR x3 → InR x4 → lv_has ls 5 [(0, .ref (ad 68)), (1, .int (i32 (x1))), (3, .int (i32 (x3))), (4, .int (i32 (x4)))] → W p l e R s m args below meth c H locs 0 0 (MQ below (YQi D cA ad RR.1 RR.2) args s 0 0 (ZA ad)) (F0 m 70 ls []) := by
  intro z x1 x3 x4 H locs ls hF hw hzz hx1 hx3 hx4 hl
  unfold X11_drains_b70 at hF
  obtain ⟨g1_, hF⟩ := Zgs hF
  refine lv_iinc (v := i32 (x4 + 1)) (lv' := [(4, .int (i32 (x4 + 1))), (0, .ref (ad 68)), (1, .int (i32 (x1))), (3, .int (i32 (x3)))]) S.1 S.2.1 dX11_drains_70 hl (k := 3) rfl Yiinc (by decide) rfl (fun ls hl => ?_)
  refine lv_goto (tgt := 30) S.1 S.2.1 dX11_drains_73 (by decide) ?_
  exact hk30 _ _ _ _ _ _ _ hF hw hzz hx1 hx3 g1_ (lv_sub hl [1, 2, 3, 0] rfl)
set_option maxRecDepth 100000 in
set_option maxHeartbeats 4000000 in
theorem w_X11_drains_b57 {RR : Int × ZI} (S : CallFix p m c cX11_drains 5 s args Ztbl RX11) (hr : meth.sig.returnType = some .int) (hlk : meth.locks = false) (hR : 3 ≤ R.frames ∧ 60 * (3) ≤ R.locals) (hdj : Zdj ad) {k30 : ZI → Int → Int → Int → Option (Int × ZI)} (hk30 : ∀ (z : ZI) (x1 : Int) (x3 : Int) (x4 : Int) (H : Heap) (locs : List Loc) (ls : Array Slot), k30 z x1 x3 x4 = some RR → ZW D cA ad (ZA ad) (Zc z) s H locs → Zok z → InR x1 → InR x3 → InR x4 → lv_has ls 5 [(0, .ref (ad 68)), (1, .int (i32 (x1))), (3, .int (i32 (x3))), (4, .int (i32 (x4)))] → W p l e R s m args below meth c H locs 0 0 (MQ below (YQi D cA ad RR.1 RR.2) args s 0 0 (ZA ad)) (F0 m 30 ls [])) : ∀ (z : ZI) (x1 : Int) (x3 : Int) (x4 : Int) (H : Heap) (locs : List Loc) (ls : Array Slot), X11_drains_b57 k30 z x1 x3 x4 = some RR → ZW D cA ad (ZA ad) (Zc z) s H locs → Zok z → InR x1 → InR x3 → InR x4 → lv_has ls 5 [(0, .ref (ad 68)), (1, .int (i32 (x1))), (3, .int (i32 (x3))), (4, .int (i32 (x4)))] → W p l e R s m args below meth c H locs 0 0 (MQ below (YQi D cA ad RR.1 RR.2) args s 0 0 (ZA ad)) (F0 m 57 ls []) := by
  intro z x1 x3 x4 H locs ls hF hw hzz hx1 hx3 hx4 hl
  unfold X11_drains_b57 at hF
  refine lv_aload_n S.1 S.2.1 dX11_drains_57 rfl (lv_at hl 0 rfl) ?_
  refine lv_iload_n S.1 S.2.1 dX11_drains_58 rfl (lv_at hl 1 rfl) ?_
  refine lv_iload S.1 S.2.1 dX11_drains_59 (lv_at hl 3 rfl) ?_
  obtain ⟨r3_, z1_, h2_, hF⟩ := Ybs hF
  refine YcallVi (rest := []) S hw (c_X11_foulWells hdj hzz hx1 hx4 h2_) my_X11_foulWells mi_X11_foulWells ml_X11_421 zd_68 zc_X11 rfl (Zrr hR (by decide)) ⟨Nat.zero_le _, Nat.zero_le _⟩ hl.1 rfl rfl (Nat.le_of_ble_eq_true rfl) dX11_drains_61 (fun hrr3_ hzz1_ H locs hw => ?_)
  refine Yif_ne (tgt := 70) S hrr3_ dX11_drains_64 (by decide) (fun c4_ => ?_) (fun c4_ => ?_)
  · replace hF := ZtN c4_ hF
    exact w_X11_drains_b70 S hr hlk hR hdj hk30 _ _ _ _ _ _ _ hF hw hzz1_ hx1 hx3 hx4 (lv_sub hl [0, 1, 2, 3] rfl)
  · replace hF := ZtP c4_ hF
    refine lv_iload S.1 S.2.1 dX11_drains_67 (lv_at hl 3 rfl) ?_
    refine lv_istore_n (lv' := [(3, .int (i32 (x4))), (0, .ref (ad 68)), (1, .int (i32 (x1))), (4, .int (i32 (x4)))]) S.1 S.2.1 dX11_drains_69 rfl hl (by decide) rfl (fun ls hl => ?_)
    exact w_X11_drains_b70 S hr hlk hR hdj hk30 _ _ _ _ _ _ _ hF hw hzz1_ hx1 hx4 hx4 (lv_sub hl [1, 2, 0, 3] rfl)
set_option maxRecDepth 100000 in
set_option maxHeartbeats 4000000 in
theorem w_X11_drains_L30 {RR : Int × ZI} (S : CallFix p m c cX11_drains 5 s args Ztbl RX11) (hr : meth.sig.returnType = some .int) (hlk : meth.locks = false) (hR : 3 ≤ R.frames ∧ 60 * (3) ≤ R.locals) (hdj : Zdj ad) : ∀ (n : Nat) (z : ZI) (x1 : Int) (x3 : Int) (x4 : Int) (H : Heap) (locs : List Loc) (ls : Array Slot), X11_drains_L30 n z x1 x3 x4 = some RR → ZW D cA ad (ZA ad) (Zc z) s H locs → Zok z → InR x1 → InR x3 → InR x4 → lv_has ls 5 [(0, .ref (ad 68)), (1, .int (i32 (x1))), (3, .int (i32 (x3))), (4, .int (i32 (x4)))] → W p l e R s m args below meth c H locs 0 0 (MQ below (YQi D cA ad RR.1 RR.2) args s 0 0 (ZA ad)) (F0 m 30 ls []) := by
  intro n
  induction n with
  | zero => intro z x1 x3 x4 H locs ls hF; exact nomatch hF
  | succ n hk30 =>
    intro z x1 x3 x4 H locs ls hF hw hzz hx1 hx3 hx4 hl
    replace hF : X11_drains_L30b (X11_drains_L30 n) z x1 x3 x4 = some RR := hF
    unfold X11_drains_L30b at hF
    refine lv_iload S.1 S.2.1 dX11_drains_30 (lv_at hl 3 rfl) ?_
    refine lv_iconst (v := i32 1) S.1 S.2.1 dX11_drains_32 ic_1 ?_
    refine lv_aload_n S.1 S.2.1 dX11_drains_33 rfl (lv_at hl 0 rfl) ?_
    refine gg_X11_412 S hw dX11_drains_34 ?_
    refine Yishl S dX11_drains_37 ?_
    refine Yicmp_ge (tgt := 76) S hx4 (InR_of _) dX11_drains_38 (by decide) (fun c1_ => ?_) (fun c1_ => ?_)
    · replace hF := ZtP c1_ hF
      refine lv_iload_n S.1 S.2.1 dX11_drains_76 rfl (lv_at hl 2 rfl) ?_
      exact Yireti S hw hzz hx3 hr hlk hF dX11_drains_77
    · replace hF := ZtN c1_ hF
      refine lv_iload_n S.1 S.2.1 dX11_drains_41 rfl (lv_at hl 2 rfl) ?_
      refine Yif_lt (tgt := 57) S hx3 dX11_drains_42 (by decide) (fun c2_ => ?_) (fun c2_ => ?_)
      · replace hF := ZtP c2_ hF
        exact w_X11_drains_b57 S hr hlk hR hdj hk30 _ _ _ _ _ _ _ hF hw hzz hx1 hx3 hx4 (lv_sub hl [0, 1, 2, 3] rfl)
      · replace hF := ZtN c2_ hF
        refine lv_iload S.1 S.2.1 dX11_drains_45 (lv_at hl 3 rfl) ?_
        obtain ⟨r5_, z3_, h4_, hF⟩ := Ybs hF
        refine YcallSi (rest := []) S hw (c_X11_bits hdj hzz hx4 h4_) my_X11_bits ms_X11_bits ml_X11_424 (Zrr hR (by decide)) ⟨Nat.zero_le _, Nat.zero_le _⟩ hl.1 rfl rfl (Nat.le_of_ble_eq_true rfl) dX11_drains_47 (fun hrr5_ hzz3_ H locs hw => ?_)
        refine lv_iload_n S.1 S.2.1 dX11_drains_50 rfl (lv_at hl 2 rfl) ?_
        obtain ⟨r8_, z6_, h7_, hF⟩ := Ybs hF
        refine YcallSi (rest := [.int (i32 (r5_))]) S hw (c_X11_bits hdj hzz3_ hx3 h7_) my_X11_bits ms_X11_bits ml_X11_424 (Zrr hR (by decide)) ⟨Nat.zero_le _, Nat.zero_le _⟩ hl.1 rfl rfl (Nat.le_of_ble_eq_true rfl) dX11_drains_51 (fun hrr8_ hzz6_ H locs hw => ?_)
        refine Yicmp_ge (tgt := 70) S hrr5_ hrr8_ dX11_drains_54 (by decide) (fun c9_ => ?_) (fun c9_ => ?_)
        · replace hF := ZtP c9_ hF
          exact w_X11_drains_b70 S hr hlk hR hdj hk30 _ _ _ _ _ _ _ hF hw hzz6_ hx1 hx3 hx4 (lv_sub hl [0, 1, 2, 3] rfl)
        · replace hF := ZtN c9_ hF
          exact w_X11_drains_b57 S hr hlk hR hdj hk30 _ _ _ _ _ _ _ hF hw hzz6_ hx1 hx3 hx4 (lv_sub hl [0, 1, 2, 3] rfl)
set_option maxRecDepth 100000 in
set_option maxHeartbeats 4000000 in
theorem c_X11_drains {l : Launch} {D : va_G} {cA : Nat → ClassId} {ad : Nat → Nat} (hdj : Zdj ad) {z z1 : ZI} {x1 : Int} {r : Int} (hzz : Zok z) (hx1 : InR x1) (hF : F_X11_drains z x1 = some (r, z1)) : YMi l D cA ad (3) yX11_drains cX11_drains 5 (some .int) [.ref (ad 68), .int (i32 x1)] z r z1 :=
  Zmet hdj (by decide) rfl (Nat.le_of_ble_eq_true rfl) (lv := [(0, .ref (ad 68)), (1, .int (i32 (x1)))]) rfl (fun p e s m args below meth c ls S hr hlk hw hl => by
    have hR : 3 ≤ (Zrm (3)).frames ∧ 60 * (3) ≤ (Zrm (3)).locals := ⟨Nat.le_refl _, Nat.le_refl _⟩
    unfold F_X11_drains at hF
    revert hR
    generalize Zrm (3) = R
    intro hR
    refine lv_iload_n S.1 S.2.1 dX11_drains_0 rfl (lv_at hl 1 rfl) ?_
    refine Yi2l S hx1 dX11_drains_1 ?_
    refine lv_lconst (v := i64 1) S.1 S.2.1 dX11_drains_2 lc_1 ?_
    refine lv_ldc2 (own := RX11) (v := i64 999) S.1 S.2.1 S.2.2.2.1 (S.2.2.2.2 _ yl_X11_256) dX11_drains_3 ?_
    obtain ⟨r3_, z1_, h2_, hF⟩ := Ybs hF
    refine YcallSi (rest := []) S hw (c_X11_out hdj hzz (InR_L hx1) (InR_L r_1) (InR_L r_999) h2_) my_X11_out ms_X11_out ml_X11_203 (Zrr hR (by decide)) ⟨Nat.zero_le _, Nat.zero_le _⟩ hl.1 rfl rfl (Nat.le_of_ble_eq_true rfl) dX11_drains_6 (fun hrr3_ hzz1_ H locs hw => ?_)
    refine lv_istore_n (lv' := [(2, .int (i32 (r3_))), (0, .ref (ad 68)), (1, .int (i32 (x1)))]) S.1 S.2.1 dX11_drains_9 rfl hl (by decide) rfl (fun ls hl => ?_)
    refine lv_iload_n S.1 S.2.1 dX11_drains_10 rfl (lv_at hl 0 rfl) ?_
    refine Yif_eq (tgt := 20) S hrr3_ dX11_drains_11 (by decide) (fun c4_ => ?_) (fun c4_ => ?_)
    · replace hF := ZtP c4_ hF
      refine lv_aload_n S.1 S.2.1 dX11_drains_20 rfl (lv_at hl 1 rfl) ?_
      obtain ⟨r7_, z5_, h6_, hF⟩ := Ybs hF
      refine YcallVv (rest := []) S hw (c_X11_findDown hdj hzz1_  h6_) my_X11_findDown mi_X11_findDown ml_X11_415 zd_68 zc_X11 rfl (Zrr hR (by decide)) ⟨Nat.zero_le _, Nat.zero_le _⟩ hl.1 rfl rfl (Nat.le_of_ble_eq_true rfl) dX11_drains_21 (fun hzz5_ H locs hw => ?_)
      refine lv_bipush (v := i32 (-9)) S.1 S.2.1 dX11_drains_24 bp_m9 ?_
      refine lv_istore_n (lv' := [(3, .int (i32 ((-9)))), (2, .int (i32 (r3_))), (0, .ref (ad 68)), (1, .int (i32 (x1)))]) S.1 S.2.1 dX11_drains_26 rfl hl (by decide) rfl (fun ls hl => ?_)
      refine lv_iconst (v := i32 0) S.1 S.2.1 dX11_drains_27 ic_0 ?_
      refine lv_istore (lv' := [(4, .int (i32 (0))), (3, .int (i32 ((-9)))), (2, .int (i32 (r3_))), (0, .ref (ad 68)), (1, .int (i32 (x1)))]) S.1 S.2.1 dX11_drains_28 hl (by decide) rfl (fun ls hl => ?_)
      exact w_X11_drains_L30 S hr hlk hR hdj Zfuel _ _ _ _ _ _ _ hF hw hzz5_ hx1 r_m9 r_0 (lv_sub hl [3, 4, 1, 0] rfl)
    · replace hF := ZtN c4_ hF
      refine lv_aload_n S.1 S.2.1 dX11_drains_14 rfl (lv_at hl 1 rfl) ?_
      refine lv_iload_n S.1 S.2.1 dX11_drains_15 rfl (lv_at hl 0 rfl) ?_
      obtain ⟨r10_, z8_, h9_, hF⟩ := Ybs hF
      refine YcallVi (rest := []) S hw (c_X11_no hdj hzz1_ hrr3_ h9_) my_X11_no mi_X11_no ml_X11_207 zd_68 zc_X11 rfl (Zrr hR (by decide)) ⟨Nat.zero_le _, Nat.zero_le _⟩ hl.1 rfl rfl (Nat.le_of_ble_eq_true rfl) dX11_drains_16 (fun hrr10_ hzz8_ H locs hw => ?_)
      exact Yireti S hw hzz8_ hrr10_ hr hlk hF dX11_drains_19)
set_option maxRecDepth 100000 in
set_option maxHeartbeats 4000000 in
theorem w_X11_forceOf_b60 {RR : Int × ZI} (S : CallFix p m c cX11_forceOf 5 s args Ztbl RX11) (hr : meth.sig.returnType = some .int) (hlk : meth.locks = false) (hR : 0 ≤ R.frames ∧ 60 * (0) ≤ R.locals) (hdj : Zdj ad) {k6 : ZI → Int → Int → Int → Int → Option (Int × ZI)} (hk6 : ∀ (z : ZI) (x1 : Int) (x2 : Int) (x3 : Int) (x4 : Int) (H : Heap) (locs : List Loc) (ls : Array Slot), k6 z x1 x2 x3 x4 = some RR → ZW D cA ad (ZA ad) (Zc z) s H locs → Zok z → InR x1 → InR x2 → InR x3 → InR x4 → lv_has ls 5 [(0, .ref (ad 68)), (1, .int (i32 (x1))), (2, .int (i32 (x2))), (3, .int (i32 (x3))), (4, .int (i32 (x4)))] → W p l e R s m args below meth c H locs 0 0 (MQ below (YQi D cA ad RR.1 RR.2) args s 0 0 (ZA ad)) (F0 m 6 ls [])) : ∀ (z : ZI) (x1 : Int) (x2 : Int) (x3 : Int) (x4 : Int) (H : Heap) (locs : List Loc) (ls : Array Slot), X11_forceOf_b60 k6 z x1 x2 x3 x4 = some RR → ZW D cA ad (ZA ad) (Zc z) s H locs → Zok z → InR x1 → InR x2 → InR x3 → InR x4 → lv_has ls 5 [(0, .ref (ad 68)), (1, .int (i32 (x1))), (2, .int (i32 (x2))), (3, .int (i32 (x3))), (4, .int (i32 (x4)))] → W p l e R s m args below meth c H locs 0 0 (MQ below (YQi D cA ad RR.1 RR.2) args s 0 0 (ZA ad)) (F0 m 60 ls []) := by
  intro z x1 x2 x3 x4 H locs ls hF hw hzz hx1 hx2 hx3 hx4 hl
  unfold X11_forceOf_b60 at hF
  obtain ⟨g1_, hF⟩ := Zgs hF
  refine lv_iinc (v := i32 (x4 + 1)) (lv' := [(4, .int (i32 (x4 + 1))), (0, .ref (ad 68)), (1, .int (i32 (x1))), (2, .int (i32 (x2))), (3, .int (i32 (x3)))]) S.1 S.2.1 dX11_forceOf_60 hl (k := 4) rfl Yiinc (by decide) rfl (fun ls hl => ?_)
  refine lv_goto (tgt := 6) S.1 S.2.1 dX11_forceOf_63 (by decide) ?_
  exact hk6 _ _ _ _ _ _ _ _ hF hw hzz hx1 hx2 hx3 g1_ (lv_sub hl [1, 2, 3, 4, 0] rfl)
set_option maxRecDepth 100000 in
set_option maxHeartbeats 4000000 in
theorem w_X11_forceOf_b57 {RR : Int × ZI} (S : CallFix p m c cX11_forceOf 5 s args Ztbl RX11) (hr : meth.sig.returnType = some .int) (hlk : meth.locks = false) (hR : 0 ≤ R.frames ∧ 60 * (0) ≤ R.locals) (hdj : Zdj ad) {k6 : ZI → Int → Int → Int → Int → Option (Int × ZI)} (hk6 : ∀ (z : ZI) (x1 : Int) (x2 : Int) (x3 : Int) (x4 : Int) (H : Heap) (locs : List Loc) (ls : Array Slot), k6 z x1 x2 x3 x4 = some RR → ZW D cA ad (ZA ad) (Zc z) s H locs → Zok z → InR x1 → InR x2 → InR x3 → InR x4 → lv_has ls 5 [(0, .ref (ad 68)), (1, .int (i32 (x1))), (2, .int (i32 (x2))), (3, .int (i32 (x3))), (4, .int (i32 (x4)))] → W p l e R s m args below meth c H locs 0 0 (MQ below (YQi D cA ad RR.1 RR.2) args s 0 0 (ZA ad)) (F0 m 6 ls [])) : ∀ (z : ZI) (x1 : Int) (x2 : Int) (x4 : Int) (H : Heap) (locs : List Loc) (ls : Array Slot), X11_forceOf_b57 k6 z x1 x2 x4 = some RR → ZW D cA ad (ZA ad) (Zc z) s H locs → Zok z → InR x1 → InR x2 → InR x4 → lv_has ls 5 [(0, .ref (ad 68)), (1, .int (i32 (x1))), (2, .int (i32 (x2))), (4, .int (i32 (x4)))] → W p l e R s m args below meth c H locs 0 0 (MQ below (YQi D cA ad RR.1 RR.2) args s 0 0 (ZA ad)) (F0 m 57 ls []) := by
  intro z x1 x2 x4 H locs ls hF hw hzz hx1 hx2 hx4 hl
  unfold X11_forceOf_b57 at hF
  refine lv_iload S.1 S.2.1 dX11_forceOf_57 (lv_at hl 3 rfl) ?_
  refine lv_istore_n (lv' := [(3, .int (i32 (x4))), (0, .ref (ad 68)), (1, .int (i32 (x1))), (2, .int (i32 (x2))), (4, .int (i32 (x4)))]) S.1 S.2.1 dX11_forceOf_59 rfl hl (by decide) rfl (fun ls hl => ?_)
  exact w_X11_forceOf_b60 S hr hlk hR hdj hk6 _ _ _ _ _ _ _ _ hF hw hzz hx1 hx2 hx4 hx4 (lv_sub hl [1, 2, 3, 0, 4] rfl)
set_option maxRecDepth 100000 in
set_option maxHeartbeats 4000000 in
theorem w_X11_forceOf_L6 {RR : Int × ZI} (S : CallFix p m c cX11_forceOf 5 s args Ztbl RX11) (hr : meth.sig.returnType = some .int) (hlk : meth.locks = false) (hR : 0 ≤ R.frames ∧ 60 * (0) ≤ R.locals) (hdj : Zdj ad) : ∀ (n : Nat) (z : ZI) (x1 : Int) (x2 : Int) (x3 : Int) (x4 : Int) (H : Heap) (locs : List Loc) (ls : Array Slot), X11_forceOf_L6 n z x1 x2 x3 x4 = some RR → ZW D cA ad (ZA ad) (Zc z) s H locs → Zok z → InR x1 → InR x2 → InR x3 → InR x4 → lv_has ls 5 [(0, .ref (ad 68)), (1, .int (i32 (x1))), (2, .int (i32 (x2))), (3, .int (i32 (x3))), (4, .int (i32 (x4)))] → W p l e R s m args below meth c H locs 0 0 (MQ below (YQi D cA ad RR.1 RR.2) args s 0 0 (ZA ad)) (F0 m 6 ls []) := by
  intro n
  induction n with
  | zero => intro z x1 x2 x3 x4 H locs ls hF; exact nomatch hF
  | succ n hk6 =>
    intro z x1 x2 x3 x4 H locs ls hF hw hzz hx1 hx2 hx3 hx4 hl
    replace hF : X11_forceOf_L6b (X11_forceOf_L6 n) z x1 x2 x3 x4 = some RR := hF
    unfold X11_forceOf_L6b at hF
    refine lv_iload S.1 S.2.1 dX11_forceOf_6 (lv_at hl 4 rfl) ?_
    refine lv_aload_n S.1 S.2.1 dX11_forceOf_8 rfl (lv_at hl 0 rfl) ?_
    refine gg_X11_288 S hw dX11_forceOf_9 ?_
    refine Yicmp_ge (tgt := 66) S hx4 (hzz.1 68 22 (by decide)) dX11_forceOf_12 (by decide) (fun c1_ => ?_) (fun c1_ => ?_)
    · replace hF := ZtP c1_ hF
      refine lv_iload_n S.1 S.2.1 dX11_forceOf_66 rfl (lv_at hl 3 rfl) ?_
      exact Yireti S hw hzz hx3 hr hlk hF dX11_forceOf_67
    · replace hF := ZtN c1_ hF
      refine lv_aload_n S.1 S.2.1 dX11_forceOf_15 rfl (lv_at hl 0 rfl) ?_
      refine gf_X11_52 S hw dX11_forceOf_16 ?_
      refine lv_iload S.1 S.2.1 dX11_forceOf_19 (lv_at hl 4 rfl) ?_
      obtain ⟨b2_, hF⟩ := Zgs hF
      refine Yiald S hw zd_83 (by decide) hx4 b2_ dX11_forceOf_21 ?_
      refine lv_iload_n S.1 S.2.1 dX11_forceOf_22 rfl (lv_at hl 1 rfl) ?_
      refine Yicmp_ne (tgt := 60) S (hzz.1 _ _ (by decide)) hx1 dX11_forceOf_23 (by decide) (fun c3_ => ?_) (fun c3_ => ?_)
      · replace hF := ZtN c3_ hF
        exact w_X11_forceOf_b60 S hr hlk hR hdj hk6 _ _ _ _ _ _ _ _ hF hw hzz hx1 hx2 hx3 hx4 (lv_sub hl [0, 1, 2, 3, 4] rfl)
      · replace hF := ZtP c3_ hF
        refine lv_aload_n S.1 S.2.1 dX11_forceOf_26 rfl (lv_at hl 0 rfl) ?_
        refine gf_X11_55 S hw dX11_forceOf_27 ?_
        refine lv_iload S.1 S.2.1 dX11_forceOf_30 (lv_at hl 4 rfl) ?_
        obtain ⟨b4_, hF⟩ := Zgs hF
        refine Yiald S hw zd_84 (by decide) hx4 b4_ dX11_forceOf_32 ?_
        refine lv_iload_n S.1 S.2.1 dX11_forceOf_33 rfl (lv_at hl 2 rfl) ?_
        refine Yicmp_gt (tgt := 60) S (hzz.1 _ _ (by decide)) hx2 dX11_forceOf_34 (by decide) (fun c5_ => ?_) (fun c5_ => ?_)
        · replace hF := ZtP c5_ hF
          exact w_X11_forceOf_b60 S hr hlk hR hdj hk6 _ _ _ _ _ _ _ _ hF hw hzz hx1 hx2 hx3 hx4 (lv_sub hl [0, 1, 2, 3, 4] rfl)
        · replace hF := ZtN c5_ hF
          refine lv_iload_n S.1 S.2.1 dX11_forceOf_37 rfl (lv_at hl 3 rfl) ?_
          refine Yif_lt (tgt := 57) S hx3 dX11_forceOf_38 (by decide) (fun c6_ => ?_) (fun c6_ => ?_)
          · replace hF := ZtP c6_ hF
            exact w_X11_forceOf_b57 S hr hlk hR hdj hk6 _ _ _ _ _ _ _ hF hw hzz hx1 hx2 hx4 (lv_sub hl [0, 1, 2, 4] rfl)
          · replace hF := ZtN c6_ hF
            refine lv_aload_n S.1 S.2.1 dX11_forceOf_41 rfl (lv_at hl 0 rfl) ?_
            refine gf_X11_55 S hw dX11_forceOf_42 ?_
            refine lv_iload S.1 S.2.1 dX11_forceOf_45 (lv_at hl 4 rfl) ?_
            obtain ⟨b7_, hF⟩ := Zgs hF
            refine Yiald S hw zd_84 (by decide) hx4 b7_ dX11_forceOf_47 ?_
            refine lv_aload_n S.1 S.2.1 dX11_forceOf_48 rfl (lv_at hl 0 rfl) ?_
            refine gf_X11_55 S hw dX11_forceOf_49 ?_
            refine lv_iload_n S.1 S.2.1 dX11_forceOf_52 rfl (lv_at hl 3 rfl) ?_
            obtain ⟨b8_, hF⟩ := Zgs hF
            refine Yiald S hw zd_84 (by decide) hx3 b8_ dX11_forceOf_53 ?_
            refine Yicmp_lt (tgt := 60) S (hzz.1 _ _ (by decide)) (hzz.1 _ _ (by decide)) dX11_forceOf_54 (by decide) (fun c9_ => ?_) (fun c9_ => ?_)
            · replace hF := ZtP c9_ hF
              exact w_X11_forceOf_b60 S hr hlk hR hdj hk6 _ _ _ _ _ _ _ _ hF hw hzz hx1 hx2 hx3 hx4 (lv_sub hl [0, 1, 2, 3, 4] rfl)
            · replace hF := ZtN c9_ hF
              exact w_X11_forceOf_b57 S hr hlk hR hdj hk6 _ _ _ _ _ _ _ hF hw hzz hx1 hx2 hx4 (lv_sub hl [0, 1, 2, 4] rfl)
set_option maxRecDepth 100000 in
set_option maxHeartbeats 4000000 in
theorem c_X11_forceOf {l : Launch} {D : va_G} {cA : Nat → ClassId} {ad : Nat → Nat} (hdj : Zdj ad) {z z1 : ZI} {x1 : Int} {x2 : Int} {r : Int} (hzz : Zok z) (hx1 : InR x1) (hx2 : InR x2) (hF : F_X11_forceOf z x1 x2 = some (r, z1)) : YMi l D cA ad (0) yX11_forceOf cX11_forceOf 5 (some .int) [.ref (ad 68), .int (i32 x1), .int (i32 x2)] z r z1 :=
  Zmet hdj (by decide) rfl (Nat.le_of_ble_eq_true rfl) (lv := [(0, .ref (ad 68)), (1, .int (i32 (x1))), (2, .int (i32 (x2)))]) rfl (fun p e s m args below meth c ls S hr hlk hw hl => by
    have hR : 0 ≤ (Zrm (0)).frames ∧ 60 * (0) ≤ (Zrm (0)).locals := ⟨Nat.le_refl _, Nat.le_refl _⟩
    unfold F_X11_forceOf at hF
    revert hR
    generalize Zrm (0) = R
    intro hR
    refine lv_bipush (v := i32 (-9)) S.1 S.2.1 dX11_forceOf_0 bp_m9 ?_
    refine lv_istore_n (lv' := [(3, .int (i32 ((-9)))), (0, .ref (ad 68)), (1, .int (i32 (x1))), (2, .int (i32 (x2)))]) S.1 S.2.1 dX11_forceOf_2 rfl hl (by decide) rfl (fun ls hl => ?_)
    refine lv_iconst (v := i32 0) S.1 S.2.1 dX11_forceOf_3 ic_0 ?_
    refine lv_istore (lv' := [(4, .int (i32 (0))), (3, .int (i32 ((-9)))), (0, .ref (ad 68)), (1, .int (i32 (x1))), (2, .int (i32 (x2)))]) S.1 S.2.1 dX11_forceOf_4 hl (by decide) rfl (fun ls hl => ?_)
    exact w_X11_forceOf_L6 S hr hlk hR hdj Zfuel _ _ _ _ _ _ _ _ hF hw hzz hx1 hx2 r_m9 r_0 (lv_sub hl [2, 3, 4, 1, 0] rfl))
set_option maxRecDepth 100000 in
set_option maxHeartbeats 4000000 in
theorem w_X11_noFacts_L2 {RR : Unit × ZI} (S : CallFix p m c cX11_noFacts 2 s args Ztbl RX11) (hr : meth.sig.returnType = none) (hlk : meth.locks = false) (hR : 0 ≤ R.frames ∧ 60 * (0) ≤ R.locals) (hdj : Zdj ad) : ∀ (n : Nat) (z : ZI) (x1 : Int) (H : Heap) (locs : List Loc) (ls : Array Slot), X11_noFacts_L2 n z x1 = some RR → ZW D cA ad (ZA ad) (Zc z) s H locs → Zok z → InR x1 → lv_has ls 2 [(0, .ref (ad 68)), (1, .int (i32 (x1)))] → W p l e R s m args below meth c H locs 0 0 (MQ below (YQv D cA ad RR.2) args s 0 0 (ZA ad)) (F0 m 2 ls []) := by
  intro n
  induction n with
  | zero => intro z x1 H locs ls hF; exact nomatch hF
  | succ n hk2 =>
    intro z x1 H locs ls hF hw hzz hx1 hl
    replace hF : X11_noFacts_L2b (X11_noFacts_L2 n) z x1 = some RR := hF
    unfold X11_noFacts_L2b at hF
    refine lv_iload_n S.1 S.2.1 dX11_noFacts_2 rfl (lv_at hl 1 rfl) ?_
    refine lv_sipush (v := i32 128) S.1 S.2.1 dX11_noFacts_3 sp_128 ?_
    refine Yicmp_ge (tgt := 22) S hx1 r_128 dX11_noFacts_6 (by decide) (fun c1_ => ?_) (fun c1_ => ?_)
    · replace hF := ZtP c1_ hF
      exact Yvret S hw hzz hr hlk hF dX11_noFacts_22
    · replace hF := ZtN c1_ hF
      refine lv_aload_n S.1 S.2.1 dX11_noFacts_9 rfl (lv_at hl 0 rfl) ?_
      refine gf_X11_58 S hw dX11_noFacts_10 ?_
      refine lv_iload_n S.1 S.2.1 dX11_noFacts_13 rfl (lv_at hl 1 rfl) ?_
      refine lv_iconst (v := i32 0) S.1 S.2.1 dX11_noFacts_14 ic_0 ?_
      obtain ⟨b2_, hF⟩ := Zgs hF
      refine Yiast S hw hzz zd_85 (by decide) hx1 r_0 b2_ dX11_noFacts_15 (fun z3_ H locs ez hzz3_ hw => ?_)
      replace hF := Zle ez hF; clear ez
      obtain ⟨g4_, hF⟩ := Zgs hF
      refine lv_iinc (v := i32 (x1 + 1)) (lv' := [(1, .int (i32 (x1 + 1))), (0, .ref (ad 68))]) S.1 S.2.1 dX11_noFacts_16 hl (k := 1) rfl Yiinc (by decide) rfl (fun ls hl => ?_)
      refine lv_goto (tgt := 2) S.1 S.2.1 dX11_noFacts_19 (by decide) ?_
      exact hk2 _ _ _ _ _ hF hw hzz3_ g4_ (lv_sub hl [1, 0] rfl)
set_option maxRecDepth 100000 in
set_option maxHeartbeats 4000000 in
theorem c_X11_noFacts {l : Launch} {D : va_G} {cA : Nat → ClassId} {ad : Nat → Nat} (hdj : Zdj ad) {z z1 : ZI} (hzz : Zok z) (hF : F_X11_noFacts z  = some ((), z1)) : YMv l D cA ad (0) yX11_noFacts cX11_noFacts 2 [.ref (ad 68)] z z1 :=
  Zmet hdj (by decide) rfl (Nat.le_of_ble_eq_true rfl) (lv := [(0, .ref (ad 68))]) rfl (fun p e s m args below meth c ls S hr hlk hw hl => by
    have hR : 0 ≤ (Zrm (0)).frames ∧ 60 * (0) ≤ (Zrm (0)).locals := ⟨Nat.le_refl _, Nat.le_refl _⟩
    unfold F_X11_noFacts at hF
    revert hR
    generalize Zrm (0) = R
    intro hR
    refine lv_iconst (v := i32 0) S.1 S.2.1 dX11_noFacts_0 ic_0 ?_
    refine lv_istore_n (lv' := [(1, .int (i32 (0))), (0, .ref (ad 68))]) S.1 S.2.1 dX11_noFacts_1 rfl hl (by decide) rfl (fun ls hl => ?_)
    exact w_X11_noFacts_L2 S hr hlk hR hdj Zfuel _ _ _ _ _ hF hw hzz r_0 (lv_sub hl [1, 0] rfl))
set_option maxRecDepth 100000 in
set_option maxHeartbeats 4000000 in
theorem w_X11_isDigit_b17 {RR : Int × ZI} (S : CallFix p m c cX11_isDigit 1 s args Ztbl RX11) (hr : meth.sig.returnType = some .boolean) (hlk : meth.locks = false) (hR : 0 ≤ R.frames ∧ 60 * (0) ≤ R.locals) (hdj : Zdj ad) : ∀ (z : ZI) (y0 : Int) (H : Heap) (locs : List Loc) (ls : Array Slot), X11_isDigit_b17 z y0 = some RR → ZW D cA ad (ZA ad) (Zc z) s H locs → Zok z → InR y0 → lv_has ls 1 [] → W p l e R s m args below meth c H locs 0 0 (MQ below (YQi D cA ad RR.1 RR.2) args s 0 0 (ZA ad)) (F0 m 17 ls [.int (i32 (y0))]) := by
  intro z y0 H locs ls hF hw hzz hy0 hl
  unfold X11_isDigit_b17 at hF
  obtain ⟨b1_, hF⟩ := Zgs hF
  exact Yiretz S hw hzz hy0 hr hlk b1_ hF dX11_isDigit_17
set_option maxRecDepth 100000 in
set_option maxHeartbeats 4000000 in
theorem w_X11_isDigit_b16 {RR : Int × ZI} (S : CallFix p m c cX11_isDigit 1 s args Ztbl RX11) (hr : meth.sig.returnType = some .boolean) (hlk : meth.locks = false) (hR : 0 ≤ R.frames ∧ 60 * (0) ≤ R.locals) (hdj : Zdj ad) : ∀ (z : ZI) (H : Heap) (locs : List Loc) (ls : Array Slot), X11_isDigit_b16 z  = some RR → ZW D cA ad (ZA ad) (Zc z) s H locs → Zok z → lv_has ls 1 [] → W p l e R s m args below meth c H locs 0 0 (MQ below (YQi D cA ad RR.1 RR.2) args s 0 0 (ZA ad)) (F0 m 16 ls []) := by
  intro z  H locs ls hF hw hzz  hl
  unfold X11_isDigit_b16 at hF
  refine lv_iconst (v := i32 0) S.1 S.2.1 dX11_isDigit_16 ic_0 ?_
  exact w_X11_isDigit_b17 S hr hlk hR hdj _ _ _ _ _ hF hw hzz r_0 (lv_sub hl [] rfl)
set_option maxRecDepth 100000 in
set_option maxHeartbeats 4000000 in
theorem c_X11_isDigit {l : Launch} {D : va_G} {cA : Nat → ClassId} {ad : Nat → Nat} (hdj : Zdj ad) {z z1 : ZI} {x0 : Int} {r : Int} (hzz : Zok z) (hx0 : InR x0) (hF : F_X11_isDigit z x0 = some (r, z1)) : YMi l D cA ad (0) yX11_isDigit cX11_isDigit 1 (some .boolean) [.int (i32 x0)] z r z1 :=
  Zmet hdj (by decide) rfl (Nat.le_of_ble_eq_true rfl) (lv := [(0, .int (i32 (x0)))]) rfl (fun p e s m args below meth c ls S hr hlk hw hl => by
    have hR : 0 ≤ (Zrm (0)).frames ∧ 60 * (0) ≤ (Zrm (0)).locals := ⟨Nat.le_refl _, Nat.le_refl _⟩
    unfold F_X11_isDigit at hF
    revert hR
    generalize Zrm (0) = R
    intro hR
    refine lv_iload_n S.1 S.2.1 dX11_isDigit_0 rfl (lv_at hl 0 rfl) ?_
    refine lv_bipush (v := i32 48) S.1 S.2.1 dX11_isDigit_1 bp_48 ?_
    refine Yicmp_lt (tgt := 16) S hx0 r_48 dX11_isDigit_3 (by decide) (fun c1_ => ?_) (fun c1_ => ?_)
    · replace hF := ZtP c1_ hF
      exact w_X11_isDigit_b16 S hr hlk hR hdj _ _ _ _ hF hw hzz  (lv_sub hl [] rfl)
    · replace hF := ZtN c1_ hF
      refine lv_iload_n S.1 S.2.1 dX11_isDigit_6 rfl (lv_at hl 0 rfl) ?_
      refine lv_bipush (v := i32 57) S.1 S.2.1 dX11_isDigit_7 bp_57 ?_
      refine Yicmp_gt (tgt := 16) S hx0 r_57 dX11_isDigit_9 (by decide) (fun c2_ => ?_) (fun c2_ => ?_)
      · replace hF := ZtP c2_ hF
        exact w_X11_isDigit_b16 S hr hlk hR hdj _ _ _ _ hF hw hzz  (lv_sub hl [] rfl)
      · replace hF := ZtN c2_ hF
        refine lv_iconst (v := i32 1) S.1 S.2.1 dX11_isDigit_12 ic_1 ?_
        refine lv_goto (tgt := 17) S.1 S.2.1 dX11_isDigit_13 (by decide) ?_
        exact w_X11_isDigit_b17 S hr hlk hR hdj _ _ _ _ _ hF hw hzz r_1 (lv_sub hl [] rfl))
set_option maxRecDepth 100000 in
set_option maxHeartbeats 4000000 in
theorem w_X11_isLetter_b53 {RR : Int × ZI} (S : CallFix p m c cX11_isLetter 1 s args Ztbl RX11) (hr : meth.sig.returnType = some .boolean) (hlk : meth.locks = false) (hR : 0 ≤ R.frames ∧ 60 * (0) ≤ R.locals) (hdj : Zdj ad) : ∀ (z : ZI) (y0 : Int) (H : Heap) (locs : List Loc) (ls : Array Slot), X11_isLetter_b53 z y0 = some RR → ZW D cA ad (ZA ad) (Zc z) s H locs → Zok z → InR y0 → lv_has ls 1 [] → W p l e R s m args below meth c H locs 0 0 (MQ below (YQi D cA ad RR.1 RR.2) args s 0 0 (ZA ad)) (F0 m 53 ls [.int (i32 (y0))]) := by
  intro z y0 H locs ls hF hw hzz hy0 hl
  unfold X11_isLetter_b53 at hF
  obtain ⟨b1_, hF⟩ := Zgs hF
  exact Yiretz S hw hzz hy0 hr hlk b1_ hF dX11_isLetter_53
set_option maxRecDepth 100000 in
set_option maxHeartbeats 4000000 in
theorem w_X11_isLetter_b48 {RR : Int × ZI} (S : CallFix p m c cX11_isLetter 1 s args Ztbl RX11) (hr : meth.sig.returnType = some .boolean) (hlk : meth.locks = false) (hR : 0 ≤ R.frames ∧ 60 * (0) ≤ R.locals) (hdj : Zdj ad) : ∀ (z : ZI) (H : Heap) (locs : List Loc) (ls : Array Slot), X11_isLetter_b48 z  = some RR → ZW D cA ad (ZA ad) (Zc z) s H locs → Zok z → lv_has ls 1 [] → W p l e R s m args below meth c H locs 0 0 (MQ below (YQi D cA ad RR.1 RR.2) args s 0 0 (ZA ad)) (F0 m 48 ls []) := by
  intro z  H locs ls hF hw hzz  hl
  unfold X11_isLetter_b48 at hF
  refine lv_iconst (v := i32 1) S.1 S.2.1 dX11_isLetter_48 ic_1 ?_
  refine lv_goto (tgt := 53) S.1 S.2.1 dX11_isLetter_49 (by decide) ?_
  exact w_X11_isLetter_b53 S hr hlk hR hdj _ _ _ _ _ hF hw hzz r_1 (lv_sub hl [] rfl)
set_option maxRecDepth 100000 in
set_option maxHeartbeats 4000000 in
theorem c_X11_isLetter {l : Launch} {D : va_G} {cA : Nat → ClassId} {ad : Nat → Nat} (hdj : Zdj ad) {z z1 : ZI} {x0 : Int} {r : Int} (hzz : Zok z) (hx0 : InR x0) (hF : F_X11_isLetter z x0 = some (r, z1)) : YMi l D cA ad (0) yX11_isLetter cX11_isLetter 1 (some .boolean) [.int (i32 x0)] z r z1 :=
  Zmet hdj (by decide) rfl (Nat.le_of_ble_eq_true rfl) (lv := [(0, .int (i32 (x0)))]) rfl (fun p e s m args below meth c ls S hr hlk hw hl => by
    have hR : 0 ≤ (Zrm (0)).frames ∧ 60 * (0) ≤ (Zrm (0)).locals := ⟨Nat.le_refl _, Nat.le_refl _⟩
    unfold F_X11_isLetter at hF
    revert hR
    generalize Zrm (0) = R
    intro hR
    refine lv_iload_n S.1 S.2.1 dX11_isLetter_0 rfl (lv_at hl 0 rfl) ?_
    refine lv_bipush (v := i32 110) S.1 S.2.1 dX11_isLetter_1 bp_110 ?_
    refine Yicmp_eq (tgt := 48) S hx0 r_110 dX11_isLetter_3 (by decide) (fun c1_ => ?_) (fun c1_ => ?_)
    · replace hF := ZtP c1_ hF
      exact w_X11_isLetter_b48 S hr hlk hR hdj _ _ _ _ hF hw hzz  (lv_sub hl [] rfl)
    · replace hF := ZtN c1_ hF
      refine lv_iload_n S.1 S.2.1 dX11_isLetter_6 rfl (lv_at hl 0 rfl) ?_
      refine lv_bipush (v := i32 107) S.1 S.2.1 dX11_isLetter_7 bp_107 ?_
      refine Yicmp_eq (tgt := 48) S hx0 r_107 dX11_isLetter_9 (by decide) (fun c2_ => ?_) (fun c2_ => ?_)
      · replace hF := ZtP c2_ hF
        exact w_X11_isLetter_b48 S hr hlk hR hdj _ _ _ _ hF hw hzz  (lv_sub hl [] rfl)
      · replace hF := ZtN c2_ hF
        refine lv_iload_n S.1 S.2.1 dX11_isLetter_12 rfl (lv_at hl 0 rfl) ?_
        refine lv_bipush (v := i32 111) S.1 S.2.1 dX11_isLetter_13 bp_111 ?_
        refine Yicmp_eq (tgt := 48) S hx0 r_111 dX11_isLetter_15 (by decide) (fun c3_ => ?_) (fun c3_ => ?_)
        · replace hF := ZtP c3_ hF
          exact w_X11_isLetter_b48 S hr hlk hR hdj _ _ _ _ hF hw hzz  (lv_sub hl [] rfl)
        · replace hF := ZtN c3_ hF
          refine lv_iload_n S.1 S.2.1 dX11_isLetter_18 rfl (lv_at hl 0 rfl) ?_
          refine lv_bipush (v := i32 115) S.1 S.2.1 dX11_isLetter_19 bp_115 ?_
          refine Yicmp_eq (tgt := 48) S hx0 r_115 dX11_isLetter_21 (by decide) (fun c4_ => ?_) (fun c4_ => ?_)
          · replace hF := ZtP c4_ hF
            exact w_X11_isLetter_b48 S hr hlk hR hdj _ _ _ _ hF hw hzz  (lv_sub hl [] rfl)
          · replace hF := ZtN c4_ hF
            refine lv_iload_n S.1 S.2.1 dX11_isLetter_24 rfl (lv_at hl 0 rfl) ?_
            refine lv_bipush (v := i32 100) S.1 S.2.1 dX11_isLetter_25 bp_100 ?_
            refine Yicmp_eq (tgt := 48) S hx0 r_100 dX11_isLetter_27 (by decide) (fun c5_ => ?_) (fun c5_ => ?_)
            · replace hF := ZtP c5_ hF
              exact w_X11_isLetter_b48 S hr hlk hR hdj _ _ _ _ hF hw hzz  (lv_sub hl [] rfl)
            · replace hF := ZtN c5_ hF
              refine lv_iload_n S.1 S.2.1 dX11_isLetter_30 rfl (lv_at hl 0 rfl) ?_
              refine lv_bipush (v := i32 97) S.1 S.2.1 dX11_isLetter_31 bp_97 ?_
              refine Yicmp_eq (tgt := 48) S hx0 r_97 dX11_isLetter_33 (by decide) (fun c6_ => ?_) (fun c6_ => ?_)
              · replace hF := ZtP c6_ hF
                exact w_X11_isLetter_b48 S hr hlk hR hdj _ _ _ _ hF hw hzz  (lv_sub hl [] rfl)
              · replace hF := ZtN c6_ hF
                refine lv_iload_n S.1 S.2.1 dX11_isLetter_36 rfl (lv_at hl 0 rfl) ?_
                refine lv_bipush (v := i32 116) S.1 S.2.1 dX11_isLetter_37 bp_116 ?_
                refine Yicmp_eq (tgt := 48) S hx0 r_116 dX11_isLetter_39 (by decide) (fun c7_ => ?_) (fun c7_ => ?_)
                · replace hF := ZtP c7_ hF
                  exact w_X11_isLetter_b48 S hr hlk hR hdj _ _ _ _ hF hw hzz  (lv_sub hl [] rfl)
                · replace hF := ZtN c7_ hF
                  refine lv_iload_n S.1 S.2.1 dX11_isLetter_42 rfl (lv_at hl 0 rfl) ?_
                  refine lv_bipush (v := i32 99) S.1 S.2.1 dX11_isLetter_43 bp_99 ?_
                  refine Yicmp_ne (tgt := 52) S hx0 r_99 dX11_isLetter_45 (by decide) (fun c8_ => ?_) (fun c8_ => ?_)
                  · replace hF := ZtN c8_ hF
                    refine lv_iconst (v := i32 0) S.1 S.2.1 dX11_isLetter_52 ic_0 ?_
                    exact w_X11_isLetter_b53 S hr hlk hR hdj _ _ _ _ _ hF hw hzz r_0 (lv_sub hl [] rfl)
                  · replace hF := ZtP c8_ hF
                    exact w_X11_isLetter_b48 S hr hlk hR hdj _ _ _ _ hF hw hzz  (lv_sub hl [] rfl))
set_option maxRecDepth 100000 in
set_option maxHeartbeats 4000000 in
theorem w_X11_rank_b43 {RR : Int × ZI} (S : CallFix p m c cX11_rank 1 s args Ztbl RX11) (hr : meth.sig.returnType = some .int) (hlk : meth.locks = false) (hR : 0 ≤ R.frames ∧ 60 * (0) ≤ R.locals) (hdj : Zdj ad) : ∀ (z : ZI) (y0 : Int) (H : Heap) (locs : List Loc) (ls : Array Slot), X11_rank_b43 z y0 = some RR → ZW D cA ad (ZA ad) (Zc z) s H locs → Zok z → InR y0 → lv_has ls 1 [] → W p l e R s m args below meth c H locs 0 0 (MQ below (YQi D cA ad RR.1 RR.2) args s 0 0 (ZA ad)) (F0 m 43 ls [.int (i32 (y0))]) := by
  intro z y0 H locs ls hF hw hzz hy0 hl
  unfold X11_rank_b43 at hF
  exact Yireti S hw hzz hy0 hr hlk hF dX11_rank_43
set_option maxRecDepth 100000 in
set_option maxHeartbeats 4000000 in
theorem w_X11_rank_b22 {RR : Int × ZI} (S : CallFix p m c cX11_rank 1 s args Ztbl RX11) (hr : meth.sig.returnType = some .int) (hlk : meth.locks = false) (hR : 0 ≤ R.frames ∧ 60 * (0) ≤ R.locals) (hdj : Zdj ad) : ∀ (z : ZI) (H : Heap) (locs : List Loc) (ls : Array Slot), X11_rank_b22 z  = some RR → ZW D cA ad (ZA ad) (Zc z) s H locs → Zok z → lv_has ls 1 [] → W p l e R s m args below meth c H locs 0 0 (MQ below (YQi D cA ad RR.1 RR.2) args s 0 0 (ZA ad)) (F0 m 22 ls []) := by
  intro z  H locs ls hF hw hzz  hl
  unfold X11_rank_b22 at hF
  refine lv_iconst (v := i32 3) S.1 S.2.1 dX11_rank_22 ic_3 ?_
  refine lv_goto (tgt := 43) S.1 S.2.1 dX11_rank_23 (by decide) ?_
  exact w_X11_rank_b43 S hr hlk hR hdj _ _ _ _ _ hF hw hzz r_3 (lv_sub hl [] rfl)
set_option maxRecDepth 100000 in
set_option maxHeartbeats 4000000 in
theorem w_X11_rank_b38 {RR : Int × ZI} (S : CallFix p m c cX11_rank 1 s args Ztbl RX11) (hr : meth.sig.returnType = some .int) (hlk : meth.locks = false) (hR : 0 ≤ R.frames ∧ 60 * (0) ≤ R.locals) (hdj : Zdj ad) : ∀ (z : ZI) (H : Heap) (locs : List Loc) (ls : Array Slot), X11_rank_b38 z  = some RR → ZW D cA ad (ZA ad) (Zc z) s H locs → Zok z → lv_has ls 1 [] → W p l e R s m args below meth c H locs 0 0 (MQ below (YQi D cA ad RR.1 RR.2) args s 0 0 (ZA ad)) (F0 m 38 ls []) := by
  intro z  H locs ls hF hw hzz  hl
  unfold X11_rank_b38 at hF
  refine lv_iconst (v := i32 2) S.1 S.2.1 dX11_rank_38 ic_2 ?_
  refine lv_goto (tgt := 43) S.1 S.2.1 dX11_rank_39 (by decide) ?_
  exact w_X11_rank_b43 S hr hlk hR hdj _ _ _ _ _ hF hw hzz r_2 (lv_sub hl [] rfl)
set_option maxRecDepth 100000 in
set_option maxHeartbeats 4000000 in
theorem c_X11_rank {l : Launch} {D : va_G} {cA : Nat → ClassId} {ad : Nat → Nat} (hdj : Zdj ad) {z z1 : ZI} {x0 : Int} {r : Int} (hzz : Zok z) (hx0 : InR x0) (hF : F_X11_rank z x0 = some (r, z1)) : YMi l D cA ad (0) yX11_rank cX11_rank 1 (some .int) [.int (i32 x0)] z r z1 :=
  Zmet hdj (by decide) rfl (Nat.le_of_ble_eq_true rfl) (lv := [(0, .int (i32 (x0)))]) rfl (fun p e s m args below meth c ls S hr hlk hw hl => by
    have hR : 0 ≤ (Zrm (0)).frames ∧ 60 * (0) ≤ (Zrm (0)).locals := ⟨Nat.le_refl _, Nat.le_refl _⟩
    unfold F_X11_rank at hF
    revert hR
    generalize Zrm (0) = R
    intro hR
    refine lv_iload_n S.1 S.2.1 dX11_rank_0 rfl (lv_at hl 0 rfl) ?_
    refine lv_bipush (v := i32 40) S.1 S.2.1 dX11_rank_1 bp_40 ?_
    refine Yicmp_ne (tgt := 10) S hx0 r_40 dX11_rank_3 (by decide) (fun c1_ => ?_) (fun c1_ => ?_)
    · replace hF := ZtN c1_ hF
      refine lv_iload_n S.1 S.2.1 dX11_rank_10 rfl (lv_at hl 0 rfl) ?_
      refine lv_bipush (v := i32 42) S.1 S.2.1 dX11_rank_11 bp_42 ?_
      refine Yicmp_eq (tgt := 22) S hx0 r_42 dX11_rank_13 (by decide) (fun c2_ => ?_) (fun c2_ => ?_)
      · replace hF := ZtP c2_ hF
        exact w_X11_rank_b22 S hr hlk hR hdj _ _ _ _ hF hw hzz  (lv_sub hl [] rfl)
      · replace hF := ZtN c2_ hF
        refine lv_iload_n S.1 S.2.1 dX11_rank_16 rfl (lv_at hl 0 rfl) ?_
        refine lv_bipush (v := i32 47) S.1 S.2.1 dX11_rank_17 bp_47 ?_
        refine Yicmp_ne (tgt := 26) S hx0 r_47 dX11_rank_19 (by decide) (fun c3_ => ?_) (fun c3_ => ?_)
        · replace hF := ZtN c3_ hF
          refine lv_iload_n S.1 S.2.1 dX11_rank_26 rfl (lv_at hl 0 rfl) ?_
          refine lv_bipush (v := i32 43) S.1 S.2.1 dX11_rank_27 bp_43 ?_
          refine Yicmp_eq (tgt := 38) S hx0 r_43 dX11_rank_29 (by decide) (fun c4_ => ?_) (fun c4_ => ?_)
          · replace hF := ZtP c4_ hF
            exact w_X11_rank_b38 S hr hlk hR hdj _ _ _ _ hF hw hzz  (lv_sub hl [] rfl)
          · replace hF := ZtN c4_ hF
            refine lv_iload_n S.1 S.2.1 dX11_rank_32 rfl (lv_at hl 0 rfl) ?_
            refine lv_bipush (v := i32 45) S.1 S.2.1 dX11_rank_33 bp_45 ?_
            refine Yicmp_ne (tgt := 42) S hx0 r_45 dX11_rank_35 (by decide) (fun c5_ => ?_) (fun c5_ => ?_)
            · replace hF := ZtN c5_ hF
              refine lv_iconst (v := i32 1) S.1 S.2.1 dX11_rank_42 ic_1 ?_
              exact w_X11_rank_b43 S hr hlk hR hdj _ _ _ _ _ hF hw hzz r_1 (lv_sub hl [] rfl)
            · replace hF := ZtP c5_ hF
              exact w_X11_rank_b38 S hr hlk hR hdj _ _ _ _ hF hw hzz  (lv_sub hl [] rfl)
        · replace hF := ZtP c3_ hF
          exact w_X11_rank_b22 S hr hlk hR hdj _ _ _ _ hF hw hzz  (lv_sub hl [] rfl)
    · replace hF := ZtP c1_ hF
      refine lv_iconst (v := i32 0) S.1 S.2.1 dX11_rank_6 ic_0 ?_
      refine lv_goto (tgt := 43) S.1 S.2.1 dX11_rank_7 (by decide) ?_
      exact w_X11_rank_b43 S hr hlk hR hdj _ _ _ _ _ hF hw hzz r_0 (lv_sub hl [] rfl))
set_option maxRecDepth 100000 in
set_option maxHeartbeats 4000000 in
theorem w_X11_held_b29 {RR : Int × ZI} (S : CallFix p m c cX11_held 2 s args Ztbl RX11) (hr : meth.sig.returnType = some .long) (hlk : meth.locks = false) (hR : 0 ≤ R.frames ∧ 60 * (0) ≤ R.locals) (hdj : Zdj ad) : ∀ (z : ZI) (y0 : Int) (H : Heap) (locs : List Loc) (ls : Array Slot), X11_held_b29 z y0 = some RR → ZW D cA ad (ZA ad) (Zc z) s H locs → Zok z → InL y0 → lv_has ls 2 [] → W p l e R s m args below meth c H locs 0 0 (MQ below (YQl D cA ad RR.1 RR.2) args s 0 0 (ZA ad)) (F0 m 29 ls [.long (i64 (y0))]) := by
  intro z y0 H locs ls hF hw hzz hy0 hl
  unfold X11_held_b29 at hF
  exact Ylretl S hw hzz hy0 hr hlk hF dX11_held_29
set_option maxRecDepth 100000 in
set_option maxHeartbeats 4000000 in
theorem c_X11_held {l : Launch} {D : va_G} {cA : Nat → ClassId} {ad : Nat → Nat} (hdj : Zdj ad) {z z1 : ZI} {x0 : Int} {r : Int} (hzz : Zok z) (hx0 : InL x0) (hF : F_X11_held z x0 = some (r, z1)) : YMl l D cA ad (0) yX11_held cX11_held 2 [.long (i64 x0)] z r z1 :=
  Zmet hdj (by decide) rfl (Nat.le_of_ble_eq_true rfl) (lv := [(0, .long (i64 (x0)))]) rfl (fun p e s m args below meth c ls S hr hlk hw hl => by
    have hR : 0 ≤ (Zrm (0)).frames ∧ 60 * (0) ≤ (Zrm (0)).locals := ⟨Nat.le_refl _, Nat.le_refl _⟩
    unfold F_X11_held at hF
    revert hR
    generalize Zrm (0) = R
    intro hR
    refine lv_lload_n S.1 S.2.1 dX11_held_0 rfl (lv_at hl 0 rfl) ?_
    refine lv_ldc2 (own := RX11) (v := i64 (-1000000000)) S.1 S.2.1 S.2.2.2.1 (S.2.2.2.2 _ yl_X11_295) dX11_held_1 ?_
    refine Ylcmp S hx0 (InR_L r_m1000000000) dX11_held_4 ?_
    refine Yif_ge (tgt := 14) S (jcmp_in _ _) dX11_held_5 (by decide) (fun c1_ => ?_) (fun c1_ => ?_)
    · replace hF := ZtP c1_ hF
      refine lv_lload_n S.1 S.2.1 dX11_held_14 rfl (lv_at hl 0 rfl) ?_
      refine lv_ldc2 (own := RX11) (v := i64 1000000000) S.1 S.2.1 S.2.2.2.1 (S.2.2.2.2 _ yl_X11_297) dX11_held_15 ?_
      refine Ylcmp S hx0 (InR_L r_1000000000) dX11_held_18 ?_
      refine Yif_le (tgt := 28) S (jcmp_in _ _) dX11_held_19 (by decide) (fun c2_ => ?_) (fun c2_ => ?_)
      · replace hF := ZtP c2_ hF
        refine lv_lload_n S.1 S.2.1 dX11_held_28 rfl (lv_at hl 0 rfl) ?_
        exact w_X11_held_b29 S hr hlk hR hdj _ _ _ _ _ hF hw hzz hx0 (lv_sub hl [] rfl)
      · replace hF := ZtN c2_ hF
        refine lv_ldc2 (own := RX11) (v := i64 1000000000) S.1 S.2.1 S.2.2.2.1 (S.2.2.2.2 _ yl_X11_297) dX11_held_22 ?_
        refine lv_goto (tgt := 29) S.1 S.2.1 dX11_held_25 (by decide) ?_
        exact w_X11_held_b29 S hr hlk hR hdj _ _ _ _ _ hF hw hzz (InR_L r_1000000000) (lv_sub hl [] rfl)
    · replace hF := ZtN c1_ hF
      refine lv_ldc2 (own := RX11) (v := i64 (-1000000000)) S.1 S.2.1 S.2.2.2.1 (S.2.2.2.2 _ yl_X11_295) dX11_held_8 ?_
      refine lv_goto (tgt := 29) S.1 S.2.1 dX11_held_11 (by decide) ?_
      exact w_X11_held_b29 S hr hlk hR hdj _ _ _ _ _ hF hw hzz (InR_L r_m1000000000) (lv_sub hl [] rfl))
set_option maxRecDepth 100000 in
set_option maxHeartbeats 4000000 in
theorem w_X11_works_b206 {RR : Unit × ZI} (S : CallFix p m c cX11_works 9 s args Ztbl RX11) (hr : meth.sig.returnType = none) (hlk : meth.locks = false) (hR : 1 ≤ R.frames ∧ 60 * (1) ≤ R.locals) (hdj : Zdj ad) : ∀ (z : ZI) (H : Heap) (locs : List Loc) (ls : Array Slot), X11_works_b206 z  = some RR → ZW D cA ad (ZA ad) (Zc z) s H locs → Zok z → lv_has ls 9 [] → W p l e R s m args below meth c H locs 0 0 (MQ below (YQv D cA ad RR.2) args s 0 0 (ZA ad)) (F0 m 206 ls []) := by
  intro z  H locs ls hF hw hzz  hl
  unfold X11_works_b206 at hF
  exact Yvret S hw hzz hr hlk hF dX11_works_206
set_option maxRecDepth 100000 in
set_option maxHeartbeats 4000000 in
theorem w_X11_works_b185 {RR : Unit × ZI} (S : CallFix p m c cX11_works 9 s args Ztbl RX11) (hr : meth.sig.returnType = none) (hlk : meth.locks = false) (hR : 1 ≤ R.frames ∧ 60 * (1) ≤ R.locals) (hdj : Zdj ad) {k0 : ZI → Int → Option (Unit × ZI)} (hk0 : ∀ (z : ZI) (x1 : Int) (H : Heap) (locs : List Loc) (ls : Array Slot), k0 z x1 = some RR → ZW D cA ad (ZA ad) (Zc z) s H locs → Zok z → InR x1 → lv_has ls 9 [(0, .ref (ad 68)), (1, .int (i32 (x1)))] → W p l e R s m args below meth c H locs 0 0 (MQ below (YQv D cA ad RR.2) args s 0 0 (ZA ad)) (F0 m 0 ls [])) : ∀ (z : ZI) (x1 : Int) (y0 : Int) (H : Heap) (locs : List Loc) (ls : Array Slot), X11_works_b185 k0 z x1 y0 = some RR → ZW D cA ad (ZA ad) (Zc z) s H locs → Zok z → InR x1 → InL y0 → lv_has ls 9 [(0, .ref (ad 68)), (1, .int (i32 (x1)))] → W p l e R s m args below meth c H locs 0 0 (MQ below (YQv D cA ad RR.2) args s 0 0 (ZA ad)) (F0 m 185 ls [.long (i64 (y0))]) := by
  intro z x1 y0 H locs ls hF hw hzz hx1 hy0 hl
  unfold X11_works_b185 at hF
  refine lv_lstore (lv' := [(7, .long (i64 (y0))), (0, .ref (ad 68)), (1, .int (i32 (x1)))]) S.1 S.2.1 dX11_works_185 hl (by decide) rfl (fun ls hl => ?_)
  refine lv_aload_n S.1 S.2.1 dX11_works_187 rfl (lv_at hl 1 rfl) ?_
  refine gf_X11_64 S hw dX11_works_188 ?_
  refine lv_aload_n S.1 S.2.1 dX11_works_191 rfl (lv_at hl 1 rfl) ?_
  refine gg_X11_305 S hw dX11_works_192 ?_
  refine lv_iconst (v := i32 1) S.1 S.2.1 dX11_works_195 ic_1 ?_
  obtain ⟨g1_, hF⟩ := Zgs hF
  refine Yisub S dX11_works_196 ?_
  refine lv_lload S.1 S.2.1 dX11_works_197 (lv_at hl 0 rfl) ?_
  obtain ⟨r4_, z2_, h3_, hF⟩ := Ybs hF
  refine YcallSl (rest := [.int (i32 ((z 68 27) - 1)), .ref (ad 87)]) S hw (c_X11_held hdj hzz hy0 h3_) my_X11_held ms_X11_held ml_X11_308 (Zrr hR (by decide)) ⟨Nat.zero_le _, Nat.zero_le _⟩ hl.1 rfl rfl (Nat.le_of_ble_eq_true rfl) dX11_works_199 (fun hrr4_ hzz2_ H locs hw => ?_)
  obtain ⟨b5_, hF⟩ := Zgs hF
  refine Ylast S hw hzz2_ zd_87 (by decide) g1_ hrr4_ b5_ dX11_works_202 (fun z6_ H locs ez hzz6_ hw => ?_)
  replace hF := Zle ez hF; clear ez
  refine lv_goto (tgt := 0) S.1 S.2.1 dX11_works_203 (by decide) ?_
  exact hk0 _ _ _ _ _ hF hw hzz6_ hx1 (lv_sub hl [1, 2] rfl)
set_option maxRecDepth 100000 in
set_option maxHeartbeats 4000000 in
theorem w_X11_works_b184 {RR : Unit × ZI} (S : CallFix p m c cX11_works 9 s args Ztbl RX11) (hr : meth.sig.returnType = none) (hlk : meth.locks = false) (hR : 1 ≤ R.frames ∧ 60 * (1) ≤ R.locals) (hdj : Zdj ad) {k0 : ZI → Int → Option (Unit × ZI)} (hk0 : ∀ (z : ZI) (x1 : Int) (H : Heap) (locs : List Loc) (ls : Array Slot), k0 z x1 = some RR → ZW D cA ad (ZA ad) (Zc z) s H locs → Zok z → InR x1 → lv_has ls 9 [(0, .ref (ad 68)), (1, .int (i32 (x1)))] → W p l e R s m args below meth c H locs 0 0 (MQ below (YQv D cA ad RR.2) args s 0 0 (ZA ad)) (F0 m 0 ls [])) : ∀ (z : ZI) (x1 : Int) (H : Heap) (locs : List Loc) (ls : Array Slot), X11_works_b184 k0 z x1 = some RR → ZW D cA ad (ZA ad) (Zc z) s H locs → Zok z → InR x1 → lv_has ls 9 [(0, .ref (ad 68)), (1, .int (i32 (x1)))] → W p l e R s m args below meth c H locs 0 0 (MQ below (YQv D cA ad RR.2) args s 0 0 (ZA ad)) (F0 m 184 ls []) := by
  intro z x1 H locs ls hF hw hzz hx1 hl
  unfold X11_works_b184 at hF
  refine lv_lconst (v := i64 0) S.1 S.2.1 dX11_works_184 lc_0 ?_
  exact w_X11_works_b185 S hr hlk hR hdj hk0 _ _ _ _ _ _ hF hw hzz hx1 (InR_L r_0) (lv_sub hl [0, 1] rfl)
set_option maxRecDepth 100000 in
set_option maxHeartbeats 4000000 in
theorem w_X11_works_b180 {RR : Unit × ZI} (S : CallFix p m c cX11_works 9 s args Ztbl RX11) (hr : meth.sig.returnType = none) (hlk : meth.locks = false) (hR : 1 ≤ R.frames ∧ 60 * (1) ≤ R.locals) (hdj : Zdj ad) {k0 : ZI → Int → Option (Unit × ZI)} (hk0 : ∀ (z : ZI) (x1 : Int) (H : Heap) (locs : List Loc) (ls : Array Slot), k0 z x1 = some RR → ZW D cA ad (ZA ad) (Zc z) s H locs → Zok z → InR x1 → lv_has ls 9 [(0, .ref (ad 68)), (1, .int (i32 (x1)))] → W p l e R s m args below meth c H locs 0 0 (MQ below (YQv D cA ad RR.2) args s 0 0 (ZA ad)) (F0 m 0 ls [])) : ∀ (z : ZI) (x1 : Int) (H : Heap) (locs : List Loc) (ls : Array Slot), X11_works_b180 k0 z x1 = some RR → ZW D cA ad (ZA ad) (Zc z) s H locs → Zok z → InR x1 → lv_has ls 9 [(0, .ref (ad 68)), (1, .int (i32 (x1)))] → W p l e R s m args below meth c H locs 0 0 (MQ below (YQv D cA ad RR.2) args s 0 0 (ZA ad)) (F0 m 180 ls []) := by
  intro z x1 H locs ls hF hw hzz hx1 hl
  unfold X11_works_b180 at hF
  refine lv_lconst (v := i64 1) S.1 S.2.1 dX11_works_180 lc_1 ?_
  refine lv_goto (tgt := 185) S.1 S.2.1 dX11_works_181 (by decide) ?_
  exact w_X11_works_b185 S hr hlk hR hdj hk0 _ _ _ _ _ _ hF hw hzz hx1 (InR_L r_1) (lv_sub hl [0, 1] rfl)
set_option maxRecDepth 100000 in
set_option maxHeartbeats 4000000 in
theorem w_X11_works_L0 {RR : Unit × ZI} (S : CallFix p m c cX11_works 9 s args Ztbl RX11) (hr : meth.sig.returnType = none) (hlk : meth.locks = false) (hR : 1 ≤ R.frames ∧ 60 * (1) ≤ R.locals) (hdj : Zdj ad) : ∀ (n : Nat) (z : ZI) (x1 : Int) (H : Heap) (locs : List Loc) (ls : Array Slot), X11_works_L0 n z x1 = some RR → ZW D cA ad (ZA ad) (Zc z) s H locs → Zok z → InR x1 → lv_has ls 9 [(0, .ref (ad 68)), (1, .int (i32 (x1)))] → W p l e R s m args below meth c H locs 0 0 (MQ below (YQv D cA ad RR.2) args s 0 0 (ZA ad)) (F0 m 0 ls []) := by
  intro n
  induction n with
  | zero => intro z x1 H locs ls hF; exact nomatch hF
  | succ n hk0 =>
    intro z x1 H locs ls hF hw hzz hx1 hl
    replace hF : X11_works_L0b (X11_works_L0 n) z x1 = some RR := hF
    unfold X11_works_L0b at hF
    refine lv_aload_n S.1 S.2.1 dX11_works_0 rfl (lv_at hl 0 rfl) ?_
    refine gg_X11_299 S hw dX11_works_1 ?_
    refine Yif_le (tgt := 206) S (hzz.1 68 26 (by decide)) dX11_works_4 (by decide) (fun c1_ => ?_) (fun c1_ => ?_)
    · replace hF := ZtP c1_ hF
      exact w_X11_works_b206 S hr hlk hR hdj _ _ _ _ hF hw hzz  (lv_sub hl [] rfl)
    · replace hF := ZtN c1_ hF
      refine lv_aload_n S.1 S.2.1 dX11_works_7 rfl (lv_at hl 0 rfl) ?_
      refine gf_X11_61 S hw dX11_works_8 ?_
      refine lv_aload_n S.1 S.2.1 dX11_works_11 rfl (lv_at hl 0 rfl) ?_
      refine gg_X11_299 S hw dX11_works_12 ?_
      refine lv_iconst (v := i32 1) S.1 S.2.1 dX11_works_15 ic_1 ?_
      obtain ⟨g2_, hF⟩ := Zgs hF
      refine Yisub S dX11_works_16 ?_
      obtain ⟨b3_, hF⟩ := Zgs hF
      refine Yiald S hw zd_86 (by decide) g2_ b3_ dX11_works_17 ?_
      obtain ⟨r6_, z4_, h5_, hF⟩ := Ybs hF
      refine YcallSi (rest := []) S hw (c_X11_rank hdj hzz (hzz.1 _ _ (by decide)) h5_) my_X11_rank ms_X11_rank ml_X11_302 (Zrr hR (by decide)) ⟨Nat.zero_le _, Nat.zero_le _⟩ hl.1 rfl rfl (Nat.le_of_ble_eq_true rfl) dX11_works_18 (fun hrr6_ hzz4_ H locs hw => ?_)
      refine lv_iload_n S.1 S.2.1 dX11_works_21 rfl (lv_at hl 1 rfl) ?_
      refine Yicmp_lt (tgt := 206) S hrr6_ hx1 dX11_works_22 (by decide) (fun c7_ => ?_) (fun c7_ => ?_)
      · replace hF := ZtP c7_ hF
        exact w_X11_works_b206 S hr hlk hR hdj _ _ _ _ hF hw hzz4_  (lv_sub hl [] rfl)
      · replace hF := ZtN c7_ hF
        refine lv_aload_n S.1 S.2.1 dX11_works_25 rfl (lv_at hl 0 rfl) ?_
        refine lv_dup S.1 S.2.1 dX11_works_26 rfl ?_
        refine gg_X11_299 S hw dX11_works_27 ?_
        refine lv_iconst (v := i32 1) S.1 S.2.1 dX11_works_30 ic_1 ?_
        obtain ⟨g8_, hF⟩ := Zgs hF
        refine Yisub S dX11_works_31 ?_
        refine pp_X11_299 S hw hzz4_ g8_ dX11_works_32 (fun z9_ H locs ez hzz9_ hw => ?_)
        replace hF := Zle ez hF; clear ez
        refine lv_aload_n S.1 S.2.1 dX11_works_35 rfl (lv_at hl 0 rfl) ?_
        refine gf_X11_61 S hw dX11_works_36 ?_
        refine lv_aload_n S.1 S.2.1 dX11_works_39 rfl (lv_at hl 0 rfl) ?_
        refine gg_X11_299 S hw dX11_works_40 ?_
        obtain ⟨b10_, hF⟩ := Zgs hF
        refine Yiald S hw zd_86 (by decide) (hzz9_.1 68 26 (by decide)) b10_ dX11_works_43 ?_
        refine lv_istore_n (lv' := [(2, .int (i32 (z9_ 86 (z9_ 68 26)))), (0, .ref (ad 68)), (1, .int (i32 (x1)))]) S.1 S.2.1 dX11_works_44 rfl hl (by decide) rfl (fun ls hl => ?_)
        refine lv_aload_n S.1 S.2.1 dX11_works_45 rfl (lv_at hl 1 rfl) ?_
        refine lv_dup S.1 S.2.1 dX11_works_46 rfl ?_
        refine gg_X11_305 S hw dX11_works_47 ?_
        refine lv_iconst (v := i32 1) S.1 S.2.1 dX11_works_50 ic_1 ?_
        obtain ⟨g11_, hF⟩ := Zgs hF
        refine Yisub S dX11_works_51 ?_
        refine pp_X11_305 S hw hzz9_ g11_ dX11_works_52 (fun z12_ H locs ez hzz12_ hw => ?_)
        replace hF := Zle ez hF; clear ez
        refine lv_aload_n S.1 S.2.1 dX11_works_55 rfl (lv_at hl 1 rfl) ?_
        refine gf_X11_64 S hw dX11_works_56 ?_
        refine lv_aload_n S.1 S.2.1 dX11_works_59 rfl (lv_at hl 1 rfl) ?_
        refine gg_X11_305 S hw dX11_works_60 ?_
        refine lv_iconst (v := i32 1) S.1 S.2.1 dX11_works_63 ic_1 ?_
        obtain ⟨g13_, hF⟩ := Zgs hF
        refine Yisub S dX11_works_64 ?_
        obtain ⟨b14_, hF⟩ := Zgs hF
        refine Ylald S hw zd_87 g13_ b14_ dX11_works_65 ?_
        refine lv_lstore_n (lv' := [(3, .long (i64 (z12_ (87 + 1000) ((z12_ 68 27) - 1)))), (2, .int (i32 (z9_ 86 (z9_ 68 26)))), (0, .ref (ad 68)), (1, .int (i32 (x1)))]) S.1 S.2.1 dX11_works_66 rfl hl (by decide) rfl (fun ls hl => ?_)
        refine lv_aload_n S.1 S.2.1 dX11_works_67 rfl (lv_at hl 2 rfl) ?_
        refine gf_X11_64 S hw dX11_works_68 ?_
        refine lv_aload_n S.1 S.2.1 dX11_works_71 rfl (lv_at hl 2 rfl) ?_
        refine gg_X11_305 S hw dX11_works_72 ?_
        obtain ⟨b15_, hF⟩ := Zgs hF
        refine Ylald S hw zd_87 (hzz12_.1 68 27 (by decide)) b15_ dX11_works_75 ?_
        refine lv_lstore (lv' := [(5, .long (i64 (z12_ (87 + 1000) (z12_ 68 27)))), (3, .long (i64 (z12_ (87 + 1000) ((z12_ 68 27) - 1)))), (2, .int (i32 (z9_ 86 (z9_ 68 26)))), (0, .ref (ad 68)), (1, .int (i32 (x1)))]) S.1 S.2.1 dX11_works_76 hl (by decide) rfl (fun ls hl => ?_)
        refine lv_iload_n S.1 S.2.1 dX11_works_78 rfl (lv_at hl 2 rfl) ?_
        refine lv_bipush (v := i32 43) S.1 S.2.1 dX11_works_79 bp_43 ?_
        refine Yicmp_ne (tgt := 91) S (hzz9_.1 _ _ (by decide)) r_43 dX11_works_81 (by decide) (fun c16_ => ?_) (fun c16_ => ?_)
        · replace hF := ZtN c16_ hF
          refine lv_iload_n S.1 S.2.1 dX11_works_91 rfl (lv_at hl 2 rfl) ?_
          refine lv_bipush (v := i32 45) S.1 S.2.1 dX11_works_92 bp_45 ?_
          refine Yicmp_ne (tgt := 104) S (hzz9_.1 _ _ (by decide)) r_45 dX11_works_94 (by decide) (fun c17_ => ?_) (fun c17_ => ?_)
          · replace hF := ZtN c17_ hF
            refine lv_iload_n S.1 S.2.1 dX11_works_104 rfl (lv_at hl 2 rfl) ?_
            refine lv_bipush (v := i32 42) S.1 S.2.1 dX11_works_105 bp_42 ?_
            refine Yicmp_ne (tgt := 117) S (hzz9_.1 _ _ (by decide)) r_42 dX11_works_107 (by decide) (fun c18_ => ?_) (fun c18_ => ?_)
            · replace hF := ZtN c18_ hF
              refine lv_iload_n S.1 S.2.1 dX11_works_117 rfl (lv_at hl 2 rfl) ?_
              refine lv_bipush (v := i32 47) S.1 S.2.1 dX11_works_118 bp_47 ?_
              refine Yicmp_ne (tgt := 141) S (hzz9_.1 _ _ (by decide)) r_47 dX11_works_120 (by decide) (fun c19_ => ?_) (fun c19_ => ?_)
              · replace hF := ZtN c19_ hF
                refine lv_iload_n S.1 S.2.1 dX11_works_141 rfl (lv_at hl 2 rfl) ?_
                refine lv_bipush (v := i32 60) S.1 S.2.1 dX11_works_142 bp_60 ?_
                refine Yicmp_ne (tgt := 157) S (hzz9_.1 _ _ (by decide)) r_60 dX11_works_144 (by decide) (fun c20_ => ?_) (fun c20_ => ?_)
                · replace hF := ZtN c20_ hF
                  refine lv_iload_n S.1 S.2.1 dX11_works_157 rfl (lv_at hl 2 rfl) ?_
                  refine lv_bipush (v := i32 62) S.1 S.2.1 dX11_works_158 bp_62 ?_
                  refine Yicmp_ne (tgt := 173) S (hzz9_.1 _ _ (by decide)) r_62 dX11_works_160 (by decide) (fun c21_ => ?_) (fun c21_ => ?_)
                  · replace hF := ZtN c21_ hF
                    refine lv_lload_n S.1 S.2.1 dX11_works_173 rfl (lv_at hl 1 rfl) ?_
                    refine lv_lload S.1 S.2.1 dX11_works_174 (lv_at hl 0 rfl) ?_
                    refine Ylcmp S (hzz12_.2 _ _) (hzz12_.2 _ _) dX11_works_176 ?_
                    refine Yif_ne (tgt := 184) S (jcmp_in _ _) dX11_works_177 (by decide) (fun c22_ => ?_) (fun c22_ => ?_)
                    · replace hF := ZtN c22_ hF
                      exact w_X11_works_b184 S hr hlk hR hdj hk0 _ _ _ _ _ hF hw hzz12_ hx1 (lv_sub hl [3, 4] rfl)
                    · replace hF := ZtP c22_ hF
                      exact w_X11_works_b180 S hr hlk hR hdj hk0 _ _ _ _ _ hF hw hzz12_ hx1 (lv_sub hl [3, 4] rfl)
                  · replace hF := ZtP c21_ hF
                    refine lv_lload_n S.1 S.2.1 dX11_works_163 rfl (lv_at hl 1 rfl) ?_
                    refine lv_lload S.1 S.2.1 dX11_works_164 (lv_at hl 0 rfl) ?_
                    refine Ylcmp S (hzz12_.2 _ _) (hzz12_.2 _ _) dX11_works_166 ?_
                    refine Yif_le (tgt := 184) S (jcmp_in _ _) dX11_works_167 (by decide) (fun c23_ => ?_) (fun c23_ => ?_)
                    · replace hF := ZtP c23_ hF
                      exact w_X11_works_b184 S hr hlk hR hdj hk0 _ _ _ _ _ hF hw hzz12_ hx1 (lv_sub hl [3, 4] rfl)
                    · replace hF := ZtN c23_ hF
                      refine lv_goto (tgt := 180) S.1 S.2.1 dX11_works_170 (by decide) ?_
                      exact w_X11_works_b180 S hr hlk hR hdj hk0 _ _ _ _ _ hF hw hzz12_ hx1 (lv_sub hl [3, 4] rfl)
                · replace hF := ZtP c20_ hF
                  refine lv_lload_n S.1 S.2.1 dX11_works_147 rfl (lv_at hl 1 rfl) ?_
                  refine lv_lload S.1 S.2.1 dX11_works_148 (lv_at hl 0 rfl) ?_
                  refine Ylcmp S (hzz12_.2 _ _) (hzz12_.2 _ _) dX11_works_150 ?_
                  refine Yif_ge (tgt := 184) S (jcmp_in _ _) dX11_works_151 (by decide) (fun c24_ => ?_) (fun c24_ => ?_)
                  · replace hF := ZtP c24_ hF
                    exact w_X11_works_b184 S hr hlk hR hdj hk0 _ _ _ _ _ hF hw hzz12_ hx1 (lv_sub hl [3, 4] rfl)
                  · replace hF := ZtN c24_ hF
                    refine lv_goto (tgt := 180) S.1 S.2.1 dX11_works_154 (by decide) ?_
                    exact w_X11_works_b180 S hr hlk hR hdj hk0 _ _ _ _ _ hF hw hzz12_ hx1 (lv_sub hl [3, 4] rfl)
              · replace hF := ZtP c19_ hF
                refine lv_lload S.1 S.2.1 dX11_works_123 (lv_at hl 0 rfl) ?_
                refine lv_lconst (v := i64 0) S.1 S.2.1 dX11_works_125 lc_0 ?_
                refine Ylcmp S (hzz12_.2 _ _) (InR_L r_0) dX11_works_126 ?_
                refine Yif_ne (tgt := 134) S (jcmp_in _ _) dX11_works_127 (by decide) (fun c25_ => ?_) (fun c25_ => ?_)
                · replace hF := ZtN c25_ hF
                  refine lv_lload_n S.1 S.2.1 dX11_works_134 rfl (lv_at hl 1 rfl) ?_
                  refine lv_lload S.1 S.2.1 dX11_works_135 (lv_at hl 0 rfl) ?_
                  obtain ⟨g26_, hF⟩ := Zgs hF
                  obtain ⟨g27_, hF⟩ := Zgs hF
                  refine Yldiv S (hzz12_.2 _ _) (hzz12_.2 _ _) g26_ dX11_works_137 ?_
                  refine lv_goto (tgt := 185) S.1 S.2.1 dX11_works_138 (by decide) ?_
                  exact w_X11_works_b185 S hr hlk hR hdj hk0 _ _ _ _ _ _ hF hw hzz12_ hx1 g27_ (lv_sub hl [3, 4] rfl)
                · replace hF := ZtP c25_ hF
                  refine lv_lconst (v := i64 0) S.1 S.2.1 dX11_works_130 lc_0 ?_
                  refine lv_goto (tgt := 185) S.1 S.2.1 dX11_works_131 (by decide) ?_
                  exact w_X11_works_b185 S hr hlk hR hdj hk0 _ _ _ _ _ _ hF hw hzz12_ hx1 (InR_L r_0) (lv_sub hl [3, 4] rfl)
            · replace hF := ZtP c18_ hF
              refine lv_lload_n S.1 S.2.1 dX11_works_110 rfl (lv_at hl 1 rfl) ?_
              refine lv_lload S.1 S.2.1 dX11_works_111 (lv_at hl 0 rfl) ?_
              obtain ⟨g28_, hF⟩ := Zgs hF
              refine Ylmul S dX11_works_113 ?_
              refine lv_goto (tgt := 185) S.1 S.2.1 dX11_works_114 (by decide) ?_
              exact w_X11_works_b185 S hr hlk hR hdj hk0 _ _ _ _ _ _ hF hw hzz12_ hx1 g28_ (lv_sub hl [3, 4] rfl)
          · replace hF := ZtP c17_ hF
            refine lv_lload_n S.1 S.2.1 dX11_works_97 rfl (lv_at hl 1 rfl) ?_
            refine lv_lload S.1 S.2.1 dX11_works_98 (lv_at hl 0 rfl) ?_
            obtain ⟨g29_, hF⟩ := Zgs hF
            refine Ylsub S dX11_works_100 ?_
            refine lv_goto (tgt := 185) S.1 S.2.1 dX11_works_101 (by decide) ?_
            exact w_X11_works_b185 S hr hlk hR hdj hk0 _ _ _ _ _ _ hF hw hzz12_ hx1 g29_ (lv_sub hl [3, 4] rfl)
        · replace hF := ZtP c16_ hF
          refine lv_lload_n S.1 S.2.1 dX11_works_84 rfl (lv_at hl 1 rfl) ?_
          refine lv_lload S.1 S.2.1 dX11_works_85 (lv_at hl 0 rfl) ?_
          obtain ⟨g30_, hF⟩ := Zgs hF
          refine Yladd S dX11_works_87 ?_
          refine lv_goto (tgt := 185) S.1 S.2.1 dX11_works_88 (by decide) ?_
          exact w_X11_works_b185 S hr hlk hR hdj hk0 _ _ _ _ _ _ hF hw hzz12_ hx1 g30_ (lv_sub hl [3, 4] rfl)
set_option maxRecDepth 100000 in
set_option maxHeartbeats 4000000 in
theorem c_X11_works {l : Launch} {D : va_G} {cA : Nat → ClassId} {ad : Nat → Nat} (hdj : Zdj ad) {z z1 : ZI} {x1 : Int} (hzz : Zok z) (hx1 : InR x1) (hF : F_X11_works z x1 = some ((), z1)) : YMv l D cA ad (1) yX11_works cX11_works 9 [.ref (ad 68), .int (i32 x1)] z z1 :=
  Zmet hdj (by decide) rfl (Nat.le_of_ble_eq_true rfl) (lv := [(0, .ref (ad 68)), (1, .int (i32 (x1)))]) rfl (fun p e s m args below meth c ls S hr hlk hw hl => by
    have hR : 1 ≤ (Zrm (1)).frames ∧ 60 * (1) ≤ (Zrm (1)).locals := ⟨Nat.le_refl _, Nat.le_refl _⟩
    unfold F_X11_works at hF
    revert hR
    generalize Zrm (1) = R
    intro hR
    exact w_X11_works_L0 S hr hlk hR hdj Zfuel _ _ _ _ _ hF hw hzz hx1 (lv_sub hl [0, 1] rfl))
set_option maxRecDepth 100000 in
set_option maxHeartbeats 4000000 in
theorem w_X11_worth_b230 {RR : Int × ZI} (S : CallFix p m c cX11_worth 6 s args Ztbl RX11) (hr : meth.sig.returnType = some .int) (hlk : meth.locks = false) (hR : 2 ≤ R.frames ∧ 60 * (2) ≤ R.locals) (hdj : Zdj ad) : ∀ (z : ZI) (H : Heap) (locs : List Loc) (ls : Array Slot), X11_worth_b230 z  = some RR → ZW D cA ad (ZA ad) (Zc z) s H locs → Zok z → lv_has ls 6 [(0, .ref (ad 68))] → W p l e R s m args below meth c H locs 0 0 (MQ below (YQi D cA ad RR.1 RR.2) args s 0 0 (ZA ad)) (F0 m 230 ls []) := by
  intro z  H locs ls hF hw hzz  hl
  unfold X11_worth_b230 at hF
  refine lv_aload_n S.1 S.2.1 dX11_worth_230 rfl (lv_at hl 0 rfl) ?_
  refine lv_iconst (v := i32 1) S.1 S.2.1 dX11_worth_231 ic_1 ?_
  obtain ⟨r3_, z1_, h2_, hF⟩ := Ybs hF
  refine YcallVv (rest := []) S hw (c_X11_works hdj hzz r_1 h2_) my_X11_works mi_X11_works ml_X11_316 zd_68 zc_X11 rfl (Zrr hR (by decide)) ⟨Nat.zero_le _, Nat.zero_le _⟩ hl.1 rfl rfl (Nat.le_of_ble_eq_true rfl) dX11_worth_232 (fun hzz1_ H locs hw => ?_)
  refine lv_aload_n S.1 S.2.1 dX11_worth_235 rfl (lv_at hl 0 rfl) ?_
  refine gf_X11_64 S hw dX11_worth_236 ?_
  refine lv_iconst (v := i32 0) S.1 S.2.1 dX11_worth_239 ic_0 ?_
  obtain ⟨b4_, hF⟩ := Zgs hF
  refine Ylald S hw zd_87 r_0 b4_ dX11_worth_240 ?_
  refine Yl2i S dX11_worth_241 ?_
  exact Yireti S hw hzz1_ (InR_of _) hr hlk hF dX11_worth_242
set_option maxRecDepth 100000 in
set_option maxHeartbeats 4000000 in
theorem w_X11_worth_b227 {RR : Int × ZI} (S : CallFix p m c cX11_worth 6 s args Ztbl RX11) (hr : meth.sig.returnType = some .int) (hlk : meth.locks = false) (hR : 2 ≤ R.frames ∧ 60 * (2) ≤ R.locals) (hdj : Zdj ad) {k12 : ZI → Int → Int → Option (Int × ZI)} (hk12 : ∀ (z : ZI) (x1 : Int) (x2 : Int) (H : Heap) (locs : List Loc) (ls : Array Slot), k12 z x1 x2 = some RR → ZW D cA ad (ZA ad) (Zc z) s H locs → Zok z → InR x1 → InR x2 → lv_has ls 6 [(0, .ref (ad 68)), (1, .int (i32 (x1))), (2, .int (i32 (x2)))] → W p l e R s m args below meth c H locs 0 0 (MQ below (YQi D cA ad RR.1 RR.2) args s 0 0 (ZA ad)) (F0 m 12 ls [])) : ∀ (z : ZI) (x1 : Int) (x2 : Int) (H : Heap) (locs : List Loc) (ls : Array Slot), X11_worth_b227 k12 z x1 x2 = some RR → ZW D cA ad (ZA ad) (Zc z) s H locs → Zok z → InR x1 → InR x2 → lv_has ls 6 [(0, .ref (ad 68)), (1, .int (i32 (x1))), (2, .int (i32 (x2)))] → W p l e R s m args below meth c H locs 0 0 (MQ below (YQi D cA ad RR.1 RR.2) args s 0 0 (ZA ad)) (F0 m 227 ls []) := by
  intro z x1 x2 H locs ls hF hw hzz hx1 hx2 hl
  unfold X11_worth_b227 at hF
  refine lv_goto (tgt := 12) S.1 S.2.1 dX11_worth_227 (by decide) ?_
  exact hk12 _ _ _ _ _ _ hF hw hzz hx1 hx2 (lv_sub hl [0, 1, 2] rfl)
set_option maxRecDepth 100000 in
set_option maxHeartbeats 4000000 in
theorem w_X11_worth_b145 {RR : Int × ZI} (S : CallFix p m c cX11_worth 6 s args Ztbl RX11) (hr : meth.sig.returnType = some .int) (hlk : meth.locks = false) (hR : 2 ≤ R.frames ∧ 60 * (2) ≤ R.locals) (hdj : Zdj ad) {k12 : ZI → Int → Int → Option (Int × ZI)} (hk12 : ∀ (z : ZI) (x1 : Int) (x2 : Int) (H : Heap) (locs : List Loc) (ls : Array Slot), k12 z x1 x2 = some RR → ZW D cA ad (ZA ad) (Zc z) s H locs → Zok z → InR x1 → InR x2 → lv_has ls 6 [(0, .ref (ad 68)), (1, .int (i32 (x1))), (2, .int (i32 (x2)))] → W p l e R s m args below meth c H locs 0 0 (MQ below (YQi D cA ad RR.1 RR.2) args s 0 0 (ZA ad)) (F0 m 12 ls [])) : ∀ (z : ZI) (x1 : Int) (x2 : Int) (x4 : Int) (H : Heap) (locs : List Loc) (ls : Array Slot), X11_worth_b145 k12 z x1 x2 x4 = some RR → ZW D cA ad (ZA ad) (Zc z) s H locs → Zok z → InR x1 → InR x2 → InL x4 → lv_has ls 6 [(0, .ref (ad 68)), (1, .int (i32 (x1))), (2, .int (i32 (x2))), (4, .long (i64 (x4)))] → W p l e R s m args below meth c H locs 0 0 (MQ below (YQi D cA ad RR.1 RR.2) args s 0 0 (ZA ad)) (F0 m 145 ls []) := by
  intro z x1 x2 x4 H locs ls hF hw hzz hx1 hx2 hx4 hl
  unfold X11_worth_b145 at hF
  refine lv_aload_n S.1 S.2.1 dX11_worth_145 rfl (lv_at hl 0 rfl) ?_
  refine gf_X11_64 S hw dX11_worth_146 ?_
  refine lv_aload_n S.1 S.2.1 dX11_worth_149 rfl (lv_at hl 0 rfl) ?_
  refine gg_X11_305 S hw dX11_worth_150 ?_
  refine lv_lload S.1 S.2.1 dX11_worth_153 (lv_at hl 3 rfl) ?_
  obtain ⟨b1_, hF⟩ := Zgs hF
  refine Ylast S hw hzz zd_87 (by decide) (hzz.1 68 27 (by decide)) hx4 b1_ dX11_worth_155 (fun z2_ H locs ez hzz2_ hw => ?_)
  replace hF := Zle ez hF; clear ez
  refine lv_aload_n S.1 S.2.1 dX11_worth_156 rfl (lv_at hl 0 rfl) ?_
  refine lv_dup S.1 S.2.1 dX11_worth_157 rfl ?_
  refine gg_X11_305 S hw dX11_worth_158 ?_
  refine lv_iconst (v := i32 1) S.1 S.2.1 dX11_worth_161 ic_1 ?_
  obtain ⟨g3_, hF⟩ := Zgs hF
  refine Yiadd S dX11_worth_162 ?_
  refine pp_X11_305 S hw hzz2_ g3_ dX11_worth_163 (fun z4_ H locs ez hzz4_ hw => ?_)
  replace hF := Zle ez hF; clear ez
  refine lv_goto (tgt := 227) S.1 S.2.1 dX11_worth_166 (by decide) ?_
  exact w_X11_worth_b227 S hr hlk hR hdj hk12 _ _ _ _ _ _ hF hw hzz4_ hx1 hx2 (lv_sub hl [0, 1, 2] rfl)
set_option maxRecDepth 100000 in
set_option maxHeartbeats 4000000 in
theorem w_X11_worth_L87 {RR : Int × ZI} (S : CallFix p m c cX11_worth 6 s args Ztbl RX11) (hr : meth.sig.returnType = some .int) (hlk : meth.locks = false) (hR : 2 ≤ R.frames ∧ 60 * (2) ≤ R.locals) (hdj : Zdj ad) {k12 : ZI → Int → Int → Option (Int × ZI)} (hk12 : ∀ (z : ZI) (x1 : Int) (x2 : Int) (H : Heap) (locs : List Loc) (ls : Array Slot), k12 z x1 x2 = some RR → ZW D cA ad (ZA ad) (Zc z) s H locs → Zok z → InR x1 → InR x2 → lv_has ls 6 [(0, .ref (ad 68)), (1, .int (i32 (x1))), (2, .int (i32 (x2)))] → W p l e R s m args below meth c H locs 0 0 (MQ below (YQi D cA ad RR.1 RR.2) args s 0 0 (ZA ad)) (F0 m 12 ls [])) : ∀ (n : Nat) (z : ZI) (x1 : Int) (x2 : Int) (x4 : Int) (H : Heap) (locs : List Loc) (ls : Array Slot), X11_worth_L87 k12 n z x1 x2 x4 = some RR → ZW D cA ad (ZA ad) (Zc z) s H locs → Zok z → InR x1 → InR x2 → InL x4 → lv_has ls 6 [(0, .ref (ad 68)), (1, .int (i32 (x1))), (2, .int (i32 (x2))), (4, .long (i64 (x4)))] → W p l e R s m args below meth c H locs 0 0 (MQ below (YQi D cA ad RR.1 RR.2) args s 0 0 (ZA ad)) (F0 m 87 ls []) := by
  intro n
  induction n with
  | zero => intro z x1 x2 x4 H locs ls hF; exact nomatch hF
  | succ n hk87 =>
    intro z x1 x2 x4 H locs ls hF hw hzz hx1 hx2 hx4 hl
    replace hF : X11_worth_L87b k12 (X11_worth_L87 k12 n) z x1 x2 x4 = some RR := hF
    unfold X11_worth_L87b at hF
    refine lv_iload_n S.1 S.2.1 dX11_worth_87 rfl (lv_at hl 2 rfl) ?_
    refine lv_aload_n S.1 S.2.1 dX11_worth_88 rfl (lv_at hl 0 rfl) ?_
    refine gf_X11_49 S hw dX11_worth_89 ?_
    refine lv_iload_n S.1 S.2.1 dX11_worth_92 rfl (lv_at hl 1 rfl) ?_
    obtain ⟨b1_, hF⟩ := Zgs hF
    refine Yiald S hw zd_82 (by decide) hx1 b1_ dX11_worth_93 ?_
    refine Yicmp_ge (tgt := 145) S hx2 (hzz.1 _ _ (by decide)) dX11_worth_94 (by decide) (fun c2_ => ?_) (fun c2_ => ?_)
    · replace hF := ZtP c2_ hF
      exact w_X11_worth_b145 S hr hlk hR hdj hk12 _ _ _ _ _ _ _ hF hw hzz hx1 hx2 hx4 (lv_sub hl [0, 1, 2, 3] rfl)
    · replace hF := ZtN c2_ hF
      refine lv_aload_n S.1 S.2.1 dX11_worth_97 rfl (lv_at hl 0 rfl) ?_
      refine gf_X11_46 S hw dX11_worth_98 ?_
      refine lv_bipush (v := i32 60) S.1 S.2.1 dX11_worth_101 bp_60 ?_
      refine lv_iload_n S.1 S.2.1 dX11_worth_103 rfl (lv_at hl 1 rfl) ?_
      obtain ⟨g3_, hF⟩ := Zgs hF
      refine Yimul S dX11_worth_104 ?_
      refine lv_iload_n S.1 S.2.1 dX11_worth_105 rfl (lv_at hl 2 rfl) ?_
      obtain ⟨g4_, hF⟩ := Zgs hF
      refine Yiadd S dX11_worth_106 ?_
      obtain ⟨b5_, hF⟩ := Zgs hF
      refine Yiald S hw zd_81 (by decide) g4_ b5_ dX11_worth_107 ?_
      obtain ⟨r8_, z6_, h7_, hF⟩ := Ybs hF
      refine YcallSi (rest := []) S hw (c_X11_isDigit hdj hzz (hzz.1 _ _ (by decide)) h7_) my_X11_isDigit ms_X11_isDigit ml_X11_282 (Zrr hR (by decide)) ⟨Nat.zero_le _, Nat.zero_le _⟩ hl.1 rfl rfl (Nat.le_of_ble_eq_true rfl) dX11_worth_108 (fun hrr8_ hzz6_ H locs hw => ?_)
      refine Yif_eq (tgt := 145) S hrr8_ dX11_worth_111 (by decide) (fun c9_ => ?_) (fun c9_ => ?_)
      · replace hF := ZtP c9_ hF
        exact w_X11_worth_b145 S hr hlk hR hdj hk12 _ _ _ _ _ _ _ hF hw hzz6_ hx1 hx2 hx4 (lv_sub hl [0, 1, 2, 3] rfl)
      · replace hF := ZtN c9_ hF
        refine lv_ldc2 (own := RX11) (v := i64 10) S.1 S.2.1 S.2.2.2.1 (S.2.2.2.2 _ yl_X11_312) dX11_worth_114 ?_
        refine lv_lload S.1 S.2.1 dX11_worth_117 (lv_at hl 3 rfl) ?_
        obtain ⟨g10_, hF⟩ := Zgs hF
        refine Ylmul S dX11_worth_119 ?_
        refine lv_aload_n S.1 S.2.1 dX11_worth_120 rfl (lv_at hl 0 rfl) ?_
        refine gf_X11_46 S hw dX11_worth_121 ?_
        refine lv_bipush (v := i32 60) S.1 S.2.1 dX11_worth_124 bp_60 ?_
        refine lv_iload_n S.1 S.2.1 dX11_worth_126 rfl (lv_at hl 1 rfl) ?_
        obtain ⟨g11_, hF⟩ := Zgs hF
        refine Yimul S dX11_worth_127 ?_
        refine lv_iload_n S.1 S.2.1 dX11_worth_128 rfl (lv_at hl 2 rfl) ?_
        obtain ⟨g12_, hF⟩ := Zgs hF
        refine Yiadd S dX11_worth_129 ?_
        obtain ⟨b13_, hF⟩ := Zgs hF
        refine Yiald S hw zd_81 (by decide) g12_ b13_ dX11_worth_130 ?_
        refine Yi2l S (hzz6_.1 _ _ (by decide)) dX11_worth_131 ?_
        obtain ⟨g14_, hF⟩ := Zgs hF
        refine Yladd S dX11_worth_132 ?_
        refine lv_ldc2 (own := RX11) (v := i64 48) S.1 S.2.1 S.2.2.2.1 (S.2.2.2.2 _ yl_X11_314) dX11_worth_133 ?_
        obtain ⟨g15_, hF⟩ := Zgs hF
        refine Ylsub S dX11_worth_136 ?_
        refine lv_lstore (lv' := [(4, .long (i64 (((10 * x4) + (z6_ 81 ((60 * x1) + x2))) - 48))), (0, .ref (ad 68)), (1, .int (i32 (x1))), (2, .int (i32 (x2)))]) S.1 S.2.1 dX11_worth_137 hl (by decide) rfl (fun ls hl => ?_)
        obtain ⟨g16_, hF⟩ := Zgs hF
        refine lv_iinc (v := i32 (x2 + 1)) (lv' := [(2, .int (i32 (x2 + 1))), (4, .long (i64 (((10 * x4) + (z6_ 81 ((60 * x1) + x2))) - 48))), (0, .ref (ad 68)), (1, .int (i32 (x1)))]) S.1 S.2.1 dX11_worth_139 hl (k := 3) rfl Yiinc (by decide) rfl (fun ls hl => ?_)
        refine lv_goto (tgt := 87) S.1 S.2.1 dX11_worth_142 (by decide) ?_
        exact hk87 _ _ _ _ _ _ _ hF hw hzz6_ hx1 g16_ g15_ (lv_sub hl [2, 3, 0, 1] rfl)
set_option maxRecDepth 100000 in
set_option maxHeartbeats 4000000 in
theorem w_X11_worth_b207 {RR : Int × ZI} (S : CallFix p m c cX11_worth 6 s args Ztbl RX11) (hr : meth.sig.returnType = some .int) (hlk : meth.locks = false) (hR : 2 ≤ R.frames ∧ 60 * (2) ≤ R.locals) (hdj : Zdj ad) {k12 : ZI → Int → Int → Option (Int × ZI)} (hk12 : ∀ (z : ZI) (x1 : Int) (x2 : Int) (H : Heap) (locs : List Loc) (ls : Array Slot), k12 z x1 x2 = some RR → ZW D cA ad (ZA ad) (Zc z) s H locs → Zok z → InR x1 → InR x2 → lv_has ls 6 [(0, .ref (ad 68)), (1, .int (i32 (x1))), (2, .int (i32 (x2)))] → W p l e R s m args below meth c H locs 0 0 (MQ below (YQi D cA ad RR.1 RR.2) args s 0 0 (ZA ad)) (F0 m 12 ls [])) : ∀ (z : ZI) (x1 : Int) (x2 : Int) (x3 : Int) (H : Heap) (locs : List Loc) (ls : Array Slot), X11_worth_b207 k12 z x1 x2 x3 = some RR → ZW D cA ad (ZA ad) (Zc z) s H locs → Zok z → InR x1 → InR x2 → InR x3 → lv_has ls 6 [(0, .ref (ad 68)), (1, .int (i32 (x1))), (2, .int (i32 (x2))), (3, .int (i32 (x3)))] → W p l e R s m args below meth c H locs 0 0 (MQ below (YQi D cA ad RR.1 RR.2) args s 0 0 (ZA ad)) (F0 m 207 ls []) := by
  intro z x1 x2 x3 H locs ls hF hw hzz hx1 hx2 hx3 hl
  unfold X11_worth_b207 at hF
  refine lv_aload_n S.1 S.2.1 dX11_worth_207 rfl (lv_at hl 0 rfl) ?_
  refine gf_X11_61 S hw dX11_worth_208 ?_
  refine lv_aload_n S.1 S.2.1 dX11_worth_211 rfl (lv_at hl 0 rfl) ?_
  refine gg_X11_299 S hw dX11_worth_212 ?_
  refine lv_iload_n S.1 S.2.1 dX11_worth_215 rfl (lv_at hl 3 rfl) ?_
  obtain ⟨b1_, hF⟩ := Zgs hF
  refine Yiast S hw hzz zd_86 (by decide) (hzz.1 68 26 (by decide)) hx3 b1_ dX11_worth_216 (fun z2_ H locs ez hzz2_ hw => ?_)
  replace hF := Zle ez hF; clear ez
  refine lv_aload_n S.1 S.2.1 dX11_worth_217 rfl (lv_at hl 0 rfl) ?_
  refine lv_dup S.1 S.2.1 dX11_worth_218 rfl ?_
  refine gg_X11_299 S hw dX11_worth_219 ?_
  refine lv_iconst (v := i32 1) S.1 S.2.1 dX11_worth_222 ic_1 ?_
  obtain ⟨g3_, hF⟩ := Zgs hF
  refine Yiadd S dX11_worth_223 ?_
  refine pp_X11_299 S hw hzz2_ g3_ dX11_worth_224 (fun z4_ H locs ez hzz4_ hw => ?_)
  replace hF := Zle ez hF; clear ez
  exact w_X11_worth_b227 S hr hlk hR hdj hk12 _ _ _ _ _ _ hF hw hzz4_ hx1 hx2 (lv_sub hl [0, 1, 2] rfl)
set_option maxRecDepth 100000 in
set_option maxHeartbeats 4000000 in
theorem w_X11_worth_L12 {RR : Int × ZI} (S : CallFix p m c cX11_worth 6 s args Ztbl RX11) (hr : meth.sig.returnType = some .int) (hlk : meth.locks = false) (hR : 2 ≤ R.frames ∧ 60 * (2) ≤ R.locals) (hdj : Zdj ad) : ∀ (n : Nat) (z : ZI) (x1 : Int) (x2 : Int) (H : Heap) (locs : List Loc) (ls : Array Slot), X11_worth_L12 n z x1 x2 = some RR → ZW D cA ad (ZA ad) (Zc z) s H locs → Zok z → InR x1 → InR x2 → lv_has ls 6 [(0, .ref (ad 68)), (1, .int (i32 (x1))), (2, .int (i32 (x2)))] → W p l e R s m args below meth c H locs 0 0 (MQ below (YQi D cA ad RR.1 RR.2) args s 0 0 (ZA ad)) (F0 m 12 ls []) := by
  intro n
  induction n with
  | zero => intro z x1 x2 H locs ls hF; exact nomatch hF
  | succ n hk12 =>
    intro z x1 x2 H locs ls hF hw hzz hx1 hx2 hl
    replace hF : X11_worth_L12b (X11_worth_L12 n) z x1 x2 = some RR := hF
    unfold X11_worth_L12b at hF
    refine lv_iload_n S.1 S.2.1 dX11_worth_12 rfl (lv_at hl 2 rfl) ?_
    refine lv_aload_n S.1 S.2.1 dX11_worth_13 rfl (lv_at hl 0 rfl) ?_
    refine gf_X11_49 S hw dX11_worth_14 ?_
    refine lv_iload_n S.1 S.2.1 dX11_worth_17 rfl (lv_at hl 1 rfl) ?_
    obtain ⟨b1_, hF⟩ := Zgs hF
    refine Yiald S hw zd_82 (by decide) hx1 b1_ dX11_worth_18 ?_
    refine Yicmp_ge (tgt := 230) S hx2 (hzz.1 _ _ (by decide)) dX11_worth_19 (by decide) (fun c2_ => ?_) (fun c2_ => ?_)
    · replace hF := ZtP c2_ hF
      exact w_X11_worth_b230 S hr hlk hR hdj _ _ _ _ hF hw hzz  (lv_sub hl [0] rfl)
    · replace hF := ZtN c2_ hF
      refine lv_aload_n S.1 S.2.1 dX11_worth_22 rfl (lv_at hl 0 rfl) ?_
      refine gf_X11_46 S hw dX11_worth_23 ?_
      refine lv_bipush (v := i32 60) S.1 S.2.1 dX11_worth_26 bp_60 ?_
      refine lv_iload_n S.1 S.2.1 dX11_worth_28 rfl (lv_at hl 1 rfl) ?_
      obtain ⟨g3_, hF⟩ := Zgs hF
      refine Yimul S dX11_worth_29 ?_
      refine lv_iload_n S.1 S.2.1 dX11_worth_30 rfl (lv_at hl 2 rfl) ?_
      obtain ⟨g4_, hF⟩ := Zgs hF
      refine Yiadd S dX11_worth_31 ?_
      obtain ⟨b5_, hF⟩ := Zgs hF
      refine Yiald S hw zd_81 (by decide) g4_ b5_ dX11_worth_32 ?_
      refine lv_istore_n (lv' := [(3, .int (i32 (z 81 ((60 * x1) + x2)))), (0, .ref (ad 68)), (1, .int (i32 (x1))), (2, .int (i32 (x2)))]) S.1 S.2.1 dX11_worth_33 rfl hl (by decide) rfl (fun ls hl => ?_)
      obtain ⟨g6_, hF⟩ := Zgs hF
      refine lv_iinc (v := i32 (x2 + 1)) (lv' := [(2, .int (i32 (x2 + 1))), (3, .int (i32 (z 81 ((60 * x1) + x2)))), (0, .ref (ad 68)), (1, .int (i32 (x1)))]) S.1 S.2.1 dX11_worth_34 hl (k := 3) rfl Yiinc (by decide) rfl (fun ls hl => ?_)
      refine lv_iload_n S.1 S.2.1 dX11_worth_37 rfl (lv_at hl 1 rfl) ?_
      obtain ⟨r9_, z7_, h8_, hF⟩ := Ybs hF
      refine YcallSi (rest := []) S hw (c_X11_isLetter hdj hzz (hzz.1 _ _ (by decide)) h8_) my_X11_isLetter ms_X11_isLetter ml_X11_279 (Zrr hR (by decide)) ⟨Nat.zero_le _, Nat.zero_le _⟩ hl.1 rfl rfl (Nat.le_of_ble_eq_true rfl) dX11_worth_38 (fun hrr9_ hzz7_ H locs hw => ?_)
      refine Yif_eq (tgt := 73) S hrr9_ dX11_worth_41 (by decide) (fun c10_ => ?_) (fun c10_ => ?_)
      · replace hF := ZtP c10_ hF
        refine lv_iload_n S.1 S.2.1 dX11_worth_73 rfl (lv_at hl 1 rfl) ?_
        obtain ⟨r13_, z11_, h12_, hF⟩ := Ybs hF
        refine YcallSi (rest := []) S hw (c_X11_isDigit hdj hzz7_ (hzz.1 _ _ (by decide)) h12_) my_X11_isDigit ms_X11_isDigit ml_X11_282 (Zrr hR (by decide)) ⟨Nat.zero_le _, Nat.zero_le _⟩ hl.1 rfl rfl (Nat.le_of_ble_eq_true rfl) dX11_worth_74 (fun hrr13_ hzz11_ H locs hw => ?_)
        refine Yif_eq (tgt := 169) S hrr13_ dX11_worth_77 (by decide) (fun c14_ => ?_) (fun c14_ => ?_)
        · replace hF := ZtP c14_ hF
          refine lv_iload_n S.1 S.2.1 dX11_worth_169 rfl (lv_at hl 1 rfl) ?_
          refine lv_bipush (v := i32 41) S.1 S.2.1 dX11_worth_170 bp_41 ?_
          refine Yicmp_ne (tgt := 193) S (hzz.1 _ _ (by decide)) r_41 dX11_worth_172 (by decide) (fun c15_ => ?_) (fun c15_ => ?_)
          · replace hF := ZtN c15_ hF
            refine lv_iload_n S.1 S.2.1 dX11_worth_193 rfl (lv_at hl 1 rfl) ?_
            refine lv_bipush (v := i32 40) S.1 S.2.1 dX11_worth_194 bp_40 ?_
            refine Yicmp_eq (tgt := 207) S (hzz.1 _ _ (by decide)) r_40 dX11_worth_196 (by decide) (fun c16_ => ?_) (fun c16_ => ?_)
            · replace hF := ZtP c16_ hF
              exact w_X11_worth_b207 S hr hlk hR hdj hk12 _ _ _ _ _ _ _ hF hw hzz11_ hx1 g6_ (hzz.1 _ _ (by decide)) (lv_sub hl [2, 3, 0, 1] rfl)
            · replace hF := ZtN c16_ hF
              refine lv_aload_n S.1 S.2.1 dX11_worth_199 rfl (lv_at hl 2 rfl) ?_
              refine lv_iload_n S.1 S.2.1 dX11_worth_200 rfl (lv_at hl 1 rfl) ?_
              obtain ⟨r19_, z17_, h18_, hF⟩ := Ybs hF
              refine YcallSi (rest := [.ref (ad 68)]) S hw (c_X11_rank hdj hzz11_ (hzz.1 _ _ (by decide)) h18_) my_X11_rank ms_X11_rank ml_X11_302 (Zrr hR (by decide)) ⟨Nat.zero_le _, Nat.zero_le _⟩ hl.1 rfl rfl (Nat.le_of_ble_eq_true rfl) dX11_worth_201 (fun hrr19_ hzz17_ H locs hw => ?_)
              obtain ⟨r22_, z20_, h21_, hF⟩ := Ybs hF
              refine YcallVv (rest := []) S hw (c_X11_works hdj hzz17_ hrr19_ h21_) my_X11_works mi_X11_works ml_X11_316 zd_68 zc_X11 rfl (Zrr hR (by decide)) ⟨Nat.zero_le _, Nat.zero_le _⟩ hl.1 rfl rfl (Nat.le_of_ble_eq_true rfl) dX11_worth_204 (fun hzz20_ H locs hw => ?_)
              exact w_X11_worth_b207 S hr hlk hR hdj hk12 _ _ _ _ _ _ _ hF hw hzz20_ hx1 g6_ (hzz.1 _ _ (by decide)) (lv_sub hl [2, 3, 0, 1] rfl)
          · replace hF := ZtP c15_ hF
            refine lv_aload_n S.1 S.2.1 dX11_worth_175 rfl (lv_at hl 2 rfl) ?_
            refine lv_iconst (v := i32 1) S.1 S.2.1 dX11_worth_176 ic_1 ?_
            obtain ⟨r25_, z23_, h24_, hF⟩ := Ybs hF
            refine YcallVv (rest := []) S hw (c_X11_works hdj hzz11_ r_1 h24_) my_X11_works mi_X11_works ml_X11_316 zd_68 zc_X11 rfl (Zrr hR (by decide)) ⟨Nat.zero_le _, Nat.zero_le _⟩ hl.1 rfl rfl (Nat.le_of_ble_eq_true rfl) dX11_worth_177 (fun hzz23_ H locs hw => ?_)
            refine lv_aload_n S.1 S.2.1 dX11_worth_180 rfl (lv_at hl 2 rfl) ?_
            refine lv_dup S.1 S.2.1 dX11_worth_181 rfl ?_
            refine gg_X11_299 S hw dX11_worth_182 ?_
            refine lv_iconst (v := i32 1) S.1 S.2.1 dX11_worth_185 ic_1 ?_
            obtain ⟨g26_, hF⟩ := Zgs hF
            refine Yisub S dX11_worth_186 ?_
            refine pp_X11_299 S hw hzz23_ g26_ dX11_worth_187 (fun z27_ H locs ez hzz27_ hw => ?_)
            replace hF := Zle ez hF; clear ez
            refine lv_goto (tgt := 227) S.1 S.2.1 dX11_worth_190 (by decide) ?_
            exact w_X11_worth_b227 S hr hlk hR hdj hk12 _ _ _ _ _ _ hF hw hzz27_ hx1 g6_ (lv_sub hl [2, 3, 0] rfl)
        · replace hF := ZtN c14_ hF
          refine lv_iload_n S.1 S.2.1 dX11_worth_80 rfl (lv_at hl 1 rfl) ?_
          refine lv_bipush (v := i32 48) S.1 S.2.1 dX11_worth_81 bp_48 ?_
          obtain ⟨g28_, hF⟩ := Zgs hF
          refine Yisub S dX11_worth_83 ?_
          refine Yi2l S g28_ dX11_worth_84 ?_
          refine lv_lstore (lv' := [(4, .long (i64 ((z 81 ((60 * x1) + x2)) - 48))), (2, .int (i32 (x2 + 1))), (3, .int (i32 (z 81 ((60 * x1) + x2)))), (0, .ref (ad 68)), (1, .int (i32 (x1)))]) S.1 S.2.1 dX11_worth_85 hl (by decide) rfl (fun ls hl => ?_)
          exact w_X11_worth_L87 S hr hlk hR hdj hk12 Zfuel _ _ _ _ _ _ _ hF hw hzz11_ hx1 g6_ (InR_L g28_) (lv_sub hl [3, 4, 1, 0] rfl)
      · replace hF := ZtN c10_ hF
        refine lv_aload_n S.1 S.2.1 dX11_worth_44 rfl (lv_at hl 2 rfl) ?_
        refine gf_X11_64 S hw dX11_worth_45 ?_
        refine lv_aload_n S.1 S.2.1 dX11_worth_48 rfl (lv_at hl 2 rfl) ?_
        refine gg_X11_305 S hw dX11_worth_49 ?_
        refine lv_aload_n S.1 S.2.1 dX11_worth_52 rfl (lv_at hl 2 rfl) ?_
        refine gf_X11_58 S hw dX11_worth_53 ?_
        refine lv_iload_n S.1 S.2.1 dX11_worth_56 rfl (lv_at hl 1 rfl) ?_
        obtain ⟨b29_, hF⟩ := Zgs hF
        refine Yiald S hw zd_85 (by decide) (hzz.1 _ _ (by decide)) b29_ dX11_worth_57 ?_
        refine Yi2l S (hzz7_.1 _ _ (by decide)) dX11_worth_58 ?_
        obtain ⟨b30_, hF⟩ := Zgs hF
        refine Ylast S hw hzz7_ zd_87 (by decide) (hzz7_.1 68 27 (by decide)) (InR_L (hzz7_.1 _ _ (by decide))) b30_ dX11_worth_59 (fun z31_ H locs ez hzz31_ hw => ?_)
        replace hF := Zle ez hF; clear ez
        refine lv_aload_n S.1 S.2.1 dX11_worth_60 rfl (lv_at hl 2 rfl) ?_
        refine lv_dup S.1 S.2.1 dX11_worth_61 rfl ?_
        refine gg_X11_305 S hw dX11_worth_62 ?_
        refine lv_iconst (v := i32 1) S.1 S.2.1 dX11_worth_65 ic_1 ?_
        obtain ⟨g32_, hF⟩ := Zgs hF
        refine Yiadd S dX11_worth_66 ?_
        refine pp_X11_305 S hw hzz31_ g32_ dX11_worth_67 (fun z33_ H locs ez hzz33_ hw => ?_)
        replace hF := Zle ez hF; clear ez
        refine lv_goto (tgt := 227) S.1 S.2.1 dX11_worth_70 (by decide) ?_
        exact w_X11_worth_b227 S hr hlk hR hdj hk12 _ _ _ _ _ _ hF hw hzz33_ hx1 g6_ (lv_sub hl [2, 3, 0] rfl)
set_option maxRecDepth 100000 in
set_option maxHeartbeats 4000000 in
theorem c_X11_worth {l : Launch} {D : va_G} {cA : Nat → ClassId} {ad : Nat → Nat} (hdj : Zdj ad) {z z1 : ZI} {x1 : Int} {r : Int} (hzz : Zok z) (hx1 : InR x1) (hF : F_X11_worth z x1 = some (r, z1)) : YMi l D cA ad (2) yX11_worth cX11_worth 6 (some .int) [.ref (ad 68), .int (i32 x1)] z r z1 :=
  Zmet hdj (by decide) rfl (Nat.le_of_ble_eq_true rfl) (lv := [(0, .ref (ad 68)), (1, .int (i32 (x1)))]) rfl (fun p e s m args below meth c ls S hr hlk hw hl => by
    have hR : 2 ≤ (Zrm (2)).frames ∧ 60 * (2) ≤ (Zrm (2)).locals := ⟨Nat.le_refl _, Nat.le_refl _⟩
    unfold F_X11_worth at hF
    revert hR
    generalize Zrm (2) = R
    intro hR
    refine lv_aload_n S.1 S.2.1 dX11_worth_0 rfl (lv_at hl 0 rfl) ?_
    refine lv_iconst (v := i32 0) S.1 S.2.1 dX11_worth_1 ic_0 ?_
    refine pp_X11_299 S hw hzz r_0 dX11_worth_2 (fun z1_ H locs ez hzz1_ hw => ?_)
    replace hF := Zle ez hF; clear ez
    refine lv_aload_n S.1 S.2.1 dX11_worth_5 rfl (lv_at hl 0 rfl) ?_
    refine lv_iconst (v := i32 0) S.1 S.2.1 dX11_worth_6 ic_0 ?_
    refine pp_X11_305 S hw hzz1_ r_0 dX11_worth_7 (fun z2_ H locs ez hzz2_ hw => ?_)
    replace hF := Zle ez hF; clear ez
    refine lv_iconst (v := i32 0) S.1 S.2.1 dX11_worth_10 ic_0 ?_
    refine lv_istore_n (lv' := [(2, .int (i32 (0))), (0, .ref (ad 68)), (1, .int (i32 (x1)))]) S.1 S.2.1 dX11_worth_11 rfl hl (by decide) rfl (fun ls hl => ?_)
    exact w_X11_worth_L12 S hr hlk hR hdj Zfuel _ _ _ _ _ _ hF hw hzz2_ hx1 r_0 (lv_sub hl [1, 2, 0] rfl))
set_option maxRecDepth 100000 in
set_option maxHeartbeats 4000000 in
theorem w_X11_drawOf_b29 {RR : Int × ZI} (S : CallFix p m c cX11_drawOf 5 s args Ztbl RX11) (hr : meth.sig.returnType = some .int) (hlk : meth.locks = false) (hR : 3 ≤ R.frames ∧ 60 * (3) ≤ R.locals) (hdj : Zdj ad) : ∀ (z : ZI) (H : Heap) (locs : List Loc) (ls : Array Slot), X11_drawOf_b29 z  = some RR → ZW D cA ad (ZA ad) (Zc z) s H locs → Zok z → lv_has ls 5 [] → W p l e R s m args below meth c H locs 0 0 (MQ below (YQi D cA ad RR.1 RR.2) args s 0 0 (ZA ad)) (F0 m 29 ls []) := by
  intro z  H locs ls hF hw hzz  hl
  unfold X11_drawOf_b29 at hF
  refine lv_iconst (v := i32 0) S.1 S.2.1 dX11_drawOf_29 ic_0 ?_
  exact Yireti S hw hzz r_0 hr hlk hF dX11_drawOf_30
set_option maxRecDepth 100000 in
set_option maxHeartbeats 4000000 in
theorem w_X11_drawOf_b239 {RR : Int × ZI} (S : CallFix p m c cX11_drawOf 5 s args Ztbl RX11) (hr : meth.sig.returnType = some .int) (hlk : meth.locks = false) (hR : 3 ≤ R.frames ∧ 60 * (3) ≤ R.locals) (hdj : Zdj ad) : ∀ (z : ZI) (y0 : Int) (H : Heap) (locs : List Loc) (ls : Array Slot), X11_drawOf_b239 z y0 = some RR → ZW D cA ad (ZA ad) (Zc z) s H locs → Zok z → InR y0 → lv_has ls 5 [] → W p l e R s m args below meth c H locs 0 0 (MQ below (YQi D cA ad RR.1 RR.2) args s 0 0 (ZA ad)) (F0 m 239 ls [.int (i32 (y0))]) := by
  intro z y0 H locs ls hF hw hzz hy0 hl
  unfold X11_drawOf_b239 at hF
  exact Yireti S hw hzz hy0 hr hlk hF dX11_drawOf_239
set_option maxRecDepth 100000 in
set_option maxHeartbeats 4000000 in
theorem w_X11_drawOf_b192 {RR : Int × ZI} (S : CallFix p m c cX11_drawOf 5 s args Ztbl RX11) (hr : meth.sig.returnType = some .int) (hlk : meth.locks = false) (hR : 3 ≤ R.frames ∧ 60 * (3) ≤ R.locals) (hdj : Zdj ad) : ∀ (z : ZI) (x1 : Int) (x2 : Int) (x3 : Int) (H : Heap) (locs : List Loc) (ls : Array Slot), X11_drawOf_b192 z x1 x2 x3 = some RR → ZW D cA ad (ZA ad) (Zc z) s H locs → Zok z → InR x1 → InR x2 → InR x3 → lv_has ls 5 [(0, .ref (ad 68)), (1, .int (i32 (x1))), (2, .int (i32 (x2))), (3, .int (i32 (x3)))] → W p l e R s m args below meth c H locs 0 0 (MQ below (YQi D cA ad RR.1 RR.2) args s 0 0 (ZA ad)) (F0 m 192 ls []) := by
  intro z x1 x2 x3 H locs ls hF hw hzz hx1 hx2 hx3 hl
  unfold X11_drawOf_b192 at hF
  refine lv_aload_n S.1 S.2.1 dX11_drawOf_192 rfl (lv_at hl 0 rfl) ?_
  refine gf_X11_58 S hw dX11_drawOf_193 ?_
  refine lv_bipush (v := i32 100) S.1 S.2.1 dX11_drawOf_196 bp_100 ?_
  refine lv_iload_n S.1 S.2.1 dX11_drawOf_198 rfl (lv_at hl 2 rfl) ?_
  refine lv_aload_n S.1 S.2.1 dX11_drawOf_199 rfl (lv_at hl 0 rfl) ?_
  refine gf_X11_71 S hw dX11_drawOf_200 ?_
  refine lv_iload_n S.1 S.2.1 dX11_drawOf_203 rfl (lv_at hl 1 rfl) ?_
  obtain ⟨b1_, hF⟩ := Zgs hF
  refine Yiald S hw zd_89 (by decide) hx1 b1_ dX11_drawOf_204 ?_
  obtain ⟨g2_, hF⟩ := Zgs hF
  refine Yisub S dX11_drawOf_205 ?_
  obtain ⟨b3_, hF⟩ := Zgs hF
  refine Yiast S hw hzz zd_85 (by decide) r_100 g2_ b3_ dX11_drawOf_206 (fun z4_ H locs ez hzz4_ hw => ?_)
  replace hF := Zle ez hF; clear ez
  refine lv_aload_n S.1 S.2.1 dX11_drawOf_207 rfl (lv_at hl 0 rfl) ?_
  refine lv_iload_n S.1 S.2.1 dX11_drawOf_208 rfl (lv_at hl 3 rfl) ?_
  obtain ⟨r7_, z5_, h6_, hF⟩ := Ybs hF
  refine YcallVi (rest := []) S hw (c_X11_worth hdj hzz4_ hx3 h6_) my_X11_worth mi_X11_worth ml_X11_332 zd_68 zc_X11 rfl (Zrr hR (by decide)) ⟨Nat.zero_le _, Nat.zero_le _⟩ hl.1 rfl rfl (Nat.le_of_ble_eq_true rfl) dX11_drawOf_209 (fun hrr7_ hzz5_ H locs hw => ?_)
  refine lv_istore (lv' := [(4, .int (i32 (r7_))), (0, .ref (ad 68)), (1, .int (i32 (x1))), (2, .int (i32 (x2))), (3, .int (i32 (x3)))]) S.1 S.2.1 dX11_drawOf_212 hl (by decide) rfl (fun ls hl => ?_)
  refine lv_iload S.1 S.2.1 dX11_drawOf_214 (lv_at hl 0 rfl) ?_
  refine Yif_ge (tgt := 223) S hrr7_ dX11_drawOf_216 (by decide) (fun c8_ => ?_) (fun c8_ => ?_)
  · replace hF := ZtP c8_ hF
    refine lv_iload S.1 S.2.1 dX11_drawOf_223 (lv_at hl 0 rfl) ?_
    refine lv_sipush (v := i32 9999) S.1 S.2.1 dX11_drawOf_225 sp_9999 ?_
    refine Yicmp_le (tgt := 237) S hrr7_ r_9999 dX11_drawOf_228 (by decide) (fun c9_ => ?_) (fun c9_ => ?_)
    · replace hF := ZtP c9_ hF
      refine lv_iload S.1 S.2.1 dX11_drawOf_237 (lv_at hl 0 rfl) ?_
      exact w_X11_drawOf_b239 S hr hlk hR hdj _ _ _ _ _ hF hw hzz5_ hrr7_ (lv_sub hl [] rfl)
    · replace hF := ZtN c9_ hF
      refine lv_sipush (v := i32 9999) S.1 S.2.1 dX11_drawOf_231 sp_9999 ?_
      refine lv_goto (tgt := 239) S.1 S.2.1 dX11_drawOf_234 (by decide) ?_
      exact w_X11_drawOf_b239 S hr hlk hR hdj _ _ _ _ _ hF hw hzz5_ r_9999 (lv_sub hl [] rfl)
  · replace hF := ZtN c8_ hF
    refine lv_iconst (v := i32 0) S.1 S.2.1 dX11_drawOf_219 ic_0 ?_
    refine lv_goto (tgt := 239) S.1 S.2.1 dX11_drawOf_220 (by decide) ?_
    exact w_X11_drawOf_b239 S hr hlk hR hdj _ _ _ _ _ hF hw hzz5_ r_0 (lv_sub hl [] rfl)
set_option maxRecDepth 100000 in
set_option maxHeartbeats 4000000 in
theorem w_X11_drawOf_b186 {RR : Int × ZI} (S : CallFix p m c cX11_drawOf 5 s args Ztbl RX11) (hr : meth.sig.returnType = some .int) (hlk : meth.locks = false) (hR : 3 ≤ R.frames ∧ 60 * (3) ≤ R.locals) (hdj : Zdj ad) {k51 : ZI → Int → Int → Int → Int → Option (Int × ZI)} (hk51 : ∀ (z : ZI) (x1 : Int) (x2 : Int) (x3 : Int) (x4 : Int) (H : Heap) (locs : List Loc) (ls : Array Slot), k51 z x1 x2 x3 x4 = some RR → ZW D cA ad (ZA ad) (Zc z) s H locs → Zok z → InR x1 → InR x2 → InR x3 → InR x4 → lv_has ls 5 [(0, .ref (ad 68)), (1, .int (i32 (x1))), (2, .int (i32 (x2))), (3, .int (i32 (x3))), (4, .int (i32 (x4)))] → W p l e R s m args below meth c H locs 0 0 (MQ below (YQi D cA ad RR.1 RR.2) args s 0 0 (ZA ad)) (F0 m 51 ls [])) : ∀ (z : ZI) (x1 : Int) (x2 : Int) (x3 : Int) (x4 : Int) (H : Heap) (locs : List Loc) (ls : Array Slot), X11_drawOf_b186 k51 z x1 x2 x3 x4 = some RR → ZW D cA ad (ZA ad) (Zc z) s H locs → Zok z → InR x1 → InR x2 → InR x3 → InR x4 → lv_has ls 5 [(0, .ref (ad 68)), (1, .int (i32 (x1))), (2, .int (i32 (x2))), (3, .int (i32 (x3))), (4, .int (i32 (x4)))] → W p l e R s m args below meth c H locs 0 0 (MQ below (YQi D cA ad RR.1 RR.2) args s 0 0 (ZA ad)) (F0 m 186 ls []) := by
  intro z x1 x2 x3 x4 H locs ls hF hw hzz hx1 hx2 hx3 hx4 hl
  unfold X11_drawOf_b186 at hF
  obtain ⟨g1_, hF⟩ := Zgs hF
  refine lv_iinc (v := i32 (x4 + 1)) (lv' := [(4, .int (i32 (x4 + 1))), (0, .ref (ad 68)), (1, .int (i32 (x1))), (2, .int (i32 (x2))), (3, .int (i32 (x3)))]) S.1 S.2.1 dX11_drawOf_186 hl (k := 4) rfl Yiinc (by decide) rfl (fun ls hl => ?_)
  refine lv_goto (tgt := 51) S.1 S.2.1 dX11_drawOf_189 (by decide) ?_
  exact hk51 _ _ _ _ _ _ _ _ hF hw hzz hx1 hx2 hx3 g1_ (lv_sub hl [1, 2, 3, 4, 0] rfl)
set_option maxRecDepth 100000 in
set_option maxHeartbeats 4000000 in
theorem w_X11_drawOf_b184 {RR : Int × ZI} (S : CallFix p m c cX11_drawOf 5 s args Ztbl RX11) (hr : meth.sig.returnType = some .int) (hlk : meth.locks = false) (hR : 3 ≤ R.frames ∧ 60 * (3) ≤ R.locals) (hdj : Zdj ad) {k51 : ZI → Int → Int → Int → Int → Option (Int × ZI)} (hk51 : ∀ (z : ZI) (x1 : Int) (x2 : Int) (x3 : Int) (x4 : Int) (H : Heap) (locs : List Loc) (ls : Array Slot), k51 z x1 x2 x3 x4 = some RR → ZW D cA ad (ZA ad) (Zc z) s H locs → Zok z → InR x1 → InR x2 → InR x3 → InR x4 → lv_has ls 5 [(0, .ref (ad 68)), (1, .int (i32 (x1))), (2, .int (i32 (x2))), (3, .int (i32 (x3))), (4, .int (i32 (x4)))] → W p l e R s m args below meth c H locs 0 0 (MQ below (YQi D cA ad RR.1 RR.2) args s 0 0 (ZA ad)) (F0 m 51 ls [])) : ∀ (z : ZI) (x1 : Int) (x2 : Int) (x3 : Int) (x4 : Int) (y1 : Int) (y2 : Int) (y3 : Int) (H : Heap) (locs : List Loc) (ls : Array Slot), X11_drawOf_b184 k51 z x1 x2 x3 x4 y1 y2 y3 = some RR → ZW D cA ad (ZA ad) (Zc z) s H locs → Zok z → InR x1 → InR x2 → InR x3 → InR x4 → InR y1 → InR y2 → InR y3 → lv_has ls 5 [(0, .ref (ad 68)), (1, .int (i32 (x1))), (2, .int (i32 (x2))), (3, .int (i32 (x3))), (4, .int (i32 (x4)))] → W p l e R s m args below meth c H locs 0 0 (MQ below (YQi D cA ad RR.1 RR.2) args s 0 0 (ZA ad)) (F0 m 184 ls [.int (i32 (y3)), .int (i32 (y2)), .int (i32 (y1)), .ref (ad 85)]) := by
  intro z x1 x2 x3 x4 y1 y2 y3 H locs ls hF hw hzz hx1 hx2 hx3 hx4 hy1 hy2 hy3 hl
  unfold X11_drawOf_b184 at hF
  obtain ⟨g1_, hF⟩ := Zgs hF
  refine Yiadd S dX11_drawOf_184 ?_
  obtain ⟨b2_, hF⟩ := Zgs hF
  refine Yiast S hw hzz zd_85 (by decide) hy1 g1_ b2_ dX11_drawOf_185 (fun z3_ H locs ez hzz3_ hw => ?_)
  replace hF := Zle ez hF; clear ez
  exact w_X11_drawOf_b186 S hr hlk hR hdj hk51 _ _ _ _ _ _ _ _ hF hw hzz3_ hx1 hx2 hx3 hx4 (lv_sub hl [0, 1, 2, 3, 4] rfl)
set_option maxRecDepth 100000 in
set_option maxHeartbeats 4000000 in
theorem w_X11_drawOf_b158 {RR : Int × ZI} (S : CallFix p m c cX11_drawOf 5 s args Ztbl RX11) (hr : meth.sig.returnType = some .int) (hlk : meth.locks = false) (hR : 3 ≤ R.frames ∧ 60 * (3) ≤ R.locals) (hdj : Zdj ad) {k51 : ZI → Int → Int → Int → Int → Option (Int × ZI)} (hk51 : ∀ (z : ZI) (x1 : Int) (x2 : Int) (x3 : Int) (x4 : Int) (H : Heap) (locs : List Loc) (ls : Array Slot), k51 z x1 x2 x3 x4 = some RR → ZW D cA ad (ZA ad) (Zc z) s H locs → Zok z → InR x1 → InR x2 → InR x3 → InR x4 → lv_has ls 5 [(0, .ref (ad 68)), (1, .int (i32 (x1))), (2, .int (i32 (x2))), (3, .int (i32 (x3))), (4, .int (i32 (x4)))] → W p l e R s m args below meth c H locs 0 0 (MQ below (YQi D cA ad RR.1 RR.2) args s 0 0 (ZA ad)) (F0 m 51 ls [])) : ∀ (z : ZI) (x1 : Int) (x2 : Int) (x3 : Int) (x4 : Int) (y1 : Int) (y2 : Int) (y3 : Int) (H : Heap) (locs : List Loc) (ls : Array Slot), X11_drawOf_b158 k51 z x1 x2 x3 x4 y1 y2 y3 = some RR → ZW D cA ad (ZA ad) (Zc z) s H locs → Zok z → InR x1 → InR x2 → InR x3 → InR x4 → InR y1 → InR y2 → InR y3 → lv_has ls 5 [(0, .ref (ad 68)), (1, .int (i32 (x1))), (2, .int (i32 (x2))), (3, .int (i32 (x3))), (4, .int (i32 (x4)))] → W p l e R s m args below meth c H locs 0 0 (MQ below (YQi D cA ad RR.1 RR.2) args s 0 0 (ZA ad)) (F0 m 158 ls [.int (i32 (y3)), .int (i32 (y2)), .int (i32 (y1)), .ref (ad 85)]) := by
  intro z x1 x2 x3 x4 y1 y2 y3 H locs ls hF hw hzz hx1 hx2 hx3 hx4 hy1 hy2 hy3 hl
  unfold X11_drawOf_b158 at hF
  obtain ⟨g1_, hF⟩ := Zgs hF
  refine Yiadd S dX11_drawOf_158 ?_
  obtain ⟨b2_, hF⟩ := Zgs hF
  refine Yiast S hw hzz zd_85 (by decide) hy1 g1_ b2_ dX11_drawOf_159 (fun z3_ H locs ez hzz3_ hw => ?_)
  replace hF := Zle ez hF; clear ez
  refine lv_aload_n S.1 S.2.1 dX11_drawOf_160 rfl (lv_at hl 0 rfl) ?_
  refine gf_X11_58 S hw dX11_drawOf_161 ?_
  refine lv_bipush (v := i32 115) S.1 S.2.1 dX11_drawOf_164 bp_115 ?_
  refine lv_dup2_11 S.1 S.2.1 dX11_drawOf_166 rfl rfl ?_
  obtain ⟨b4_, hF⟩ := Zgs hF
  refine Yiald S hw zd_85 (by decide) r_115 b4_ dX11_drawOf_167 ?_
  refine lv_aload_n S.1 S.2.1 dX11_drawOf_168 rfl (lv_at hl 0 rfl) ?_
  refine lv_iload S.1 S.2.1 dX11_drawOf_169 (lv_at hl 4 rfl) ?_
  refine lv_iload_n S.1 S.2.1 dX11_drawOf_171 rfl (lv_at hl 2 rfl) ?_
  obtain ⟨r7_, z5_, h6_, hF⟩ := Ybs hF
  refine YcallVi (rest := [.int (i32 (z3_ 85 115)), .int (i32 (115)), .ref (ad 85)]) S hw (c_X11_stateOn hdj hzz3_ hx4 hx2 h6_) my_X11_stateOn mi_X11_stateOn ml_X11_252 zd_68 zc_X11 rfl (Zrr hR (by decide)) ⟨Nat.zero_le _, Nat.zero_le _⟩ hl.1 rfl rfl (Nat.le_of_ble_eq_true rfl) dX11_drawOf_172 (fun hrr7_ hzz5_ H locs hw => ?_)
  refine lv_iconst (v := i32 2) S.1 S.2.1 dX11_drawOf_175 ic_2 ?_
  refine Yicmp_ne (tgt := 183) S hrr7_ r_2 dX11_drawOf_176 (by decide) (fun c8_ => ?_) (fun c8_ => ?_)
  · replace hF := ZtN c8_ hF
    refine lv_iconst (v := i32 0) S.1 S.2.1 dX11_drawOf_183 ic_0 ?_
    exact w_X11_drawOf_b184 S hr hlk hR hdj hk51 _ _ _ _ _ _ _ _ _ _ _ hF hw hzz5_ hx1 hx2 hx3 hx4 r_115 (hzz3_.1 _ _ (by decide)) r_0 (lv_sub hl [0, 1, 2, 3, 4] rfl)
  · replace hF := ZtP c8_ hF
    refine lv_iconst (v := i32 1) S.1 S.2.1 dX11_drawOf_179 ic_1 ?_
    refine lv_goto (tgt := 184) S.1 S.2.1 dX11_drawOf_180 (by decide) ?_
    exact w_X11_drawOf_b184 S hr hlk hR hdj hk51 _ _ _ _ _ _ _ _ _ _ _ hF hw hzz5_ hx1 hx2 hx3 hx4 r_115 (hzz3_.1 _ _ (by decide)) r_1 (lv_sub hl [0, 1, 2, 3, 4] rfl)
set_option maxRecDepth 100000 in
set_option maxHeartbeats 4000000 in
theorem w_X11_drawOf_b128 {RR : Int × ZI} (S : CallFix p m c cX11_drawOf 5 s args Ztbl RX11) (hr : meth.sig.returnType = some .int) (hlk : meth.locks = false) (hR : 3 ≤ R.frames ∧ 60 * (3) ≤ R.locals) (hdj : Zdj ad) {k51 : ZI → Int → Int → Int → Int → Option (Int × ZI)} (hk51 : ∀ (z : ZI) (x1 : Int) (x2 : Int) (x3 : Int) (x4 : Int) (H : Heap) (locs : List Loc) (ls : Array Slot), k51 z x1 x2 x3 x4 = some RR → ZW D cA ad (ZA ad) (Zc z) s H locs → Zok z → InR x1 → InR x2 → InR x3 → InR x4 → lv_has ls 5 [(0, .ref (ad 68)), (1, .int (i32 (x1))), (2, .int (i32 (x2))), (3, .int (i32 (x3))), (4, .int (i32 (x4)))] → W p l e R s m args below meth c H locs 0 0 (MQ below (YQi D cA ad RR.1 RR.2) args s 0 0 (ZA ad)) (F0 m 51 ls [])) : ∀ (z : ZI) (x1 : Int) (x2 : Int) (x3 : Int) (x4 : Int) (y1 : Int) (y2 : Int) (y3 : Int) (H : Heap) (locs : List Loc) (ls : Array Slot), X11_drawOf_b128 k51 z x1 x2 x3 x4 y1 y2 y3 = some RR → ZW D cA ad (ZA ad) (Zc z) s H locs → Zok z → InR x1 → InR x2 → InR x3 → InR x4 → InR y1 → InR y2 → InR y3 → lv_has ls 5 [(0, .ref (ad 68)), (1, .int (i32 (x1))), (2, .int (i32 (x2))), (3, .int (i32 (x3))), (4, .int (i32 (x4)))] → W p l e R s m args below meth c H locs 0 0 (MQ below (YQi D cA ad RR.1 RR.2) args s 0 0 (ZA ad)) (F0 m 128 ls [.int (i32 (y3)), .int (i32 (y2)), .int (i32 (y1)), .ref (ad 85)]) := by
  intro z x1 x2 x3 x4 y1 y2 y3 H locs ls hF hw hzz hx1 hx2 hx3 hx4 hy1 hy2 hy3 hl
  unfold X11_drawOf_b128 at hF
  obtain ⟨g1_, hF⟩ := Zgs hF
  refine Yiadd S dX11_drawOf_128 ?_
  obtain ⟨b2_, hF⟩ := Zgs hF
  refine Yiast S hw hzz zd_85 (by decide) hy1 g1_ b2_ dX11_drawOf_129 (fun z3_ H locs ez hzz3_ hw => ?_)
  replace hF := Zle ez hF; clear ez
  refine lv_aload_n S.1 S.2.1 dX11_drawOf_130 rfl (lv_at hl 0 rfl) ?_
  refine gf_X11_58 S hw dX11_drawOf_131 ?_
  refine lv_bipush (v := i32 111) S.1 S.2.1 dX11_drawOf_134 bp_111 ?_
  refine lv_dup2_11 S.1 S.2.1 dX11_drawOf_136 rfl rfl ?_
  obtain ⟨b4_, hF⟩ := Zgs hF
  refine Yiald S hw zd_85 (by decide) r_111 b4_ dX11_drawOf_137 ?_
  refine lv_iload_n S.1 S.2.1 dX11_drawOf_138 rfl (lv_at hl 2 rfl) ?_
  refine lv_aload_n S.1 S.2.1 dX11_drawOf_139 rfl (lv_at hl 0 rfl) ?_
  refine gf_X11_25 S hw dX11_drawOf_140 ?_
  refine lv_iload S.1 S.2.1 dX11_drawOf_143 (lv_at hl 4 rfl) ?_
  obtain ⟨b5_, hF⟩ := Zgs hF
  refine Yiald S hw zd_74 (by decide) hx4 b5_ dX11_drawOf_145 ?_
  obtain ⟨g6_, hF⟩ := Zgs hF
  refine Yisub S dX11_drawOf_146 ?_
  refine lv_sipush (v := i32 21900) S.1 S.2.1 dX11_drawOf_147 sp_21900 ?_
  refine Yicmp_le (tgt := 157) S g6_ r_21900 dX11_drawOf_150 (by decide) (fun c7_ => ?_) (fun c7_ => ?_)
  · replace hF := ZtP c7_ hF
    refine lv_iconst (v := i32 0) S.1 S.2.1 dX11_drawOf_157 ic_0 ?_
    exact w_X11_drawOf_b158 S hr hlk hR hdj hk51 _ _ _ _ _ _ _ _ _ _ _ hF hw hzz3_ hx1 hx2 hx3 hx4 r_111 (hzz3_.1 _ _ (by decide)) r_0 (lv_sub hl [0, 1, 2, 3, 4] rfl)
  · replace hF := ZtN c7_ hF
    refine lv_iconst (v := i32 1) S.1 S.2.1 dX11_drawOf_153 ic_1 ?_
    refine lv_goto (tgt := 158) S.1 S.2.1 dX11_drawOf_154 (by decide) ?_
    exact w_X11_drawOf_b158 S hr hlk hR hdj hk51 _ _ _ _ _ _ _ _ _ _ _ hF hw hzz3_ hx1 hx2 hx3 hx4 r_111 (hzz3_.1 _ _ (by decide)) r_1 (lv_sub hl [0, 1, 2, 3, 4] rfl)
set_option maxRecDepth 100000 in
set_option maxHeartbeats 4000000 in
theorem w_X11_drawOf_L51 {RR : Int × ZI} (S : CallFix p m c cX11_drawOf 5 s args Ztbl RX11) (hr : meth.sig.returnType = some .int) (hlk : meth.locks = false) (hR : 3 ≤ R.frames ∧ 60 * (3) ≤ R.locals) (hdj : Zdj ad) : ∀ (n : Nat) (z : ZI) (x1 : Int) (x2 : Int) (x3 : Int) (x4 : Int) (H : Heap) (locs : List Loc) (ls : Array Slot), X11_drawOf_L51 n z x1 x2 x3 x4 = some RR → ZW D cA ad (ZA ad) (Zc z) s H locs → Zok z → InR x1 → InR x2 → InR x3 → InR x4 → lv_has ls 5 [(0, .ref (ad 68)), (1, .int (i32 (x1))), (2, .int (i32 (x2))), (3, .int (i32 (x3))), (4, .int (i32 (x4)))] → W p l e R s m args below meth c H locs 0 0 (MQ below (YQi D cA ad RR.1 RR.2) args s 0 0 (ZA ad)) (F0 m 51 ls []) := by
  intro n
  induction n with
  | zero => intro z x1 x2 x3 x4 H locs ls hF; exact nomatch hF
  | succ n hk51 =>
    intro z x1 x2 x3 x4 H locs ls hF hw hzz hx1 hx2 hx3 hx4 hl
    replace hF : X11_drawOf_L51b (X11_drawOf_L51 n) z x1 x2 x3 x4 = some RR := hF
    unfold X11_drawOf_L51b at hF
    refine lv_iload S.1 S.2.1 dX11_drawOf_51 (lv_at hl 4 rfl) ?_
    refine lv_aload_n S.1 S.2.1 dX11_drawOf_53 rfl (lv_at hl 0 rfl) ?_
    refine gg_X11_197 S hw dX11_drawOf_54 ?_
    refine Yicmp_ge (tgt := 192) S hx4 (hzz.1 68 13 (by decide)) dX11_drawOf_57 (by decide) (fun c1_ => ?_) (fun c1_ => ?_)
    · replace hF := ZtP c1_ hF
      exact w_X11_drawOf_b192 S hr hlk hR hdj _ _ _ _ _ _ _ hF hw hzz hx1 hx2 hx3 (lv_sub hl [0, 1, 2, 3] rfl)
    · replace hF := ZtN c1_ hF
      refine lv_aload_n S.1 S.2.1 dX11_drawOf_60 rfl (lv_at hl 0 rfl) ?_
      refine gf_X11_22 S hw dX11_drawOf_61 ?_
      refine lv_iload S.1 S.2.1 dX11_drawOf_64 (lv_at hl 4 rfl) ?_
      obtain ⟨b2_, hF⟩ := Zgs hF
      refine Yiald S hw zd_73 (by decide) hx4 b2_ dX11_drawOf_66 ?_
      refine lv_aload_n S.1 S.2.1 dX11_drawOf_67 rfl (lv_at hl 0 rfl) ?_
      refine gf_X11_68 S hw dX11_drawOf_68 ?_
      refine lv_iload_n S.1 S.2.1 dX11_drawOf_71 rfl (lv_at hl 1 rfl) ?_
      obtain ⟨b3_, hF⟩ := Zgs hF
      refine Yiald S hw zd_88 (by decide) hx1 b3_ dX11_drawOf_72 ?_
      refine Yicmp_ne (tgt := 186) S (hzz.1 _ _ (by decide)) (hzz.1 _ _ (by decide)) dX11_drawOf_73 (by decide) (fun c4_ => ?_) (fun c4_ => ?_)
      · replace hF := ZtN c4_ hF
        exact w_X11_drawOf_b186 S hr hlk hR hdj hk51 _ _ _ _ _ _ _ _ hF hw hzz hx1 hx2 hx3 hx4 (lv_sub hl [0, 1, 2, 3, 4] rfl)
      · replace hF := ZtP c4_ hF
        refine lv_aload_n S.1 S.2.1 dX11_drawOf_76 rfl (lv_at hl 0 rfl) ?_
        refine lv_iload S.1 S.2.1 dX11_drawOf_77 (lv_at hl 4 rfl) ?_
        refine lv_iload_n S.1 S.2.1 dX11_drawOf_79 rfl (lv_at hl 2 rfl) ?_
        obtain ⟨r7_, z5_, h6_, hF⟩ := Ybs hF
        refine YcallVi (rest := []) S hw (c_X11_isHere hdj hzz hx4 hx2 h6_) my_X11_isHere mi_X11_isHere ml_X11_258 zd_68 zc_X11 rfl (Zrr hR (by decide)) ⟨Nat.zero_le _, Nat.zero_le _⟩ hl.1 rfl rfl (Nat.le_of_ble_eq_true rfl) dX11_drawOf_80 (fun hrr7_ hzz5_ H locs hw => ?_)
        refine Yif_ne (tgt := 89) S hrr7_ dX11_drawOf_83 (by decide) (fun c8_ => ?_) (fun c8_ => ?_)
        · replace hF := ZtN c8_ hF
          refine lv_aload_n S.1 S.2.1 dX11_drawOf_89 rfl (lv_at hl 0 rfl) ?_
          refine gf_X11_58 S hw dX11_drawOf_90 ?_
          refine lv_bipush (v := i32 110) S.1 S.2.1 dX11_drawOf_93 bp_110 ?_
          refine lv_dup2_11 S.1 S.2.1 dX11_drawOf_95 rfl rfl ?_
          obtain ⟨b9_, hF⟩ := Zgs hF
          refine Yiald S hw zd_85 (by decide) r_110 b9_ dX11_drawOf_96 ?_
          refine lv_iconst (v := i32 1) S.1 S.2.1 dX11_drawOf_97 ic_1 ?_
          obtain ⟨g10_, hF⟩ := Zgs hF
          refine Yiadd S dX11_drawOf_98 ?_
          obtain ⟨b11_, hF⟩ := Zgs hF
          refine Yiast S hw hzz5_ zd_85 (by decide) r_110 g10_ b11_ dX11_drawOf_99 (fun z12_ H locs ez hzz12_ hw => ?_)
          replace hF := Zle ez hF; clear ez
          refine lv_aload_n S.1 S.2.1 dX11_drawOf_100 rfl (lv_at hl 0 rfl) ?_
          refine gf_X11_58 S hw dX11_drawOf_101 ?_
          refine lv_bipush (v := i32 107) S.1 S.2.1 dX11_drawOf_104 bp_107 ?_
          refine lv_dup2_11 S.1 S.2.1 dX11_drawOf_106 rfl rfl ?_
          obtain ⟨b13_, hF⟩ := Zgs hF
          refine Yiald S hw zd_85 (by decide) r_107 b13_ dX11_drawOf_107 ?_
          refine lv_iload_n S.1 S.2.1 dX11_drawOf_108 rfl (lv_at hl 2 rfl) ?_
          refine lv_aload_n S.1 S.2.1 dX11_drawOf_109 rfl (lv_at hl 0 rfl) ?_
          refine gf_X11_25 S hw dX11_drawOf_110 ?_
          refine lv_iload S.1 S.2.1 dX11_drawOf_113 (lv_at hl 4 rfl) ?_
          obtain ⟨b14_, hF⟩ := Zgs hF
          refine Yiald S hw zd_74 (by decide) hx4 b14_ dX11_drawOf_115 ?_
          obtain ⟨g15_, hF⟩ := Zgs hF
          refine Yisub S dX11_drawOf_116 ?_
          refine lv_sipush (v := i32 1825) S.1 S.2.1 dX11_drawOf_117 sp_1825 ?_
          refine Yicmp_ge (tgt := 127) S g15_ r_1825 dX11_drawOf_120 (by decide) (fun c16_ => ?_) (fun c16_ => ?_)
          · replace hF := ZtP c16_ hF
            refine lv_iconst (v := i32 0) S.1 S.2.1 dX11_drawOf_127 ic_0 ?_
            exact w_X11_drawOf_b128 S hr hlk hR hdj hk51 _ _ _ _ _ _ _ _ _ _ _ hF hw hzz12_ hx1 hx2 hx3 hx4 r_107 (hzz12_.1 _ _ (by decide)) r_0 (lv_sub hl [0, 1, 2, 3, 4] rfl)
          · replace hF := ZtN c16_ hF
            refine lv_iconst (v := i32 1) S.1 S.2.1 dX11_drawOf_123 ic_1 ?_
            refine lv_goto (tgt := 128) S.1 S.2.1 dX11_drawOf_124 (by decide) ?_
            exact w_X11_drawOf_b128 S hr hlk hR hdj hk51 _ _ _ _ _ _ _ _ _ _ _ hF hw hzz12_ hx1 hx2 hx3 hx4 r_107 (hzz12_.1 _ _ (by decide)) r_1 (lv_sub hl [0, 1, 2, 3, 4] rfl)
        · replace hF := ZtP c8_ hF
          refine lv_goto (tgt := 186) S.1 S.2.1 dX11_drawOf_86 (by decide) ?_
          exact w_X11_drawOf_b186 S hr hlk hR hdj hk51 _ _ _ _ _ _ _ _ hF hw hzz5_ hx1 hx2 hx3 hx4 (lv_sub hl [0, 1, 2, 3, 4] rfl)
set_option maxRecDepth 100000 in
set_option maxHeartbeats 4000000 in
theorem w_X11_drawOf_b31 {RR : Int × ZI} (S : CallFix p m c cX11_drawOf 5 s args Ztbl RX11) (hr : meth.sig.returnType = some .int) (hlk : meth.locks = false) (hR : 3 ≤ R.frames ∧ 60 * (3) ≤ R.locals) (hdj : Zdj ad) : ∀ (z : ZI) (x1 : Int) (x2 : Int) (H : Heap) (locs : List Loc) (ls : Array Slot), X11_drawOf_b31 z x1 x2 = some RR → ZW D cA ad (ZA ad) (Zc z) s H locs → Zok z → InR x1 → InR x2 → lv_has ls 5 [(0, .ref (ad 68)), (1, .int (i32 (x1))), (2, .int (i32 (x2)))] → W p l e R s m args below meth c H locs 0 0 (MQ below (YQi D cA ad RR.1 RR.2) args s 0 0 (ZA ad)) (F0 m 31 ls []) := by
  intro z x1 x2 H locs ls hF hw hzz hx1 hx2 hl
  unfold X11_drawOf_b31 at hF
  refine lv_aload_n S.1 S.2.1 dX11_drawOf_31 rfl (lv_at hl 0 rfl) ?_
  refine lv_iconst (v := i32 0) S.1 S.2.1 dX11_drawOf_32 ic_0 ?_
  refine lv_iload_n S.1 S.2.1 dX11_drawOf_33 rfl (lv_at hl 2 rfl) ?_
  obtain ⟨r3_, z1_, h2_, hF⟩ := Ybs hF
  refine YcallVi (rest := []) S hw (c_X11_forceOf hdj hzz r_0 hx2 h2_) my_X11_forceOf mi_X11_forceOf ml_X11_326 zd_68 zc_X11 rfl (Zrr hR (by decide)) ⟨Nat.zero_le _, Nat.zero_le _⟩ hl.1 rfl rfl (Nat.le_of_ble_eq_true rfl) dX11_drawOf_34 (fun hrr3_ hzz1_ H locs hw => ?_)
  refine lv_istore_n (lv' := [(3, .int (i32 (r3_))), (0, .ref (ad 68)), (1, .int (i32 (x1))), (2, .int (i32 (x2)))]) S.1 S.2.1 dX11_drawOf_37 rfl hl (by decide) rfl (fun ls hl => ?_)
  refine lv_iload_n S.1 S.2.1 dX11_drawOf_38 rfl (lv_at hl 0 rfl) ?_
  refine Yif_ge (tgt := 44) S hrr3_ dX11_drawOf_39 (by decide) (fun c4_ => ?_) (fun c4_ => ?_)
  · replace hF := ZtP c4_ hF
    refine lv_aload_n S.1 S.2.1 dX11_drawOf_44 rfl (lv_at hl 1 rfl) ?_
    obtain ⟨r7_, z5_, h6_, hF⟩ := Ybs hF
    refine YcallVv (rest := []) S hw (c_X11_noFacts hdj hzz1_  h6_) my_X11_noFacts mi_X11_noFacts ml_X11_329 zd_68 zc_X11 rfl (Zrr hR (by decide)) ⟨Nat.zero_le _, Nat.zero_le _⟩ hl.1 rfl rfl (Nat.le_of_ble_eq_true rfl) dX11_drawOf_45 (fun hzz5_ H locs hw => ?_)
    refine lv_iconst (v := i32 0) S.1 S.2.1 dX11_drawOf_48 ic_0 ?_
    refine lv_istore (lv' := [(4, .int (i32 (0))), (3, .int (i32 (r3_))), (0, .ref (ad 68)), (1, .int (i32 (x1))), (2, .int (i32 (x2)))]) S.1 S.2.1 dX11_drawOf_49 hl (by decide) rfl (fun ls hl => ?_)
    exact w_X11_drawOf_L51 S hr hlk hR hdj Zfuel _ _ _ _ _ _ _ _ hF hw hzz5_ hx1 hx2 hrr3_ r_0 (lv_sub hl [2, 3, 4, 1, 0] rfl)
  · replace hF := ZtN c4_ hF
    refine lv_iconst (v := i32 0) S.1 S.2.1 dX11_drawOf_42 ic_0 ?_
    exact Yireti S hw hzz1_ r_0 hr hlk hF dX11_drawOf_43
set_option maxRecDepth 100000 in
set_option maxHeartbeats 4000000 in
theorem c_X11_drawOf {l : Launch} {D : va_G} {cA : Nat → ClassId} {ad : Nat → Nat} (hdj : Zdj ad) {z z1 : ZI} {x1 : Int} {x2 : Int} {r : Int} (hzz : Zok z) (hx1 : InR x1) (hx2 : InR x2) (hF : F_X11_drawOf z x1 x2 = some (r, z1)) : YMi l D cA ad (3) yX11_drawOf cX11_drawOf 5 (some .int) [.ref (ad 68), .int (i32 x1), .int (i32 x2)] z r z1 :=
  Zmet hdj (by decide) rfl (Nat.le_of_ble_eq_true rfl) (lv := [(0, .ref (ad 68)), (1, .int (i32 (x1))), (2, .int (i32 (x2)))]) rfl (fun p e s m args below meth c ls S hr hlk hw hl => by
    have hR : 3 ≤ (Zrm (3)).frames ∧ 60 * (3) ≤ (Zrm (3)).locals := ⟨Nat.le_refl _, Nat.le_refl _⟩
    unfold F_X11_drawOf at hF
    revert hR
    generalize Zrm (3) = R
    intro hR
    refine lv_iload_n S.1 S.2.1 dX11_drawOf_0 rfl (lv_at hl 2 rfl) ?_
    refine lv_aload_n S.1 S.2.1 dX11_drawOf_1 rfl (lv_at hl 0 rfl) ?_
    refine gf_X11_71 S hw dX11_drawOf_2 ?_
    refine lv_iload_n S.1 S.2.1 dX11_drawOf_5 rfl (lv_at hl 1 rfl) ?_
    obtain ⟨b1_, hF⟩ := Zgs hF
    refine Yiald S hw zd_89 (by decide) hx1 b1_ dX11_drawOf_6 ?_
    refine Yicmp_lt (tgt := 29) S hx2 (hzz.1 _ _ (by decide)) dX11_drawOf_7 (by decide) (fun c2_ => ?_) (fun c2_ => ?_)
    · replace hF := ZtP c2_ hF
      exact w_X11_drawOf_b29 S hr hlk hR hdj _ _ _ _ hF hw hzz  (lv_sub hl [] rfl)
    · replace hF := ZtN c2_ hF
      refine lv_aload_n S.1 S.2.1 dX11_drawOf_10 rfl (lv_at hl 0 rfl) ?_
      refine gf_X11_74 S hw dX11_drawOf_11 ?_
      refine lv_iload_n S.1 S.2.1 dX11_drawOf_14 rfl (lv_at hl 1 rfl) ?_
      obtain ⟨b3_, hF⟩ := Zgs hF
      refine Yiald S hw zd_90 (by decide) hx1 b3_ dX11_drawOf_15 ?_
      refine Yif_lt (tgt := 31) S (hzz.1 _ _ (by decide)) dX11_drawOf_16 (by decide) (fun c4_ => ?_) (fun c4_ => ?_)
      · replace hF := ZtP c4_ hF
        exact w_X11_drawOf_b31 S hr hlk hR hdj _ _ _ _ _ _ hF hw hzz hx1 hx2 (lv_sub hl [0, 1, 2] rfl)
      · replace hF := ZtN c4_ hF
        refine lv_iload_n S.1 S.2.1 dX11_drawOf_19 rfl (lv_at hl 2 rfl) ?_
        refine lv_aload_n S.1 S.2.1 dX11_drawOf_20 rfl (lv_at hl 0 rfl) ?_
        refine gf_X11_74 S hw dX11_drawOf_21 ?_
        refine lv_iload_n S.1 S.2.1 dX11_drawOf_24 rfl (lv_at hl 1 rfl) ?_
        obtain ⟨b5_, hF⟩ := Zgs hF
        refine Yiald S hw zd_90 (by decide) hx1 b5_ dX11_drawOf_25 ?_
        refine Yicmp_lt (tgt := 31) S hx2 (hzz.1 _ _ (by decide)) dX11_drawOf_26 (by decide) (fun c6_ => ?_) (fun c6_ => ?_)
        · replace hF := ZtP c6_ hF
          exact w_X11_drawOf_b31 S hr hlk hR hdj _ _ _ _ _ _ hF hw hzz hx1 hx2 (lv_sub hl [0, 1, 2] rfl)
        · replace hF := ZtN c6_ hF
          exact w_X11_drawOf_b29 S hr hlk hR hdj _ _ _ _ hF hw hzz  (lv_sub hl [] rfl))
set_option maxRecDepth 100000 in
set_option maxHeartbeats 4000000 in
theorem w_X11_draw_b42 {RR : Int × ZI} (S : CallFix p m c cX11_draw 4 s args Ztbl RX11) (hr : meth.sig.returnType = some .int) (hlk : meth.locks = false) (hR : 4 ≤ R.frames ∧ 60 * (4) ≤ R.locals) (hdj : Zdj ad) : ∀ (z : ZI) (y0 : Int) (H : Heap) (locs : List Loc) (ls : Array Slot), X11_draw_b42 z y0 = some RR → ZW D cA ad (ZA ad) (Zc z) s H locs → Zok z → InR y0 → lv_has ls 4 [] → W p l e R s m args below meth c H locs 0 0 (MQ below (YQi D cA ad RR.1 RR.2) args s 0 0 (ZA ad)) (F0 m 42 ls [.int (i32 (y0))]) := by
  intro z y0 H locs ls hF hw hzz hy0 hl
  unfold X11_draw_b42 at hF
  exact Yireti S hw hzz hy0 hr hlk hF dX11_draw_42
set_option maxRecDepth 100000 in
set_option maxHeartbeats 4000000 in
theorem c_X11_draw {l : Launch} {D : va_G} {cA : Nat → ClassId} {ad : Nat → Nat} (hdj : Zdj ad) {z z1 : ZI} {x1 : Int} {x2 : Int} {r : Int} (hzz : Zok z) (hx1 : InR x1) (hx2 : InR x2) (hF : F_X11_draw z x1 x2 = some (r, z1)) : YMi l D cA ad (4) yX11_draw cX11_draw 4 (some .int) [.ref (ad 68), .int (i32 x1), .int (i32 x2)] z r z1 :=
  Zmet hdj (by decide) rfl (Nat.le_of_ble_eq_true rfl) (lv := [(0, .ref (ad 68)), (1, .int (i32 (x1))), (2, .int (i32 (x2)))]) rfl (fun p e s m args below meth c ls S hr hlk hw hl => by
    have hR : 4 ≤ (Zrm (4)).frames ∧ 60 * (4) ≤ (Zrm (4)).locals := ⟨Nat.le_refl _, Nat.le_refl _⟩
    unfold F_X11_draw at hF
    revert hR
    generalize Zrm (4) = R
    intro hR
    refine lv_aload_n S.1 S.2.1 dX11_draw_0 rfl (lv_at hl 0 rfl) ?_
    refine lv_iload_n S.1 S.2.1 dX11_draw_1 rfl (lv_at hl 1 rfl) ?_
    obtain ⟨r3_, z1_, h2_, hF⟩ := Ybs hF
    refine YcallVi (rest := []) S hw (c_X11_isCard hdj hzz hx1 h2_) my_X11_isCard mi_X11_isCard ml_X11_323 zd_68 zc_X11 rfl (Zrr hR (by decide)) ⟨Nat.zero_le _, Nat.zero_le _⟩ hl.1 rfl rfl (Nat.le_of_ble_eq_true rfl) dX11_draw_2 (fun hrr3_ hzz1_ H locs hw => ?_)
    refine Yif_ne (tgt := 14) S hrr3_ dX11_draw_5 (by decide) (fun c4_ => ?_) (fun c4_ => ?_)
    · replace hF := ZtN c4_ hF
      refine lv_iload_n S.1 S.2.1 dX11_draw_14 rfl (lv_at hl 2 rfl) ?_
      refine Yi2l S hx2 dX11_draw_15 ?_
      refine lv_lconst (v := i64 0) S.1 S.2.1 dX11_draw_16 lc_0 ?_
      refine lv_ldc2 (own := RX11) (v := i64 999) S.1 S.2.1 S.2.2.2.1 (S.2.2.2.2 _ yl_X11_256) dX11_draw_17 ?_
      obtain ⟨r7_, z5_, h6_, hF⟩ := Ybs hF
      refine YcallSi (rest := []) S hw (c_X11_out hdj hzz1_ (InR_L hx2) (InR_L r_0) (InR_L r_999) h6_) my_X11_out ms_X11_out ml_X11_203 (Zrr hR (by decide)) ⟨Nat.zero_le _, Nat.zero_le _⟩ hl.1 rfl rfl (Nat.le_of_ble_eq_true rfl) dX11_draw_20 (fun hrr7_ hzz5_ H locs hw => ?_)
      refine lv_istore_n (lv' := [(3, .int (i32 (r7_))), (0, .ref (ad 68)), (1, .int (i32 (x1))), (2, .int (i32 (x2)))]) S.1 S.2.1 dX11_draw_23 rfl hl (by decide) rfl (fun ls hl => ?_)
      refine lv_iload_n S.1 S.2.1 dX11_draw_24 rfl (lv_at hl 0 rfl) ?_
      refine Yif_eq (tgt := 36) S hrr7_ dX11_draw_25 (by decide) (fun c8_ => ?_) (fun c8_ => ?_)
      · replace hF := ZtP c8_ hF
        refine lv_aload_n S.1 S.2.1 dX11_draw_36 rfl (lv_at hl 1 rfl) ?_
        refine lv_iload_n S.1 S.2.1 dX11_draw_37 rfl (lv_at hl 2 rfl) ?_
        refine lv_iload_n S.1 S.2.1 dX11_draw_38 rfl (lv_at hl 3 rfl) ?_
        obtain ⟨r11_, z9_, h10_, hF⟩ := Ybs hF
        refine YcallVi (rest := []) S hw (c_X11_drawOf hdj hzz5_ hx1 hx2 h10_) my_X11_drawOf mi_X11_drawOf ml_X11_335 zd_68 zc_X11 rfl (Zrr hR (by decide)) ⟨Nat.zero_le _, Nat.zero_le _⟩ hl.1 rfl rfl (Nat.le_of_ble_eq_true rfl) dX11_draw_39 (fun hrr11_ hzz9_ H locs hw => ?_)
        exact w_X11_draw_b42 S hr hlk hR hdj _ _ _ _ _ hF hw hzz9_ hrr11_ (lv_sub hl [] rfl)
      · replace hF := ZtN c8_ hF
        refine lv_aload_n S.1 S.2.1 dX11_draw_28 rfl (lv_at hl 1 rfl) ?_
        refine lv_iload_n S.1 S.2.1 dX11_draw_29 rfl (lv_at hl 0 rfl) ?_
        obtain ⟨r14_, z12_, h13_, hF⟩ := Ybs hF
        refine YcallVi (rest := []) S hw (c_X11_no hdj hzz5_ hrr7_ h13_) my_X11_no mi_X11_no ml_X11_207 zd_68 zc_X11 rfl (Zrr hR (by decide)) ⟨Nat.zero_le _, Nat.zero_le _⟩ hl.1 rfl rfl (Nat.le_of_ble_eq_true rfl) dX11_draw_30 (fun hrr14_ hzz12_ H locs hw => ?_)
        refine lv_goto (tgt := 42) S.1 S.2.1 dX11_draw_33 (by decide) ?_
        exact w_X11_draw_b42 S hr hlk hR hdj _ _ _ _ _ hF hw hzz12_ hrr14_ (lv_sub hl [] rfl)
    · replace hF := ZtP c4_ hF
      refine lv_aload_n S.1 S.2.1 dX11_draw_8 rfl (lv_at hl 0 rfl) ?_
      refine lv_iconst (v := i32 (-1)) S.1 S.2.1 dX11_draw_9 ic_m1 ?_
      obtain ⟨r17_, z15_, h16_, hF⟩ := Ybs hF
      refine YcallVi (rest := []) S hw (c_X11_no hdj hzz1_ r_m1 h16_) my_X11_no mi_X11_no ml_X11_207 zd_68 zc_X11 rfl (Zrr hR (by decide)) ⟨Nat.zero_le _, Nat.zero_le _⟩ hl.1 rfl rfl (Nat.le_of_ble_eq_true rfl) dX11_draw_10 (fun hrr17_ hzz15_ H locs hw => ?_)
      exact Yireti S hw hzz15_ hrr17_ hr hlk hF dX11_draw_13)
set_option maxRecDepth 100000 in
set_option maxHeartbeats 4000000 in
theorem c_X11_end {l : Launch} {D : va_G} {cA : Nat → ClassId} {ad : Nat → Nat} (hdj : Zdj ad) {z z1 : ZI} {x1 : Int} {r : Int} (hzz : Zok z) (hx1 : InR x1) (hF : F_X11_end z x1 = some (r, z1)) : YMi l D cA ad (1) yX11_end cX11_end 2 (some .int) [.ref (ad 68), .int (i32 x1)] z r z1 :=
  Zmet hdj (by decide) rfl (Nat.le_of_ble_eq_true rfl) (lv := [(0, .ref (ad 68)), (1, .int (i32 (x1)))]) rfl (fun p e s m args below meth c ls S hr hlk hw hl => by
    have hR : 1 ≤ (Zrm (1)).frames ∧ 60 * (1) ≤ (Zrm (1)).locals := ⟨Nat.le_refl _, Nat.le_refl _⟩
    unfold F_X11_end at hF
    revert hR
    generalize Zrm (1) = R
    intro hR
    refine lv_aload_n S.1 S.2.1 dX11_end_0 rfl (lv_at hl 0 rfl) ?_
    refine lv_iload_n S.1 S.2.1 dX11_end_1 rfl (lv_at hl 1 rfl) ?_
    obtain ⟨r3_, z1_, h2_, hF⟩ := Ybs hF
    refine YcallVi (rest := []) S hw (c_X11_isCard hdj hzz hx1 h2_) my_X11_isCard mi_X11_isCard ml_X11_323 zd_68 zc_X11 rfl (Zrr hR (by decide)) ⟨Nat.zero_le _, Nat.zero_le _⟩ hl.1 rfl rfl (Nat.le_of_ble_eq_true rfl) dX11_end_2 (fun hrr3_ hzz1_ H locs hw => ?_)
    refine Yif_ne (tgt := 14) S hrr3_ dX11_end_5 (by decide) (fun c4_ => ?_) (fun c4_ => ?_)
    · replace hF := ZtN c4_ hF
      refine lv_aload_n S.1 S.2.1 dX11_end_14 rfl (lv_at hl 0 rfl) ?_
      refine gf_X11_74 S hw dX11_end_15 ?_
      refine lv_iload_n S.1 S.2.1 dX11_end_18 rfl (lv_at hl 1 rfl) ?_
      obtain ⟨b5_, hF⟩ := Zgs hF
      refine Yiald S hw zd_90 (by decide) hx1 b5_ dX11_end_19 ?_
      refine Yif_lt (tgt := 30) S (hzz1_.1 _ _ (by decide)) dX11_end_20 (by decide) (fun c6_ => ?_) (fun c6_ => ?_)
      · replace hF := ZtP c6_ hF
        refine lv_aload_n S.1 S.2.1 dX11_end_30 rfl (lv_at hl 0 rfl) ?_
        refine gf_X11_74 S hw dX11_end_31 ?_
        refine lv_iload_n S.1 S.2.1 dX11_end_34 rfl (lv_at hl 1 rfl) ?_
        refine lv_aload_n S.1 S.2.1 dX11_end_35 rfl (lv_at hl 0 rfl) ?_
        refine gg_X11_200 S hw dX11_end_36 ?_
        obtain ⟨b7_, hF⟩ := Zgs hF
        refine Yiast S hw hzz1_ zd_90 (by decide) hx1 (hzz1_.1 68 11 (by decide)) b7_ dX11_end_39 (fun z8_ H locs ez hzz8_ hw => ?_)
        replace hF := Zle ez hF; clear ez
        refine lv_iconst (v := i32 1) S.1 S.2.1 dX11_end_40 ic_1 ?_
        exact Yireti S hw hzz8_ r_1 hr hlk hF dX11_end_41
      · replace hF := ZtN c6_ hF
        refine lv_aload_n S.1 S.2.1 dX11_end_23 rfl (lv_at hl 0 rfl) ?_
        refine lv_bipush (v := i32 (-3)) S.1 S.2.1 dX11_end_24 bp_m3 ?_
        obtain ⟨r11_, z9_, h10_, hF⟩ := Ybs hF
        refine YcallVi (rest := []) S hw (c_X11_no hdj hzz1_ r_m3 h10_) my_X11_no mi_X11_no ml_X11_207 zd_68 zc_X11 rfl (Zrr hR (by decide)) ⟨Nat.zero_le _, Nat.zero_le _⟩ hl.1 rfl rfl (Nat.le_of_ble_eq_true rfl) dX11_end_26 (fun hrr11_ hzz9_ H locs hw => ?_)
        exact Yireti S hw hzz9_ hrr11_ hr hlk hF dX11_end_29
    · replace hF := ZtP c4_ hF
      refine lv_aload_n S.1 S.2.1 dX11_end_8 rfl (lv_at hl 0 rfl) ?_
      refine lv_iconst (v := i32 (-1)) S.1 S.2.1 dX11_end_9 ic_m1 ?_
      obtain ⟨r14_, z12_, h13_, hF⟩ := Ybs hF
      refine YcallVi (rest := []) S hw (c_X11_no hdj hzz1_ r_m1 h13_) my_X11_no mi_X11_no ml_X11_207 zd_68 zc_X11 rfl (Zrr hR (by decide)) ⟨Nat.zero_le _, Nat.zero_le _⟩ hl.1 rfl rfl (Nat.le_of_ble_eq_true rfl) dX11_end_10 (fun hrr14_ hzz12_ H locs hw => ?_)
      exact Yireti S hw hzz12_ hrr14_ hr hlk hF dX11_end_13)
set_option maxRecDepth 100000 in
set_option maxHeartbeats 4000000 in
theorem w_X11_feed_L46 {RR : Int × ZI} (S : CallFix p m c cX11_feed 6 s args Ztbl RX11) (hr : meth.sig.returnType = some .int) (hlk : meth.locks = false) (hR : 1 ≤ R.frames ∧ 60 * (1) ≤ R.locals) (hdj : Zdj ad) : ∀ (n : Nat) (z : ZI) (x1 : Int) (x2 : Int) (x5 : Int) (H : Heap) (locs : List Loc) (ls : Array Slot), X11_feed_L46 n z x1 x2 x5 = some RR → ZW D cA ad (ZA ad) (Zc z) s H locs → Zok z → InR x1 → InL x2 → InR x5 → lv_has ls 6 [(0, .ref (ad 68)), (1, .int (i32 (x1))), (2, .long (i64 (x2))), (5, .int (i32 (x5)))] → W p l e R s m args below meth c H locs 0 0 (MQ below (YQi D cA ad RR.1 RR.2) args s 0 0 (ZA ad)) (F0 m 46 ls []) := by
  intro n
  induction n with
  | zero => intro z x1 x2 x5 H locs ls hF; exact nomatch hF
  | succ n hk46 =>
    intro z x1 x2 x5 H locs ls hF hw hzz hx1 hx2 hx5 hl
    replace hF : X11_feed_L46b (X11_feed_L46 n) z x1 x2 x5 = some RR := hF
    unfold X11_feed_L46b at hF
    refine lv_iload S.1 S.2.1 dX11_feed_46 (lv_at hl 3 rfl) ?_
    refine lv_iload_n S.1 S.2.1 dX11_feed_48 rfl (lv_at hl 1 rfl) ?_
    refine Yicmp_ge (tgt := 89) S hx5 hx1 dX11_feed_49 (by decide) (fun c1_ => ?_) (fun c1_ => ?_)
    · replace hF := ZtP c1_ hF
      refine lv_aload_n S.1 S.2.1 dX11_feed_89 rfl (lv_at hl 0 rfl) ?_
      refine gg_X11_267 S hw dX11_feed_90 ?_
      exact Yireti S hw hzz (hzz.1 68 21 (by decide)) hr hlk hF dX11_feed_93
    · replace hF := ZtN c1_ hF
      refine lv_aload_n S.1 S.2.1 dX11_feed_52 rfl (lv_at hl 0 rfl) ?_
      refine gf_X11_43 S hw dX11_feed_53 ?_
      refine lv_aload_n S.1 S.2.1 dX11_feed_56 rfl (lv_at hl 0 rfl) ?_
      refine gg_X11_267 S hw dX11_feed_57 ?_
      refine lv_lload_n S.1 S.2.1 dX11_feed_60 rfl (lv_at hl 2 rfl) ?_
      refine lv_bipush (v := i32 8) S.1 S.2.1 dX11_feed_61 bp_8 ?_
      refine lv_iload S.1 S.2.1 dX11_feed_63 (lv_at hl 3 rfl) ?_
      obtain ⟨g2_, hF⟩ := Zgs hF
      refine Yimul S dX11_feed_65 ?_
      refine Ylshr S dX11_feed_66 ?_
      refine lv_ldc2 (own := RX11) (v := i64 255) S.1 S.2.1 S.2.2.2.1 (S.2.2.2.2 _ yl_X11_270) dX11_feed_67 ?_
      refine Yland S dX11_feed_70 ?_
      refine Yl2i S dX11_feed_71 ?_
      obtain ⟨b3_, hF⟩ := Zgs hF
      refine Yiast S hw hzz zd_80 (by decide) (hzz.1 68 21 (by decide)) (InR_of _) b3_ dX11_feed_72 (fun z4_ H locs ez hzz4_ hw => ?_)
      replace hF := Zle ez hF; clear ez
      refine lv_aload_n S.1 S.2.1 dX11_feed_73 rfl (lv_at hl 0 rfl) ?_
      refine lv_dup S.1 S.2.1 dX11_feed_74 rfl ?_
      refine gg_X11_267 S hw dX11_feed_75 ?_
      refine lv_iconst (v := i32 1) S.1 S.2.1 dX11_feed_78 ic_1 ?_
      obtain ⟨g5_, hF⟩ := Zgs hF
      refine Yiadd S dX11_feed_79 ?_
      refine pp_X11_267 S hw hzz4_ g5_ dX11_feed_80 (fun z6_ H locs ez hzz6_ hw => ?_)
      replace hF := Zle ez hF; clear ez
      obtain ⟨g7_, hF⟩ := Zgs hF
      refine lv_iinc (v := i32 (x5 + 1)) (lv' := [(5, .int (i32 (x5 + 1))), (0, .ref (ad 68)), (1, .int (i32 (x1))), (2, .long (i64 (x2)))]) S.1 S.2.1 dX11_feed_83 hl (k := 3) rfl Yiinc (by decide) rfl (fun ls hl => ?_)
      refine lv_goto (tgt := 46) S.1 S.2.1 dX11_feed_86 (by decide) ?_
      exact hk46 _ _ _ _ _ _ _ hF hw hzz6_ hx1 hx2 g7_ (lv_sub hl [1, 2, 3, 0] rfl)
set_option maxRecDepth 100000 in
set_option maxHeartbeats 4000000 in
theorem w_X11_feed_b31 {RR : Int × ZI} (S : CallFix p m c cX11_feed 6 s args Ztbl RX11) (hr : meth.sig.returnType = some .int) (hlk : meth.locks = false) (hR : 1 ≤ R.frames ∧ 60 * (1) ≤ R.locals) (hdj : Zdj ad) : ∀ (z : ZI) (x1 : Int) (x2 : Int) (x4 : Int) (H : Heap) (locs : List Loc) (ls : Array Slot), X11_feed_b31 z x1 x2 x4 = some RR → ZW D cA ad (ZA ad) (Zc z) s H locs → Zok z → InR x1 → InL x2 → InR x4 → lv_has ls 6 [(0, .ref (ad 68)), (1, .int (i32 (x1))), (2, .long (i64 (x2))), (4, .int (i32 (x4)))] → W p l e R s m args below meth c H locs 0 0 (MQ below (YQi D cA ad RR.1 RR.2) args s 0 0 (ZA ad)) (F0 m 31 ls []) := by
  intro z x1 x2 x4 H locs ls hF hw hzz hx1 hx2 hx4 hl
  unfold X11_feed_b31 at hF
  refine lv_iload S.1 S.2.1 dX11_feed_31 (lv_at hl 3 rfl) ?_
  refine Yif_eq (tgt := 43) S hx4 dX11_feed_33 (by decide) (fun c1_ => ?_) (fun c1_ => ?_)
  · replace hF := ZtP c1_ hF
    refine lv_iconst (v := i32 0) S.1 S.2.1 dX11_feed_43 ic_0 ?_
    refine lv_istore (lv' := [(5, .int (i32 (0))), (0, .ref (ad 68)), (1, .int (i32 (x1))), (2, .long (i64 (x2))), (4, .int (i32 (x4)))]) S.1 S.2.1 dX11_feed_44 hl (by decide) rfl (fun ls hl => ?_)
    exact w_X11_feed_L46 S hr hlk hR hdj Zfuel _ _ _ _ _ _ _ hF hw hzz hx1 hx2 r_0 (lv_sub hl [1, 2, 3, 0] rfl)
  · replace hF := ZtN c1_ hF
    refine lv_aload_n S.1 S.2.1 dX11_feed_36 rfl (lv_at hl 0 rfl) ?_
    refine lv_iload S.1 S.2.1 dX11_feed_37 (lv_at hl 3 rfl) ?_
    obtain ⟨r4_, z2_, h3_, hF⟩ := Ybs hF
    refine YcallVi (rest := []) S hw (c_X11_no hdj hzz hx4 h3_) my_X11_no mi_X11_no ml_X11_207 zd_68 zc_X11 rfl (Zrr hR (by decide)) ⟨Nat.zero_le _, Nat.zero_le _⟩ hl.1 rfl rfl (Nat.le_of_ble_eq_true rfl) dX11_feed_39 (fun hrr4_ hzz2_ H locs hw => ?_)
    exact Yireti S hw hzz2_ hrr4_ hr hlk hF dX11_feed_42
set_option maxRecDepth 100000 in
set_option maxHeartbeats 4000000 in
theorem c_X11_feed {l : Launch} {D : va_G} {cA : Nat → ClassId} {ad : Nat → Nat} (hdj : Zdj ad) {z z1 : ZI} {x1 : Int} {x2 : Int} {r : Int} (hzz : Zok z) (hx1 : InR x1) (hx2 : InL x2) (hF : F_X11_feed z x1 x2 = some (r, z1)) : YMi l D cA ad (1) yX11_feed cX11_feed 6 (some .int) [.ref (ad 68), .int (i32 x1), .long (i64 x2)] z r z1 :=
  Zmet hdj (by decide) rfl (Nat.le_of_ble_eq_true rfl) (lv := [(0, .ref (ad 68)), (1, .int (i32 (x1))), (2, .long (i64 (x2)))]) rfl (fun p e s m args below meth c ls S hr hlk hw hl => by
    have hR : 1 ≤ (Zrm (1)).frames ∧ 60 * (1) ≤ (Zrm (1)).locals := ⟨Nat.le_refl _, Nat.le_refl _⟩
    unfold F_X11_feed at hF
    revert hR
    generalize Zrm (1) = R
    intro hR
    refine lv_iload_n S.1 S.2.1 dX11_feed_0 rfl (lv_at hl 1 rfl) ?_
    refine Yi2l S hx1 dX11_feed_1 ?_
    refine lv_lconst (v := i64 1) S.1 S.2.1 dX11_feed_2 lc_1 ?_
    refine lv_ldc2 (own := RX11) (v := i64 8) S.1 S.2.1 S.2.2.2.1 (S.2.2.2.2 _ yl_X11_265) dX11_feed_3 ?_
    obtain ⟨r3_, z1_, h2_, hF⟩ := Ybs hF
    refine YcallSi (rest := []) S hw (c_X11_out hdj hzz (InR_L hx1) (InR_L r_1) (InR_L r_8) h2_) my_X11_out ms_X11_out ml_X11_203 (Zrr hR (by decide)) ⟨Nat.zero_le _, Nat.zero_le _⟩ hl.1 rfl rfl (Nat.le_of_ble_eq_true rfl) dX11_feed_6 (fun hrr3_ hzz1_ H locs hw => ?_)
    refine lv_istore (lv' := [(4, .int (i32 (r3_))), (0, .ref (ad 68)), (1, .int (i32 (x1))), (2, .long (i64 (x2)))]) S.1 S.2.1 dX11_feed_9 hl (by decide) rfl (fun ls hl => ?_)
    refine lv_iload S.1 S.2.1 dX11_feed_11 (lv_at hl 0 rfl) ?_
    refine Yif_ne (tgt := 31) S hrr3_ dX11_feed_13 (by decide) (fun c4_ => ?_) (fun c4_ => ?_)
    · replace hF := ZtN c4_ hF
      exact w_X11_feed_b31 S hr hlk hR hdj _ _ _ _ _ _ _ hF hw hzz1_ hx1 hx2 hrr3_ (lv_sub hl [1, 2, 3, 0] rfl)
    · replace hF := ZtP c4_ hF
      refine lv_aload_n S.1 S.2.1 dX11_feed_16 rfl (lv_at hl 1 rfl) ?_
      refine gg_X11_267 S hw dX11_feed_17 ?_
      refine lv_iload_n S.1 S.2.1 dX11_feed_20 rfl (lv_at hl 2 rfl) ?_
      obtain ⟨g5_, hF⟩ := Zgs hF
      refine Yiadd S dX11_feed_21 ?_
      refine lv_bipush (v := i32 60) S.1 S.2.1 dX11_feed_22 bp_60 ?_
      refine Yicmp_le (tgt := 31) S g5_ r_60 dX11_feed_24 (by decide) (fun c6_ => ?_) (fun c6_ => ?_)
      · replace hF := ZtP c6_ hF
        exact w_X11_feed_b31 S hr hlk hR hdj _ _ _ _ _ _ _ hF hw hzz1_ hx1 hx2 hrr3_ (lv_sub hl [1, 2, 3, 0] rfl)
      · replace hF := ZtN c6_ hF
        refine lv_bipush (v := i32 (-6)) S.1 S.2.1 dX11_feed_27 bp_m6 ?_
        refine lv_istore (lv' := [(4, .int (i32 ((-6)))), (0, .ref (ad 68)), (1, .int (i32 (x1))), (2, .long (i64 (x2)))]) S.1 S.2.1 dX11_feed_29 hl (by decide) rfl (fun ls hl => ?_)
        exact w_X11_feed_b31 S hr hlk hR hdj _ _ _ _ _ _ _ hF hw hzz1_ hx1 hx2 r_m6 (lv_sub hl [1, 2, 3, 0] rfl))
set_option maxRecDepth 100000 in
set_option maxHeartbeats 4000000 in
theorem w_X11_pointsOf_b85 {RR : Int × ZI} (S : CallFix p m c cX11_pointsOf 4 s args Ztbl RX11) (hr : meth.sig.returnType = some .int) (hlk : meth.locks = false) (hR : 3 ≤ R.frames ∧ 60 * (3) ≤ R.locals) (hdj : Zdj ad) : ∀ (z : ZI) (x1 : Int) (x2 : Int) (x3 : Int) (y1 : Int) (y2 : Int) (H : Heap) (locs : List Loc) (ls : Array Slot), X11_pointsOf_b85 z x1 x2 x3 y1 y2 = some RR → ZW D cA ad (ZA ad) (Zc z) s H locs → Zok z → InR x1 → InR x2 → InR x3 → InR y1 → InR y2 → lv_has ls 4 [(0, .ref (ad 68)), (1, .int (i32 (x1))), (2, .int (i32 (x2))), (3, .int (i32 (x3)))] → W p l e R s m args below meth c H locs 0 0 (MQ below (YQi D cA ad RR.1 RR.2) args s 0 0 (ZA ad)) (F0 m 85 ls [.int (i32 (y2)), .int (i32 (y1)), .ref (ad 85)]) := by
  intro z x1 x2 x3 y1 y2 H locs ls hF hw hzz hx1 hx2 hx3 hy1 hy2 hl
  unfold X11_pointsOf_b85 at hF
  obtain ⟨b1_, hF⟩ := Zgs hF
  refine Yiast S hw hzz zd_85 (by decide) hy1 hy2 b1_ dX11_pointsOf_85 (fun z2_ H locs ez hzz2_ hw => ?_)
  replace hF := Zle ez hF; clear ez
  refine lv_aload_n S.1 S.2.1 dX11_pointsOf_86 rfl (lv_at hl 0 rfl) ?_
  refine gf_X11_58 S hw dX11_pointsOf_87 ?_
  refine lv_bipush (v := i32 110) S.1 S.2.1 dX11_pointsOf_90 bp_110 ?_
  refine lv_aload_n S.1 S.2.1 dX11_pointsOf_92 rfl (lv_at hl 0 rfl) ?_
  refine lv_aload_n S.1 S.2.1 dX11_pointsOf_93 rfl (lv_at hl 0 rfl) ?_
  refine gf_X11_22 S hw dX11_pointsOf_94 ?_
  refine lv_iload_n S.1 S.2.1 dX11_pointsOf_97 rfl (lv_at hl 1 rfl) ?_
  obtain ⟨b3_, hF⟩ := Zgs hF
  refine Yiald S hw zd_73 (by decide) hx1 b3_ dX11_pointsOf_98 ?_
  refine lv_iload_n S.1 S.2.1 dX11_pointsOf_99 rfl (lv_at hl 2 rfl) ?_
  obtain ⟨r6_, z4_, h5_, hF⟩ := Ybs hF
  refine YcallVi (rest := [.int (i32 (110)), .ref (ad 85)]) S hw (c_X11_hereOf hdj hzz2_ (hzz2_.1 _ _ (by decide)) hx2 h5_) my_X11_hereOf mi_X11_hereOf ml_X11_262 zd_68 zc_X11 rfl (Zrr hR (by decide)) ⟨Nat.zero_le _, Nat.zero_le _⟩ hl.1 rfl rfl (Nat.le_of_ble_eq_true rfl) dX11_pointsOf_100 (fun hrr6_ hzz4_ H locs hw => ?_)
  obtain ⟨b7_, hF⟩ := Zgs hF
  refine Yiast S hw hzz4_ zd_85 (by decide) r_110 hrr6_ b7_ dX11_pointsOf_103 (fun z8_ H locs ez hzz8_ hw => ?_)
  replace hF := Zle ez hF; clear ez
  refine lv_aload_n S.1 S.2.1 dX11_pointsOf_104 rfl (lv_at hl 0 rfl) ?_
  refine lv_iload_n S.1 S.2.1 dX11_pointsOf_105 rfl (lv_at hl 3 rfl) ?_
  obtain ⟨r11_, z9_, h10_, hF⟩ := Ybs hF
  refine YcallVi (rest := []) S hw (c_X11_worth hdj hzz8_ hx3 h10_) my_X11_worth mi_X11_worth ml_X11_332 zd_68 zc_X11 rfl (Zrr hR (by decide)) ⟨Nat.zero_le _, Nat.zero_le _⟩ hl.1 rfl rfl (Nat.le_of_ble_eq_true rfl) dX11_pointsOf_106 (fun hrr11_ hzz9_ H locs hw => ?_)
  exact Yireti S hw hzz9_ hrr11_ hr hlk hF dX11_pointsOf_109
set_option maxRecDepth 100000 in
set_option maxHeartbeats 4000000 in
theorem c_X11_pointsOf {l : Launch} {D : va_G} {cA : Nat → ClassId} {ad : Nat → Nat} (hdj : Zdj ad) {z z1 : ZI} {x1 : Int} {x2 : Int} {r : Int} (hzz : Zok z) (hx1 : InR x1) (hx2 : InR x2) (hF : F_X11_pointsOf z x1 x2 = some (r, z1)) : YMi l D cA ad (3) yX11_pointsOf cX11_pointsOf 4 (some .int) [.ref (ad 68), .int (i32 x1), .int (i32 x2)] z r z1 :=
  Zmet hdj (by decide) rfl (Nat.le_of_ble_eq_true rfl) (lv := [(0, .ref (ad 68)), (1, .int (i32 (x1))), (2, .int (i32 (x2)))]) rfl (fun p e s m args below meth c ls S hr hlk hw hl => by
    have hR : 3 ≤ (Zrm (3)).frames ∧ 60 * (3) ≤ (Zrm (3)).locals := ⟨Nat.le_refl _, Nat.le_refl _⟩
    unfold F_X11_pointsOf at hF
    revert hR
    generalize Zrm (3) = R
    intro hR
    refine lv_aload_n S.1 S.2.1 dX11_pointsOf_0 rfl (lv_at hl 0 rfl) ?_
    refine lv_iconst (v := i32 1) S.1 S.2.1 dX11_pointsOf_1 ic_1 ?_
    refine lv_iload_n S.1 S.2.1 dX11_pointsOf_2 rfl (lv_at hl 2 rfl) ?_
    obtain ⟨r3_, z1_, h2_, hF⟩ := Ybs hF
    refine YcallVi (rest := []) S hw (c_X11_forceOf hdj hzz r_1 hx2 h2_) my_X11_forceOf mi_X11_forceOf ml_X11_326 zd_68 zc_X11 rfl (Zrr hR (by decide)) ⟨Nat.zero_le _, Nat.zero_le _⟩ hl.1 rfl rfl (Nat.le_of_ble_eq_true rfl) dX11_pointsOf_3 (fun hrr3_ hzz1_ H locs hw => ?_)
    refine lv_istore_n (lv' := [(3, .int (i32 (r3_))), (0, .ref (ad 68)), (1, .int (i32 (x1))), (2, .int (i32 (x2)))]) S.1 S.2.1 dX11_pointsOf_6 rfl hl (by decide) rfl (fun ls hl => ?_)
    refine lv_iload_n S.1 S.2.1 dX11_pointsOf_7 rfl (lv_at hl 0 rfl) ?_
    refine Yif_ge (tgt := 13) S hrr3_ dX11_pointsOf_8 (by decide) (fun c4_ => ?_) (fun c4_ => ?_)
    · replace hF := ZtP c4_ hF
      refine lv_aload_n S.1 S.2.1 dX11_pointsOf_13 rfl (lv_at hl 1 rfl) ?_
      obtain ⟨r7_, z5_, h6_, hF⟩ := Ybs hF
      refine YcallVv (rest := []) S hw (c_X11_noFacts hdj hzz1_  h6_) my_X11_noFacts mi_X11_noFacts ml_X11_329 zd_68 zc_X11 rfl (Zrr hR (by decide)) ⟨Nat.zero_le _, Nat.zero_le _⟩ hl.1 rfl rfl (Nat.le_of_ble_eq_true rfl) dX11_pointsOf_14 (fun hzz5_ H locs hw => ?_)
      refine lv_aload_n S.1 S.2.1 dX11_pointsOf_17 rfl (lv_at hl 1 rfl) ?_
      refine gf_X11_58 S hw dX11_pointsOf_18 ?_
      refine lv_bipush (v := i32 97) S.1 S.2.1 dX11_pointsOf_21 bp_97 ?_
      refine lv_iload_n S.1 S.2.1 dX11_pointsOf_23 rfl (lv_at hl 3 rfl) ?_
      refine lv_aload_n S.1 S.2.1 dX11_pointsOf_24 rfl (lv_at hl 1 rfl) ?_
      refine gf_X11_25 S hw dX11_pointsOf_25 ?_
      refine lv_iload_n S.1 S.2.1 dX11_pointsOf_28 rfl (lv_at hl 2 rfl) ?_
      obtain ⟨b8_, hF⟩ := Zgs hF
      refine Yiald S hw zd_74 (by decide) hx1 b8_ dX11_pointsOf_29 ?_
      obtain ⟨g9_, hF⟩ := Zgs hF
      refine Yisub S dX11_pointsOf_30 ?_
      refine lv_sipush (v := i32 365) S.1 S.2.1 dX11_pointsOf_31 sp_365 ?_
      refine Yidiv S g9_ r_365 (by decide) dX11_pointsOf_34 ?_
      obtain ⟨b10_, hF⟩ := Zgs hF
      refine Yiast S hw hzz5_ zd_85 (by decide) r_97 (InR_tdiv g9_ (by decide)) b10_ dX11_pointsOf_35 (fun z11_ H locs ez hzz11_ hw => ?_)
      replace hF := Zle ez hF; clear ez
      refine lv_aload_n S.1 S.2.1 dX11_pointsOf_36 rfl (lv_at hl 1 rfl) ?_
      refine gf_X11_58 S hw dX11_pointsOf_37 ?_
      refine lv_bipush (v := i32 116) S.1 S.2.1 dX11_pointsOf_40 bp_116 ?_
      refine lv_aload_n S.1 S.2.1 dX11_pointsOf_42 rfl (lv_at hl 1 rfl) ?_
      refine gf_X11_28 S hw dX11_pointsOf_43 ?_
      refine lv_iload_n S.1 S.2.1 dX11_pointsOf_46 rfl (lv_at hl 2 rfl) ?_
      obtain ⟨b12_, hF⟩ := Zgs hF
      refine Yiald S hw zd_75 (by decide) hx1 b12_ dX11_pointsOf_47 ?_
      obtain ⟨b13_, hF⟩ := Zgs hF
      refine Yiast S hw hzz11_ zd_85 (by decide) r_116 (hzz11_.1 _ _ (by decide)) b13_ dX11_pointsOf_48 (fun z14_ H locs ez hzz14_ hw => ?_)
      replace hF := Zle ez hF; clear ez
      refine lv_aload_n S.1 S.2.1 dX11_pointsOf_49 rfl (lv_at hl 1 rfl) ?_
      refine gf_X11_58 S hw dX11_pointsOf_50 ?_
      refine lv_bipush (v := i32 99) S.1 S.2.1 dX11_pointsOf_53 bp_99 ?_
      refine lv_iload_n S.1 S.2.1 dX11_pointsOf_55 rfl (lv_at hl 3 rfl) ?_
      refine lv_aload_n S.1 S.2.1 dX11_pointsOf_56 rfl (lv_at hl 1 rfl) ?_
      refine gf_X11_31 S hw dX11_pointsOf_57 ?_
      refine lv_iload_n S.1 S.2.1 dX11_pointsOf_60 rfl (lv_at hl 2 rfl) ?_
      obtain ⟨b15_, hF⟩ := Zgs hF
      refine Yiald S hw zd_76 (by decide) hx1 b15_ dX11_pointsOf_61 ?_
      obtain ⟨g16_, hF⟩ := Zgs hF
      refine Yisub S dX11_pointsOf_62 ?_
      obtain ⟨b17_, hF⟩ := Zgs hF
      refine Yiast S hw hzz14_ zd_85 (by decide) r_99 g16_ b17_ dX11_pointsOf_63 (fun z18_ H locs ez hzz18_ hw => ?_)
      replace hF := Zle ez hF; clear ez
      refine lv_aload_n S.1 S.2.1 dX11_pointsOf_64 rfl (lv_at hl 1 rfl) ?_
      refine gf_X11_58 S hw dX11_pointsOf_65 ?_
      refine lv_bipush (v := i32 115) S.1 S.2.1 dX11_pointsOf_68 bp_115 ?_
      refine lv_aload_n S.1 S.2.1 dX11_pointsOf_70 rfl (lv_at hl 1 rfl) ?_
      refine lv_iload_n S.1 S.2.1 dX11_pointsOf_71 rfl (lv_at hl 2 rfl) ?_
      refine lv_iload_n S.1 S.2.1 dX11_pointsOf_72 rfl (lv_at hl 3 rfl) ?_
      obtain ⟨r21_, z19_, h20_, hF⟩ := Ybs hF
      refine YcallVi (rest := [.int (i32 (115)), .ref (ad 85)]) S hw (c_X11_stateOn hdj hzz18_ hx1 hx2 h20_) my_X11_stateOn mi_X11_stateOn ml_X11_252 zd_68 zc_X11 rfl (Zrr hR (by decide)) ⟨Nat.zero_le _, Nat.zero_le _⟩ hl.1 rfl rfl (Nat.le_of_ble_eq_true rfl) dX11_pointsOf_73 (fun hrr21_ hzz19_ H locs hw => ?_)
      refine lv_iconst (v := i32 2) S.1 S.2.1 dX11_pointsOf_76 ic_2 ?_
      refine Yicmp_ne (tgt := 84) S hrr21_ r_2 dX11_pointsOf_77 (by decide) (fun c22_ => ?_) (fun c22_ => ?_)
      · replace hF := ZtN c22_ hF
        refine lv_iconst (v := i32 0) S.1 S.2.1 dX11_pointsOf_84 ic_0 ?_
        exact w_X11_pointsOf_b85 S hr hlk hR hdj _ _ _ _ _ _ _ _ _ hF hw hzz19_ hx1 hx2 hrr3_ r_115 r_0 (lv_sub hl [1, 2, 3, 0] rfl)
      · replace hF := ZtP c22_ hF
        refine lv_iconst (v := i32 1) S.1 S.2.1 dX11_pointsOf_80 ic_1 ?_
        refine lv_goto (tgt := 85) S.1 S.2.1 dX11_pointsOf_81 (by decide) ?_
        exact w_X11_pointsOf_b85 S hr hlk hR hdj _ _ _ _ _ _ _ _ _ hF hw hzz19_ hx1 hx2 hrr3_ r_115 r_1 (lv_sub hl [1, 2, 3, 0] rfl)
    · replace hF := ZtN c4_ hF
      refine lv_iconst (v := i32 0) S.1 S.2.1 dX11_pointsOf_11 ic_0 ?_
      exact Yireti S hw hzz1_ r_0 hr hlk hF dX11_pointsOf_12)
set_option maxRecDepth 100000 in
set_option maxHeartbeats 4000000 in
theorem w_X11_findList_b127 {RR : Int × ZI} (S : CallFix p m c cX11_findList 6 s args Ztbl RX11) (hr : meth.sig.returnType = some .int) (hlk : meth.locks = false) (hR : 4 ≤ R.frames ∧ 60 * (4) ≤ R.locals) (hdj : Zdj ad) {k4 : ZI → Int → Int → Int → Option (Int × ZI)} (hk4 : ∀ (z : ZI) (x1 : Int) (x2 : Int) (x3 : Int) (H : Heap) (locs : List Loc) (ls : Array Slot), k4 z x1 x2 x3 = some RR → ZW D cA ad (ZA ad) (Zc z) s H locs → Zok z → InR x1 → InR x2 → InR x3 → lv_has ls 6 [(0, .ref (ad 68)), (1, .int (i32 (x1))), (2, .int (i32 (x2))), (3, .int (i32 (x3)))] → W p l e R s m args below meth c H locs 0 0 (MQ below (YQi D cA ad RR.1 RR.2) args s 0 0 (ZA ad)) (F0 m 4 ls [])) : ∀ (z : ZI) (x1 : Int) (x2 : Int) (x3 : Int) (H : Heap) (locs : List Loc) (ls : Array Slot), X11_findList_b127 k4 z x1 x2 x3 = some RR → ZW D cA ad (ZA ad) (Zc z) s H locs → Zok z → InR x1 → InR x2 → InR x3 → lv_has ls 6 [(0, .ref (ad 68)), (1, .int (i32 (x1))), (2, .int (i32 (x2))), (3, .int (i32 (x3)))] → W p l e R s m args below meth c H locs 0 0 (MQ below (YQi D cA ad RR.1 RR.2) args s 0 0 (ZA ad)) (F0 m 127 ls []) := by
  intro z x1 x2 x3 H locs ls hF hw hzz hx1 hx2 hx3 hl
  unfold X11_findList_b127 at hF
  obtain ⟨g1_, hF⟩ := Zgs hF
  refine lv_iinc (v := i32 (x3 + 1)) (lv' := [(3, .int (i32 (x3 + 1))), (0, .ref (ad 68)), (1, .int (i32 (x1))), (2, .int (i32 (x2)))]) S.1 S.2.1 dX11_findList_127 hl (k := 3) rfl Yiinc (by decide) rfl (fun ls hl => ?_)
  refine lv_goto (tgt := 4) S.1 S.2.1 dX11_findList_130 (by decide) ?_
  exact hk4 _ _ _ _ _ _ _ hF hw hzz hx1 hx2 g1_ (lv_sub hl [1, 2, 3, 0] rfl)
set_option maxRecDepth 100000 in
set_option maxHeartbeats 4000000 in
theorem w_X11_findList_b102 {RR : Int × ZI} (S : CallFix p m c cX11_findList 6 s args Ztbl RX11) (hr : meth.sig.returnType = some .int) (hlk : meth.locks = false) (hR : 4 ≤ R.frames ∧ 60 * (4) ≤ R.locals) (hdj : Zdj ad) {k4 : ZI → Int → Int → Int → Option (Int × ZI)} (hk4 : ∀ (z : ZI) (x1 : Int) (x2 : Int) (x3 : Int) (H : Heap) (locs : List Loc) (ls : Array Slot), k4 z x1 x2 x3 = some RR → ZW D cA ad (ZA ad) (Zc z) s H locs → Zok z → InR x1 → InR x2 → InR x3 → lv_has ls 6 [(0, .ref (ad 68)), (1, .int (i32 (x1))), (2, .int (i32 (x2))), (3, .int (i32 (x3)))] → W p l e R s m args below meth c H locs 0 0 (MQ below (YQi D cA ad RR.1 RR.2) args s 0 0 (ZA ad)) (F0 m 4 ls [])) : ∀ (z : ZI) (x1 : Int) (x2 : Int) (x3 : Int) (x4 : Int) (x5 : Int) (H : Heap) (locs : List Loc) (ls : Array Slot), X11_findList_b102 k4 z x1 x2 x3 x4 x5 = some RR → ZW D cA ad (ZA ad) (Zc z) s H locs → Zok z → InR x1 → InR x2 → InR x3 → InR x4 → InR x5 → lv_has ls 6 [(0, .ref (ad 68)), (1, .int (i32 (x1))), (2, .int (i32 (x2))), (3, .int (i32 (x3))), (4, .int (i32 (x4))), (5, .int (i32 (x5)))] → W p l e R s m args below meth c H locs 0 0 (MQ below (YQi D cA ad RR.1 RR.2) args s 0 0 (ZA ad)) (F0 m 102 ls []) := by
  intro z x1 x2 x3 x4 x5 H locs ls hF hw hzz hx1 hx2 hx3 hx4 hx5 hl
  unfold X11_findList_b102 at hF
  refine lv_aload_n S.1 S.2.1 dX11_findList_102 rfl (lv_at hl 0 rfl) ?_
  refine gf_X11_177 S hw dX11_findList_103 ?_
  refine lv_iload S.1 S.2.1 dX11_findList_106 (lv_at hl 5 rfl) ?_
  refine lv_iload S.1 S.2.1 dX11_findList_108 (lv_at hl 4 rfl) ?_
  obtain ⟨b1_, hF⟩ := Zgs hF
  refine Yiast S hw hzz zd_124 (by decide) hx5 hx4 b1_ dX11_findList_110 (fun z2_ H locs ez hzz2_ hw => ?_)
  replace hF := Zle ez hF; clear ez
  refine lv_aload_n S.1 S.2.1 dX11_findList_111 rfl (lv_at hl 0 rfl) ?_
  refine gf_X11_174 S hw dX11_findList_112 ?_
  refine lv_iload S.1 S.2.1 dX11_findList_115 (lv_at hl 5 rfl) ?_
  refine lv_aload_n S.1 S.2.1 dX11_findList_117 rfl (lv_at hl 0 rfl) ?_
  refine gf_X11_171 S hw dX11_findList_118 ?_
  refine lv_iload_n S.1 S.2.1 dX11_findList_121 rfl (lv_at hl 3 rfl) ?_
  obtain ⟨b3_, hF⟩ := Zgs hF
  refine Yiald S hw zd_122 (by decide) hx3 b3_ dX11_findList_122 ?_
  obtain ⟨b4_, hF⟩ := Zgs hF
  refine Yiast S hw hzz2_ zd_123 (by decide) hx5 (hzz2_.1 _ _ (by decide)) b4_ dX11_findList_123 (fun z5_ H locs ez hzz5_ hw => ?_)
  replace hF := Zle ez hF; clear ez
  obtain ⟨g6_, hF⟩ := Zgs hF
  refine lv_iinc (v := i32 (x2 + 1)) (lv' := [(2, .int (i32 (x2 + 1))), (0, .ref (ad 68)), (1, .int (i32 (x1))), (3, .int (i32 (x3))), (4, .int (i32 (x4))), (5, .int (i32 (x5)))]) S.1 S.2.1 dX11_findList_124 hl (k := 2) rfl Yiinc (by decide) rfl (fun ls hl => ?_)
  exact w_X11_findList_b127 S hr hlk hR hdj hk4 _ _ _ _ _ _ _ hF hw hzz5_ hx1 g6_ hx3 (lv_sub hl [1, 2, 0, 3] rfl)
set_option maxRecDepth 100000 in
set_option maxHeartbeats 4000000 in
theorem w_X11_findList_L45 {RR : Int × ZI} (S : CallFix p m c cX11_findList 6 s args Ztbl RX11) (hr : meth.sig.returnType = some .int) (hlk : meth.locks = false) (hR : 4 ≤ R.frames ∧ 60 * (4) ≤ R.locals) (hdj : Zdj ad) {k4 : ZI → Int → Int → Int → Option (Int × ZI)} (hk4 : ∀ (z : ZI) (x1 : Int) (x2 : Int) (x3 : Int) (H : Heap) (locs : List Loc) (ls : Array Slot), k4 z x1 x2 x3 = some RR → ZW D cA ad (ZA ad) (Zc z) s H locs → Zok z → InR x1 → InR x2 → InR x3 → lv_has ls 6 [(0, .ref (ad 68)), (1, .int (i32 (x1))), (2, .int (i32 (x2))), (3, .int (i32 (x3)))] → W p l e R s m args below meth c H locs 0 0 (MQ below (YQi D cA ad RR.1 RR.2) args s 0 0 (ZA ad)) (F0 m 4 ls [])) : ∀ (n : Nat) (z : ZI) (x1 : Int) (x2 : Int) (x3 : Int) (x4 : Int) (x5 : Int) (H : Heap) (locs : List Loc) (ls : Array Slot), X11_findList_L45 k4 n z x1 x2 x3 x4 x5 = some RR → ZW D cA ad (ZA ad) (Zc z) s H locs → Zok z → InR x1 → InR x2 → InR x3 → InR x4 → InR x5 → lv_has ls 6 [(0, .ref (ad 68)), (1, .int (i32 (x1))), (2, .int (i32 (x2))), (3, .int (i32 (x3))), (4, .int (i32 (x4))), (5, .int (i32 (x5)))] → W p l e R s m args below meth c H locs 0 0 (MQ below (YQi D cA ad RR.1 RR.2) args s 0 0 (ZA ad)) (F0 m 45 ls []) := by
  intro n
  induction n with
  | zero => intro z x1 x2 x3 x4 x5 H locs ls hF; exact nomatch hF
  | succ n hk45 =>
    intro z x1 x2 x3 x4 x5 H locs ls hF hw hzz hx1 hx2 hx3 hx4 hx5 hl
    replace hF : X11_findList_L45b k4 (X11_findList_L45 k4 n) z x1 x2 x3 x4 x5 = some RR := hF
    unfold X11_findList_L45b at hF
    refine lv_iload S.1 S.2.1 dX11_findList_45 (lv_at hl 5 rfl) ?_
    refine Yif_le (tgt := 102) S hx5 dX11_findList_47 (by decide) (fun c1_ => ?_) (fun c1_ => ?_)
    · replace hF := ZtP c1_ hF
      exact w_X11_findList_b102 S hr hlk hR hdj hk4 _ _ _ _ _ _ _ _ _ hF hw hzz hx1 hx2 hx3 hx4 hx5 (lv_sub hl [0, 1, 2, 3, 4, 5] rfl)
    · replace hF := ZtN c1_ hF
      refine lv_aload_n S.1 S.2.1 dX11_findList_50 rfl (lv_at hl 0 rfl) ?_
      refine gf_X11_177 S hw dX11_findList_51 ?_
      refine lv_iload S.1 S.2.1 dX11_findList_54 (lv_at hl 5 rfl) ?_
      refine lv_iconst (v := i32 1) S.1 S.2.1 dX11_findList_56 ic_1 ?_
      obtain ⟨g2_, hF⟩ := Zgs hF
      refine Yisub S dX11_findList_57 ?_
      obtain ⟨b3_, hF⟩ := Zgs hF
      refine Yiald S hw zd_124 (by decide) g2_ b3_ dX11_findList_58 ?_
      refine lv_iload S.1 S.2.1 dX11_findList_59 (lv_at hl 4 rfl) ?_
      refine Yicmp_ge (tgt := 102) S (hzz.1 _ _ (by decide)) hx4 dX11_findList_61 (by decide) (fun c4_ => ?_) (fun c4_ => ?_)
      · replace hF := ZtP c4_ hF
        exact w_X11_findList_b102 S hr hlk hR hdj hk4 _ _ _ _ _ _ _ _ _ hF hw hzz hx1 hx2 hx3 hx4 hx5 (lv_sub hl [0, 1, 2, 3, 4, 5] rfl)
      · replace hF := ZtN c4_ hF
        refine lv_aload_n S.1 S.2.1 dX11_findList_64 rfl (lv_at hl 0 rfl) ?_
        refine gf_X11_177 S hw dX11_findList_65 ?_
        refine lv_iload S.1 S.2.1 dX11_findList_68 (lv_at hl 5 rfl) ?_
        refine lv_aload_n S.1 S.2.1 dX11_findList_70 rfl (lv_at hl 0 rfl) ?_
        refine gf_X11_177 S hw dX11_findList_71 ?_
        refine lv_iload S.1 S.2.1 dX11_findList_74 (lv_at hl 5 rfl) ?_
        refine lv_iconst (v := i32 1) S.1 S.2.1 dX11_findList_76 ic_1 ?_
        obtain ⟨g5_, hF⟩ := Zgs hF
        refine Yisub S dX11_findList_77 ?_
        obtain ⟨b6_, hF⟩ := Zgs hF
        refine Yiald S hw zd_124 (by decide) g5_ b6_ dX11_findList_78 ?_
        obtain ⟨b7_, hF⟩ := Zgs hF
        refine Yiast S hw hzz zd_124 (by decide) hx5 (hzz.1 _ _ (by decide)) b7_ dX11_findList_79 (fun z8_ H locs ez hzz8_ hw => ?_)
        replace hF := Zle ez hF; clear ez
        refine lv_aload_n S.1 S.2.1 dX11_findList_80 rfl (lv_at hl 0 rfl) ?_
        refine gf_X11_174 S hw dX11_findList_81 ?_
        refine lv_iload S.1 S.2.1 dX11_findList_84 (lv_at hl 5 rfl) ?_
        refine lv_aload_n S.1 S.2.1 dX11_findList_86 rfl (lv_at hl 0 rfl) ?_
        refine gf_X11_174 S hw dX11_findList_87 ?_
        refine lv_iload S.1 S.2.1 dX11_findList_90 (lv_at hl 5 rfl) ?_
        refine lv_iconst (v := i32 1) S.1 S.2.1 dX11_findList_92 ic_1 ?_
        obtain ⟨g9_, hF⟩ := Zgs hF
        refine Yisub S dX11_findList_93 ?_
        obtain ⟨b10_, hF⟩ := Zgs hF
        refine Yiald S hw zd_123 (by decide) g9_ b10_ dX11_findList_94 ?_
        obtain ⟨b11_, hF⟩ := Zgs hF
        refine Yiast S hw hzz8_ zd_123 (by decide) hx5 (hzz8_.1 _ _ (by decide)) b11_ dX11_findList_95 (fun z12_ H locs ez hzz12_ hw => ?_)
        replace hF := Zle ez hF; clear ez
        obtain ⟨g13_, hF⟩ := Zgs hF
        refine lv_iinc (v := i32 (x5 + (-1))) (lv' := [(5, .int (i32 (x5 + (-1)))), (0, .ref (ad 68)), (1, .int (i32 (x1))), (2, .int (i32 (x2))), (3, .int (i32 (x3))), (4, .int (i32 (x4)))]) S.1 S.2.1 dX11_findList_96 hl (k := 5) rfl Yiinc (by decide) rfl (fun ls hl => ?_)
        refine lv_goto (tgt := 45) S.1 S.2.1 dX11_findList_99 (by decide) ?_
        exact hk45 _ _ _ _ _ _ _ _ _ hF hw hzz12_ hx1 hx2 hx3 hx4 g13_ (lv_sub hl [1, 2, 3, 4, 5, 0] rfl)
set_option maxRecDepth 100000 in
set_option maxHeartbeats 4000000 in
theorem w_X11_findList_L4 {RR : Int × ZI} (S : CallFix p m c cX11_findList 6 s args Ztbl RX11) (hr : meth.sig.returnType = some .int) (hlk : meth.locks = false) (hR : 4 ≤ R.frames ∧ 60 * (4) ≤ R.locals) (hdj : Zdj ad) : ∀ (n : Nat) (z : ZI) (x1 : Int) (x2 : Int) (x3 : Int) (H : Heap) (locs : List Loc) (ls : Array Slot), X11_findList_L4 n z x1 x2 x3 = some RR → ZW D cA ad (ZA ad) (Zc z) s H locs → Zok z → InR x1 → InR x2 → InR x3 → lv_has ls 6 [(0, .ref (ad 68)), (1, .int (i32 (x1))), (2, .int (i32 (x2))), (3, .int (i32 (x3)))] → W p l e R s m args below meth c H locs 0 0 (MQ below (YQi D cA ad RR.1 RR.2) args s 0 0 (ZA ad)) (F0 m 4 ls []) := by
  intro n
  induction n with
  | zero => intro z x1 x2 x3 H locs ls hF; exact nomatch hF
  | succ n hk4 =>
    intro z x1 x2 x3 H locs ls hF hw hzz hx1 hx2 hx3 hl
    replace hF : X11_findList_L4b (X11_findList_L4 n) z x1 x2 x3 = some RR := hF
    unfold X11_findList_L4b at hF
    refine lv_iload_n S.1 S.2.1 dX11_findList_4 rfl (lv_at hl 3 rfl) ?_
    refine lv_aload_n S.1 S.2.1 dX11_findList_5 rfl (lv_at hl 0 rfl) ?_
    refine gg_X11_442 S hw dX11_findList_6 ?_
    refine Yicmp_ge (tgt := 133) S hx3 (hzz.1 68 78 (by decide)) dX11_findList_9 (by decide) (fun c1_ => ?_) (fun c1_ => ?_)
    · replace hF := ZtP c1_ hF
      refine lv_iload_n S.1 S.2.1 dX11_findList_133 rfl (lv_at hl 2 rfl) ?_
      exact Yireti S hw hzz hx2 hr hlk hF dX11_findList_134
    · replace hF := ZtN c1_ hF
      refine lv_aload_n S.1 S.2.1 dX11_findList_12 rfl (lv_at hl 0 rfl) ?_
      refine lv_aload_n S.1 S.2.1 dX11_findList_13 rfl (lv_at hl 0 rfl) ?_
      refine gf_X11_171 S hw dX11_findList_14 ?_
      refine lv_iload_n S.1 S.2.1 dX11_findList_17 rfl (lv_at hl 3 rfl) ?_
      obtain ⟨b2_, hF⟩ := Zgs hF
      refine Yiald S hw zd_122 (by decide) hx3 b2_ dX11_findList_18 ?_
      refine lv_iload_n S.1 S.2.1 dX11_findList_19 rfl (lv_at hl 1 rfl) ?_
      obtain ⟨r5_, z3_, h4_, hF⟩ := Ybs hF
      refine YcallVi (rest := []) S hw (c_X11_isHere hdj hzz (hzz.1 _ _ (by decide)) hx1 h4_) my_X11_isHere mi_X11_isHere ml_X11_258 zd_68 zc_X11 rfl (Zrr hR (by decide)) ⟨Nat.zero_le _, Nat.zero_le _⟩ hl.1 rfl rfl (Nat.le_of_ble_eq_true rfl) dX11_findList_20 (fun hrr5_ hzz3_ H locs hw => ?_)
      refine Yif_ne (tgt := 29) S hrr5_ dX11_findList_23 (by decide) (fun c6_ => ?_) (fun c6_ => ?_)
      · replace hF := ZtN c6_ hF
        refine lv_aload_n S.1 S.2.1 dX11_findList_29 rfl (lv_at hl 0 rfl) ?_
        refine lv_aload_n S.1 S.2.1 dX11_findList_30 rfl (lv_at hl 0 rfl) ?_
        refine gf_X11_171 S hw dX11_findList_31 ?_
        refine lv_iload_n S.1 S.2.1 dX11_findList_34 rfl (lv_at hl 3 rfl) ?_
        obtain ⟨b7_, hF⟩ := Zgs hF
        refine Yiald S hw zd_122 (by decide) hx3 b7_ dX11_findList_35 ?_
        refine lv_iload_n S.1 S.2.1 dX11_findList_36 rfl (lv_at hl 1 rfl) ?_
        obtain ⟨r10_, z8_, h9_, hF⟩ := Ybs hF
        refine YcallVi (rest := []) S hw (c_X11_pointsOf hdj hzz3_ (hzz3_.1 _ _ (by decide)) hx1 h9_) my_X11_pointsOf mi_X11_pointsOf ml_X11_341 zd_68 zc_X11 rfl (Zrr hR (by decide)) ⟨Nat.zero_le _, Nat.zero_le _⟩ hl.1 rfl rfl (Nat.le_of_ble_eq_true rfl) dX11_findList_37 (fun hrr10_ hzz8_ H locs hw => ?_)
        refine lv_istore (lv' := [(4, .int (i32 (r10_))), (0, .ref (ad 68)), (1, .int (i32 (x1))), (2, .int (i32 (x2))), (3, .int (i32 (x3)))]) S.1 S.2.1 dX11_findList_40 hl (by decide) rfl (fun ls hl => ?_)
        refine lv_iload_n S.1 S.2.1 dX11_findList_42 rfl (lv_at hl 3 rfl) ?_
        refine lv_istore (lv' := [(5, .int (i32 (x2))), (4, .int (i32 (r10_))), (0, .ref (ad 68)), (1, .int (i32 (x1))), (2, .int (i32 (x2))), (3, .int (i32 (x3)))]) S.1 S.2.1 dX11_findList_43 hl (by decide) rfl (fun ls hl => ?_)
        exact w_X11_findList_L45 S hr hlk hR hdj hk4 Zfuel _ _ _ _ _ _ _ _ _ hF hw hzz8_ hx1 hx2 hx3 hrr10_ hx2 (lv_sub hl [2, 3, 4, 5, 1, 0] rfl)
      · replace hF := ZtP c6_ hF
        refine lv_goto (tgt := 127) S.1 S.2.1 dX11_findList_26 (by decide) ?_
        exact w_X11_findList_b127 S hr hlk hR hdj hk4 _ _ _ _ _ _ _ hF hw hzz3_ hx1 hx2 hx3 (lv_sub hl [0, 1, 2, 3] rfl)
set_option maxRecDepth 100000 in
set_option maxHeartbeats 4000000 in
theorem c_X11_findList {l : Launch} {D : va_G} {cA : Nat → ClassId} {ad : Nat → Nat} (hdj : Zdj ad) {z z1 : ZI} {x1 : Int} {r : Int} (hzz : Zok z) (hx1 : InR x1) (hF : F_X11_findList z x1 = some (r, z1)) : YMi l D cA ad (4) yX11_findList cX11_findList 6 (some .int) [.ref (ad 68), .int (i32 x1)] z r z1 :=
  Zmet hdj (by decide) rfl (Nat.le_of_ble_eq_true rfl) (lv := [(0, .ref (ad 68)), (1, .int (i32 (x1)))]) rfl (fun p e s m args below meth c ls S hr hlk hw hl => by
    have hR : 4 ≤ (Zrm (4)).frames ∧ 60 * (4) ≤ (Zrm (4)).locals := ⟨Nat.le_refl _, Nat.le_refl _⟩
    unfold F_X11_findList at hF
    revert hR
    generalize Zrm (4) = R
    intro hR
    refine lv_iconst (v := i32 0) S.1 S.2.1 dX11_findList_0 ic_0 ?_
    refine lv_istore_n (lv' := [(2, .int (i32 (0))), (0, .ref (ad 68)), (1, .int (i32 (x1)))]) S.1 S.2.1 dX11_findList_1 rfl hl (by decide) rfl (fun ls hl => ?_)
    refine lv_iconst (v := i32 0) S.1 S.2.1 dX11_findList_2 ic_0 ?_
    refine lv_istore_n (lv' := [(3, .int (i32 (0))), (2, .int (i32 (0))), (0, .ref (ad 68)), (1, .int (i32 (x1)))]) S.1 S.2.1 dX11_findList_3 rfl hl (by decide) rfl (fun ls hl => ?_)
    exact w_X11_findList_L4 S hr hlk hR hdj Zfuel _ _ _ _ _ _ _ hF hw hzz hx1 r_0 r_0 (lv_sub hl [2, 3, 1, 0] rfl))
set_option maxRecDepth 100000 in
set_option maxHeartbeats 4000000 in
theorem c_X11_flow {l : Launch} {D : va_G} {cA : Nat → ClassId} {ad : Nat → Nat} (hdj : Zdj ad) {z z1 : ZI} {x1 : Int} {x2 : Int} {r : Int} (hzz : Zok z) (hx1 : InR x1) (hx2 : InR x2) (hF : F_X11_flow z x1 x2 = some (r, z1)) : YMi l D cA ad (3) yX11_flow cX11_flow 4 (some .int) [.ref (ad 68), .int (i32 x1), .int (i32 x2)] z r z1 :=
  Zmet hdj (by decide) rfl (Nat.le_of_ble_eq_true rfl) (lv := [(0, .ref (ad 68)), (1, .int (i32 (x1))), (2, .int (i32 (x2)))]) rfl (fun p e s m args below meth c ls S hr hlk hw hl => by
    have hR : 3 ≤ (Zrm (3)).frames ∧ 60 * (3) ≤ (Zrm (3)).locals := ⟨Nat.le_refl _, Nat.le_refl _⟩
    unfold F_X11_flow at hF
    revert hR
    generalize Zrm (3) = R
    intro hR
    refine lv_iload_n S.1 S.2.1 dX11_flow_0 rfl (lv_at hl 1 rfl) ?_
    obtain ⟨r3_, z1_, h2_, hF⟩ := Ybs hF
    refine YcallSi (rest := []) S hw (c_X11_isCell hdj hzz hx1 h2_) my_X11_isCell ms_X11_isCell ml_X11_211 (Zrr hR (by decide)) ⟨Nat.zero_le _, Nat.zero_le _⟩ hl.1 rfl rfl (Nat.le_of_ble_eq_true rfl) dX11_flow_1 (fun hrr3_ hzz1_ H locs hw => ?_)
    refine Yif_ne (tgt := 13) S hrr3_ dX11_flow_4 (by decide) (fun c4_ => ?_) (fun c4_ => ?_)
    · replace hF := ZtN c4_ hF
      refine lv_iload_n S.1 S.2.1 dX11_flow_13 rfl (lv_at hl 2 rfl) ?_
      refine Yi2l S hx2 dX11_flow_14 ?_
      refine lv_lconst (v := i64 1) S.1 S.2.1 dX11_flow_15 lc_1 ?_
      refine lv_ldc2 (own := RX11) (v := i64 999) S.1 S.2.1 S.2.2.2.1 (S.2.2.2.2 _ yl_X11_256) dX11_flow_16 ?_
      obtain ⟨r7_, z5_, h6_, hF⟩ := Ybs hF
      refine YcallSi (rest := []) S hw (c_X11_out hdj hzz1_ (InR_L hx2) (InR_L r_1) (InR_L r_999) h6_) my_X11_out ms_X11_out ml_X11_203 (Zrr hR (by decide)) ⟨Nat.zero_le _, Nat.zero_le _⟩ hl.1 rfl rfl (Nat.le_of_ble_eq_true rfl) dX11_flow_19 (fun hrr7_ hzz5_ H locs hw => ?_)
      refine lv_istore_n (lv' := [(3, .int (i32 (r7_))), (0, .ref (ad 68)), (1, .int (i32 (x1))), (2, .int (i32 (x2)))]) S.1 S.2.1 dX11_flow_22 rfl hl (by decide) rfl (fun ls hl => ?_)
      refine lv_iload_n S.1 S.2.1 dX11_flow_23 rfl (lv_at hl 0 rfl) ?_
      refine Yif_eq (tgt := 33) S hrr7_ dX11_flow_24 (by decide) (fun c8_ => ?_) (fun c8_ => ?_)
      · replace hF := ZtP c8_ hF
        refine lv_aload_n S.1 S.2.1 dX11_flow_33 rfl (lv_at hl 1 rfl) ?_
        obtain ⟨r11_, z9_, h10_, hF⟩ := Ybs hF
        refine YcallVv (rest := []) S hw (c_X11_findDown hdj hzz5_  h10_) my_X11_findDown mi_X11_findDown ml_X11_415 zd_68 zc_X11 rfl (Zrr hR (by decide)) ⟨Nat.zero_le _, Nat.zero_le _⟩ hl.1 rfl rfl (Nat.le_of_ble_eq_true rfl) dX11_flow_34 (fun hzz9_ H locs hw => ?_)
        refine lv_aload_n S.1 S.2.1 dX11_flow_37 rfl (lv_at hl 1 rfl) ?_
        refine lv_iload_n S.1 S.2.1 dX11_flow_38 rfl (lv_at hl 3 rfl) ?_
        refine lv_iconst (v := i32 0) S.1 S.2.1 dX11_flow_39 ic_0 ?_
        obtain ⟨r14_, z12_, h13_, hF⟩ := Ybs hF
        refine YcallVv (rest := []) S hw (c_X11_rains hdj hzz9_ hx2 r_0 h13_) my_X11_rains mi_X11_rains ml_X11_418 zd_68 zc_X11 rfl (Zrr hR (by decide)) ⟨Nat.zero_le _, Nat.zero_le _⟩ hl.1 rfl rfl (Nat.le_of_ble_eq_true rfl) dX11_flow_40 (fun hzz12_ H locs hw => ?_)
        refine lv_aload_n S.1 S.2.1 dX11_flow_43 rfl (lv_at hl 1 rfl) ?_
        refine gf_X11_138 S hw dX11_flow_44 ?_
        refine lv_iload_n S.1 S.2.1 dX11_flow_47 rfl (lv_at hl 2 rfl) ?_
        obtain ⟨b15_, hF⟩ := Zgs hF
        refine Yiald S hw zd_111 (by decide) hx1 b15_ dX11_flow_48 ?_
        exact Yireti S hw hzz12_ (hzz12_.1 _ _ (by decide)) hr hlk hF dX11_flow_49
      · replace hF := ZtN c8_ hF
        refine lv_aload_n S.1 S.2.1 dX11_flow_27 rfl (lv_at hl 1 rfl) ?_
        refine lv_iload_n S.1 S.2.1 dX11_flow_28 rfl (lv_at hl 0 rfl) ?_
        obtain ⟨r18_, z16_, h17_, hF⟩ := Ybs hF
        refine YcallVi (rest := []) S hw (c_X11_no hdj hzz5_ hrr7_ h17_) my_X11_no mi_X11_no ml_X11_207 zd_68 zc_X11 rfl (Zrr hR (by decide)) ⟨Nat.zero_le _, Nat.zero_le _⟩ hl.1 rfl rfl (Nat.le_of_ble_eq_true rfl) dX11_flow_29 (fun hrr18_ hzz16_ H locs hw => ?_)
        exact Yireti S hw hzz16_ hrr18_ hr hlk hF dX11_flow_32
    · replace hF := ZtP c4_ hF
      refine lv_aload_n S.1 S.2.1 dX11_flow_7 rfl (lv_at hl 0 rfl) ?_
      refine lv_iconst (v := i32 (-1)) S.1 S.2.1 dX11_flow_8 ic_m1 ?_
      obtain ⟨r21_, z19_, h20_, hF⟩ := Ybs hF
      refine YcallVi (rest := []) S hw (c_X11_no hdj hzz1_ r_m1 h20_) my_X11_no mi_X11_no ml_X11_207 zd_68 zc_X11 rfl (Zrr hR (by decide)) ⟨Nat.zero_le _, Nat.zero_le _⟩ hl.1 rfl rfl (Nat.le_of_ble_eq_true rfl) dX11_flow_9 (fun hrr21_ hzz19_ H locs hw => ?_)
      exact Yireti S hw hzz19_ hrr21_ hr hlk hF dX11_flow_12)
set_option maxRecDepth 100000 in
set_option maxHeartbeats 4000000 in
theorem w_X11_foul_b34 {RR : Int × ZI} (S : CallFix p m c cX11_foul 4 s args Ztbl RX11) (hr : meth.sig.returnType = some .int) (hlk : meth.locks = false) (hR : 3 ≤ R.frames ∧ 60 * (3) ≤ R.locals) (hdj : Zdj ad) : ∀ (z : ZI) (x1 : Int) (x2 : Int) (x3 : Int) (H : Heap) (locs : List Loc) (ls : Array Slot), X11_foul_b34 z x1 x2 x3 = some RR → ZW D cA ad (ZA ad) (Zc z) s H locs → Zok z → InR x1 → InR x2 → InR x3 → lv_has ls 4 [(0, .ref (ad 68)), (1, .int (i32 (x1))), (2, .int (i32 (x2))), (3, .int (i32 (x3)))] → W p l e R s m args below meth c H locs 0 0 (MQ below (YQi D cA ad RR.1 RR.2) args s 0 0 (ZA ad)) (F0 m 34 ls []) := by
  intro z x1 x2 x3 H locs ls hF hw hzz hx1 hx2 hx3 hl
  unfold X11_foul_b34 at hF
  refine lv_iload_n S.1 S.2.1 dX11_foul_34 rfl (lv_at hl 3 rfl) ?_
  refine Yif_eq (tgt := 44) S hx3 dX11_foul_35 (by decide) (fun c1_ => ?_) (fun c1_ => ?_)
  · replace hF := ZtP c1_ hF
    refine lv_aload_n S.1 S.2.1 dX11_foul_44 rfl (lv_at hl 0 rfl) ?_
    obtain ⟨r4_, z2_, h3_, hF⟩ := Ybs hF
    refine YcallVv (rest := []) S hw (c_X11_findDown hdj hzz  h3_) my_X11_findDown mi_X11_findDown ml_X11_415 zd_68 zc_X11 rfl (Zrr hR (by decide)) ⟨Nat.zero_le _, Nat.zero_le _⟩ hl.1 rfl rfl (Nat.le_of_ble_eq_true rfl) dX11_foul_45 (fun hzz2_ H locs hw => ?_)
    refine lv_aload_n S.1 S.2.1 dX11_foul_48 rfl (lv_at hl 0 rfl) ?_
    refine lv_iload_n S.1 S.2.1 dX11_foul_49 rfl (lv_at hl 1 rfl) ?_
    refine lv_iload_n S.1 S.2.1 dX11_foul_50 rfl (lv_at hl 2 rfl) ?_
    obtain ⟨r7_, z5_, h6_, hF⟩ := Ybs hF
    refine YcallVi (rest := []) S hw (c_X11_foulWells hdj hzz2_ hx1 hx2 h6_) my_X11_foulWells mi_X11_foulWells ml_X11_421 zd_68 zc_X11 rfl (Zrr hR (by decide)) ⟨Nat.zero_le _, Nat.zero_le _⟩ hl.1 rfl rfl (Nat.le_of_ble_eq_true rfl) dX11_foul_51 (fun hrr7_ hzz5_ H locs hw => ?_)
    exact Yireti S hw hzz5_ hrr7_ hr hlk hF dX11_foul_54
  · replace hF := ZtN c1_ hF
    refine lv_aload_n S.1 S.2.1 dX11_foul_38 rfl (lv_at hl 0 rfl) ?_
    refine lv_iload_n S.1 S.2.1 dX11_foul_39 rfl (lv_at hl 3 rfl) ?_
    obtain ⟨r10_, z8_, h9_, hF⟩ := Ybs hF
    refine YcallVi (rest := []) S hw (c_X11_no hdj hzz hx3 h9_) my_X11_no mi_X11_no ml_X11_207 zd_68 zc_X11 rfl (Zrr hR (by decide)) ⟨Nat.zero_le _, Nat.zero_le _⟩ hl.1 rfl rfl (Nat.le_of_ble_eq_true rfl) dX11_foul_40 (fun hrr10_ hzz8_ H locs hw => ?_)
    exact Yireti S hw hzz8_ hrr10_ hr hlk hF dX11_foul_43
set_option maxRecDepth 100000 in
set_option maxHeartbeats 4000000 in
theorem c_X11_foul {l : Launch} {D : va_G} {cA : Nat → ClassId} {ad : Nat → Nat} (hdj : Zdj ad) {z z1 : ZI} {x1 : Int} {x2 : Int} {r : Int} (hzz : Zok z) (hx1 : InR x1) (hx2 : InR x2) (hF : F_X11_foul z x1 x2 = some (r, z1)) : YMi l D cA ad (3) yX11_foul cX11_foul 4 (some .int) [.ref (ad 68), .int (i32 x1), .int (i32 x2)] z r z1 :=
  Zmet hdj (by decide) rfl (Nat.le_of_ble_eq_true rfl) (lv := [(0, .ref (ad 68)), (1, .int (i32 (x1))), (2, .int (i32 (x2)))]) rfl (fun p e s m args below meth c ls S hr hlk hw hl => by
    have hR : 3 ≤ (Zrm (3)).frames ∧ 60 * (3) ≤ (Zrm (3)).locals := ⟨Nat.le_refl _, Nat.le_refl _⟩
    unfold F_X11_foul at hF
    revert hR
    generalize Zrm (3) = R
    intro hR
    refine lv_iload_n S.1 S.2.1 dX11_foul_0 rfl (lv_at hl 1 rfl) ?_
    refine Yi2l S hx1 dX11_foul_1 ?_
    refine lv_lconst (v := i64 1) S.1 S.2.1 dX11_foul_2 lc_1 ?_
    refine lv_ldc2 (own := RX11) (v := i64 999) S.1 S.2.1 S.2.2.2.1 (S.2.2.2.2 _ yl_X11_256) dX11_foul_3 ?_
    obtain ⟨r3_, z1_, h2_, hF⟩ := Ybs hF
    refine YcallSi (rest := []) S hw (c_X11_out hdj hzz (InR_L hx1) (InR_L r_1) (InR_L r_999) h2_) my_X11_out ms_X11_out ml_X11_203 (Zrr hR (by decide)) ⟨Nat.zero_le _, Nat.zero_le _⟩ hl.1 rfl rfl (Nat.le_of_ble_eq_true rfl) dX11_foul_6 (fun hrr3_ hzz1_ H locs hw => ?_)
    refine lv_istore_n (lv' := [(3, .int (i32 (r3_))), (0, .ref (ad 68)), (1, .int (i32 (x1))), (2, .int (i32 (x2)))]) S.1 S.2.1 dX11_foul_9 rfl hl (by decide) rfl (fun ls hl => ?_)
    refine lv_iload_n S.1 S.2.1 dX11_foul_10 rfl (lv_at hl 0 rfl) ?_
    refine Yif_ne (tgt := 34) S hrr3_ dX11_foul_11 (by decide) (fun c4_ => ?_) (fun c4_ => ?_)
    · replace hF := ZtN c4_ hF
      exact w_X11_foul_b34 S hr hlk hR hdj _ _ _ _ _ _ _ hF hw hzz1_ hx1 hx2 hrr3_ (lv_sub hl [1, 2, 3, 0] rfl)
    · replace hF := ZtP c4_ hF
      refine lv_iload_n S.1 S.2.1 dX11_foul_14 rfl (lv_at hl 3 rfl) ?_
      refine Yi2l S hx2 dX11_foul_15 ?_
      refine lv_lconst (v := i64 0) S.1 S.2.1 dX11_foul_16 lc_0 ?_
      refine lv_iconst (v := i32 1) S.1 S.2.1 dX11_foul_17 ic_1 ?_
      refine lv_aload_n S.1 S.2.1 dX11_foul_18 rfl (lv_at hl 1 rfl) ?_
      refine gg_X11_412 S hw dX11_foul_19 ?_
      refine Yishl S dX11_foul_22 ?_
      refine lv_iconst (v := i32 1) S.1 S.2.1 dX11_foul_23 ic_1 ?_
      obtain ⟨g5_, hF⟩ := Zgs hF
      refine Yisub S dX11_foul_24 ?_
      refine Yi2l S g5_ dX11_foul_25 ?_
      obtain ⟨r8_, z6_, h7_, hF⟩ := Ybs hF
      refine YcallSi (rest := []) S hw (c_X11_isIn hdj hzz1_ (InR_L hx2) (InR_L r_0) (InR_L g5_) h7_) my_X11_isIn ms_X11_isIn ml_X11_226 (Zrr hR (by decide)) ⟨Nat.zero_le _, Nat.zero_le _⟩ hl.1 rfl rfl (Nat.le_of_ble_eq_true rfl) dX11_foul_26 (fun hrr8_ hzz6_ H locs hw => ?_)
      refine Yif_ne (tgt := 34) S hrr8_ dX11_foul_29 (by decide) (fun c9_ => ?_) (fun c9_ => ?_)
      · replace hF := ZtN c9_ hF
        exact w_X11_foul_b34 S hr hlk hR hdj _ _ _ _ _ _ _ hF hw hzz6_ hx1 hx2 hrr3_ (lv_sub hl [1, 2, 3, 0] rfl)
      · replace hF := ZtP c9_ hF
        refine lv_iconst (v := i32 (-1)) S.1 S.2.1 dX11_foul_32 ic_m1 ?_
        refine lv_istore_n (lv' := [(3, .int (i32 ((-1)))), (0, .ref (ad 68)), (1, .int (i32 (x1))), (2, .int (i32 (x2)))]) S.1 S.2.1 dX11_foul_33 rfl hl (by decide) rfl (fun ls hl => ?_)
        exact w_X11_foul_b34 S hr hlk hR hdj _ _ _ _ _ _ _ hF hw hzz6_ hx1 hx2 r_m1 (lv_sub hl [1, 2, 3, 0] rfl))
set_option maxRecDepth 100000 in
set_option maxHeartbeats 4000000 in
theorem w_X11_placeOf_b28 {RR : Int × ZI} (S : CallFix p m c cX11_placeOf 4 s args Ztbl RX11) (hr : meth.sig.returnType = some .int) (hlk : meth.locks = false) (hR : 0 ≤ R.frames ∧ 60 * (0) ≤ R.locals) (hdj : Zdj ad) {k5 : ZI → Int → Int → Int → Option (Int × ZI)} (hk5 : ∀ (z : ZI) (x1 : Int) (x2 : Int) (x3 : Int) (H : Heap) (locs : List Loc) (ls : Array Slot), k5 z x1 x2 x3 = some RR → ZW D cA ad (ZA ad) (Zc z) s H locs → Zok z → InR x1 → InR x2 → InR x3 → lv_has ls 4 [(0, .ref (ad 68)), (1, .int (i32 (x1))), (2, .int (i32 (x2))), (3, .int (i32 (x3)))] → W p l e R s m args below meth c H locs 0 0 (MQ below (YQi D cA ad RR.1 RR.2) args s 0 0 (ZA ad)) (F0 m 5 ls [])) : ∀ (z : ZI) (x1 : Int) (x3 : Int) (y0 : Int) (H : Heap) (locs : List Loc) (ls : Array Slot), X11_placeOf_b28 k5 z x1 x3 y0 = some RR → ZW D cA ad (ZA ad) (Zc z) s H locs → Zok z → InR x1 → InR x3 → InR y0 → lv_has ls 4 [(0, .ref (ad 68)), (1, .int (i32 (x1))), (3, .int (i32 (x3)))] → W p l e R s m args below meth c H locs 0 0 (MQ below (YQi D cA ad RR.1 RR.2) args s 0 0 (ZA ad)) (F0 m 28 ls [.int (i32 (y0))]) := by
  intro z x1 x3 y0 H locs ls hF hw hzz hx1 hx3 hy0 hl
  unfold X11_placeOf_b28 at hF
  refine lv_istore_n (lv' := [(2, .int (i32 (y0))), (0, .ref (ad 68)), (1, .int (i32 (x1))), (3, .int (i32 (x3)))]) S.1 S.2.1 dX11_placeOf_28 rfl hl (by decide) rfl (fun ls hl => ?_)
  obtain ⟨g1_, hF⟩ := Zgs hF
  refine lv_iinc (v := i32 (x3 + 1)) (lv' := [(3, .int (i32 (x3 + 1))), (2, .int (i32 (y0))), (0, .ref (ad 68)), (1, .int (i32 (x1)))]) S.1 S.2.1 dX11_placeOf_29 hl (k := 3) rfl Yiinc (by decide) rfl (fun ls hl => ?_)
  refine lv_goto (tgt := 5) S.1 S.2.1 dX11_placeOf_32 (by decide) ?_
  exact hk5 _ _ _ _ _ _ _ hF hw hzz hx1 hy0 g1_ (lv_sub hl [2, 3, 1, 0] rfl)
set_option maxRecDepth 100000 in
set_option maxHeartbeats 4000000 in
theorem w_X11_placeOf_L5 {RR : Int × ZI} (S : CallFix p m c cX11_placeOf 4 s args Ztbl RX11) (hr : meth.sig.returnType = some .int) (hlk : meth.locks = false) (hR : 0 ≤ R.frames ∧ 60 * (0) ≤ R.locals) (hdj : Zdj ad) : ∀ (n : Nat) (z : ZI) (x1 : Int) (x2 : Int) (x3 : Int) (H : Heap) (locs : List Loc) (ls : Array Slot), X11_placeOf_L5 n z x1 x2 x3 = some RR → ZW D cA ad (ZA ad) (Zc z) s H locs → Zok z → InR x1 → InR x2 → InR x3 → lv_has ls 4 [(0, .ref (ad 68)), (1, .int (i32 (x1))), (2, .int (i32 (x2))), (3, .int (i32 (x3)))] → W p l e R s m args below meth c H locs 0 0 (MQ below (YQi D cA ad RR.1 RR.2) args s 0 0 (ZA ad)) (F0 m 5 ls []) := by
  intro n
  induction n with
  | zero => intro z x1 x2 x3 H locs ls hF; exact nomatch hF
  | succ n hk5 =>
    intro z x1 x2 x3 H locs ls hF hw hzz hx1 hx2 hx3 hl
    replace hF : X11_placeOf_L5b (X11_placeOf_L5 n) z x1 x2 x3 = some RR := hF
    unfold X11_placeOf_L5b at hF
    refine lv_iload_n S.1 S.2.1 dX11_placeOf_5 rfl (lv_at hl 3 rfl) ?_
    refine lv_aload_n S.1 S.2.1 dX11_placeOf_6 rfl (lv_at hl 0 rfl) ?_
    refine gg_X11_442 S hw dX11_placeOf_7 ?_
    refine Yicmp_ge (tgt := 35) S hx3 (hzz.1 68 78 (by decide)) dX11_placeOf_10 (by decide) (fun c1_ => ?_) (fun c1_ => ?_)
    · replace hF := ZtP c1_ hF
      refine lv_iload_n S.1 S.2.1 dX11_placeOf_35 rfl (lv_at hl 2 rfl) ?_
      exact Yireti S hw hzz hx2 hr hlk hF dX11_placeOf_36
    · replace hF := ZtN c1_ hF
      refine lv_aload_n S.1 S.2.1 dX11_placeOf_13 rfl (lv_at hl 0 rfl) ?_
      refine gf_X11_171 S hw dX11_placeOf_14 ?_
      refine lv_iload_n S.1 S.2.1 dX11_placeOf_17 rfl (lv_at hl 3 rfl) ?_
      obtain ⟨b2_, hF⟩ := Zgs hF
      refine Yiald S hw zd_122 (by decide) hx3 b2_ dX11_placeOf_18 ?_
      refine lv_iload_n S.1 S.2.1 dX11_placeOf_19 rfl (lv_at hl 1 rfl) ?_
      refine Yicmp_ne (tgt := 27) S (hzz.1 _ _ (by decide)) hx1 dX11_placeOf_20 (by decide) (fun c3_ => ?_) (fun c3_ => ?_)
      · replace hF := ZtN c3_ hF
        refine lv_iload_n S.1 S.2.1 dX11_placeOf_27 rfl (lv_at hl 2 rfl) ?_
        exact w_X11_placeOf_b28 S hr hlk hR hdj hk5 _ _ _ _ _ _ _ hF hw hzz hx1 hx3 hx2 (lv_sub hl [0, 1, 3] rfl)
      · replace hF := ZtP c3_ hF
        refine lv_iload_n S.1 S.2.1 dX11_placeOf_23 rfl (lv_at hl 3 rfl) ?_
        refine lv_goto (tgt := 28) S.1 S.2.1 dX11_placeOf_24 (by decide) ?_
        exact w_X11_placeOf_b28 S hr hlk hR hdj hk5 _ _ _ _ _ _ _ hF hw hzz hx1 hx3 hx3 (lv_sub hl [0, 1, 3] rfl)
set_option maxRecDepth 100000 in
set_option maxHeartbeats 4000000 in
theorem c_X11_placeOf {l : Launch} {D : va_G} {cA : Nat → ClassId} {ad : Nat → Nat} (hdj : Zdj ad) {z z1 : ZI} {x1 : Int} {r : Int} (hzz : Zok z) (hx1 : InR x1) (hF : F_X11_placeOf z x1 = some (r, z1)) : YMi l D cA ad (0) yX11_placeOf cX11_placeOf 4 (some .int) [.ref (ad 68), .int (i32 x1)] z r z1 :=
  Zmet hdj (by decide) rfl (Nat.le_of_ble_eq_true rfl) (lv := [(0, .ref (ad 68)), (1, .int (i32 (x1)))]) rfl (fun p e s m args below meth c ls S hr hlk hw hl => by
    have hR : 0 ≤ (Zrm (0)).frames ∧ 60 * (0) ≤ (Zrm (0)).locals := ⟨Nat.le_refl _, Nat.le_refl _⟩
    unfold F_X11_placeOf at hF
    revert hR
    generalize Zrm (0) = R
    intro hR
    refine lv_bipush (v := i32 (-9)) S.1 S.2.1 dX11_placeOf_0 bp_m9 ?_
    refine lv_istore_n (lv' := [(2, .int (i32 ((-9)))), (0, .ref (ad 68)), (1, .int (i32 (x1)))]) S.1 S.2.1 dX11_placeOf_2 rfl hl (by decide) rfl (fun ls hl => ?_)
    refine lv_iconst (v := i32 0) S.1 S.2.1 dX11_placeOf_3 ic_0 ?_
    refine lv_istore_n (lv' := [(3, .int (i32 (0))), (2, .int (i32 ((-9)))), (0, .ref (ad 68)), (1, .int (i32 (x1)))]) S.1 S.2.1 dX11_placeOf_4 rfl hl (by decide) rfl (fun ls hl => ?_)
    exact w_X11_placeOf_L5 S hr hlk hR hdj Zfuel _ _ _ _ _ _ _ hF hw hzz hx1 r_m9 r_0 (lv_sub hl [2, 3, 1, 0] rfl))
set_option maxRecDepth 100000 in
set_option maxHeartbeats 4000000 in
theorem w_X11_leaves_b36 {RR : Unit × ZI} (S : CallFix p m c cX11_leaves 3 s args Ztbl RX11) (hr : meth.sig.returnType = none) (hlk : meth.locks = false) (hR : 1 ≤ R.frames ∧ 60 * (1) ≤ R.locals) (hdj : Zdj ad) : ∀ (z : ZI) (H : Heap) (locs : List Loc) (ls : Array Slot), X11_leaves_b36 z  = some RR → ZW D cA ad (ZA ad) (Zc z) s H locs → Zok z → lv_has ls 3 [(0, .ref (ad 68))] → W p l e R s m args below meth c H locs 0 0 (MQ below (YQv D cA ad RR.2) args s 0 0 (ZA ad)) (F0 m 36 ls []) := by
  intro z  H locs ls hF hw hzz  hl
  unfold X11_leaves_b36 at hF
  refine lv_aload_n S.1 S.2.1 dX11_leaves_36 rfl (lv_at hl 0 rfl) ?_
  refine lv_dup S.1 S.2.1 dX11_leaves_37 rfl ?_
  refine gg_X11_442 S hw dX11_leaves_38 ?_
  refine lv_iconst (v := i32 1) S.1 S.2.1 dX11_leaves_41 ic_1 ?_
  obtain ⟨g1_, hF⟩ := Zgs hF
  refine Yisub S dX11_leaves_42 ?_
  refine pp_X11_442 S hw hzz g1_ dX11_leaves_43 (fun z2_ H locs ez hzz2_ hw => ?_)
  replace hF := Zle ez hF; clear ez
  exact Yvret S hw hzz2_ hr hlk hF dX11_leaves_46
set_option maxRecDepth 100000 in
set_option maxHeartbeats 4000000 in
theorem w_X11_leaves_L6 {RR : Unit × ZI} (S : CallFix p m c cX11_leaves 3 s args Ztbl RX11) (hr : meth.sig.returnType = none) (hlk : meth.locks = false) (hR : 1 ≤ R.frames ∧ 60 * (1) ≤ R.locals) (hdj : Zdj ad) : ∀ (n : Nat) (z : ZI) (x2 : Int) (H : Heap) (locs : List Loc) (ls : Array Slot), X11_leaves_L6 n z x2 = some RR → ZW D cA ad (ZA ad) (Zc z) s H locs → Zok z → InR x2 → lv_has ls 3 [(0, .ref (ad 68)), (2, .int (i32 (x2)))] → W p l e R s m args below meth c H locs 0 0 (MQ below (YQv D cA ad RR.2) args s 0 0 (ZA ad)) (F0 m 6 ls []) := by
  intro n
  induction n with
  | zero => intro z x2 H locs ls hF; exact nomatch hF
  | succ n hk6 =>
    intro z x2 H locs ls hF hw hzz hx2 hl
    replace hF : X11_leaves_L6b (X11_leaves_L6 n) z x2 = some RR := hF
    unfold X11_leaves_L6b at hF
    refine lv_iload_n S.1 S.2.1 dX11_leaves_6 rfl (lv_at hl 1 rfl) ?_
    refine lv_aload_n S.1 S.2.1 dX11_leaves_7 rfl (lv_at hl 0 rfl) ?_
    refine gg_X11_442 S hw dX11_leaves_8 ?_
    refine lv_iconst (v := i32 1) S.1 S.2.1 dX11_leaves_11 ic_1 ?_
    obtain ⟨g1_, hF⟩ := Zgs hF
    refine Yisub S dX11_leaves_12 ?_
    refine Yicmp_ge (tgt := 36) S hx2 g1_ dX11_leaves_13 (by decide) (fun c2_ => ?_) (fun c2_ => ?_)
    · replace hF := ZtP c2_ hF
      exact w_X11_leaves_b36 S hr hlk hR hdj _ _ _ _ hF hw hzz  (lv_sub hl [0] rfl)
    · replace hF := ZtN c2_ hF
      refine lv_aload_n S.1 S.2.1 dX11_leaves_16 rfl (lv_at hl 0 rfl) ?_
      refine gf_X11_171 S hw dX11_leaves_17 ?_
      refine lv_iload_n S.1 S.2.1 dX11_leaves_20 rfl (lv_at hl 1 rfl) ?_
      refine lv_aload_n S.1 S.2.1 dX11_leaves_21 rfl (lv_at hl 0 rfl) ?_
      refine gf_X11_171 S hw dX11_leaves_22 ?_
      refine lv_iload_n S.1 S.2.1 dX11_leaves_25 rfl (lv_at hl 1 rfl) ?_
      refine lv_iconst (v := i32 1) S.1 S.2.1 dX11_leaves_26 ic_1 ?_
      obtain ⟨g3_, hF⟩ := Zgs hF
      refine Yiadd S dX11_leaves_27 ?_
      obtain ⟨b4_, hF⟩ := Zgs hF
      refine Yiald S hw zd_122 (by decide) g3_ b4_ dX11_leaves_28 ?_
      obtain ⟨b5_, hF⟩ := Zgs hF
      refine Yiast S hw hzz zd_122 (by decide) hx2 (hzz.1 _ _ (by decide)) b5_ dX11_leaves_29 (fun z6_ H locs ez hzz6_ hw => ?_)
      replace hF := Zle ez hF; clear ez
      obtain ⟨g7_, hF⟩ := Zgs hF
      refine lv_iinc (v := i32 (x2 + 1)) (lv' := [(2, .int (i32 (x2 + 1))), (0, .ref (ad 68))]) S.1 S.2.1 dX11_leaves_30 hl (k := 1) rfl Yiinc (by decide) rfl (fun ls hl => ?_)
      refine lv_goto (tgt := 6) S.1 S.2.1 dX11_leaves_33 (by decide) ?_
      exact hk6 _ _ _ _ _ hF hw hzz6_ g7_ (lv_sub hl [1, 0] rfl)
set_option maxRecDepth 100000 in
set_option maxHeartbeats 4000000 in
theorem c_X11_leaves {l : Launch} {D : va_G} {cA : Nat → ClassId} {ad : Nat → Nat} (hdj : Zdj ad) {z z1 : ZI} {x1 : Int} (hzz : Zok z) (hx1 : InR x1) (hF : F_X11_leaves z x1 = some ((), z1)) : YMv l D cA ad (1) yX11_leaves cX11_leaves 3 [.ref (ad 68), .int (i32 x1)] z z1 :=
  Zmet hdj (by decide) rfl (Nat.le_of_ble_eq_true rfl) (lv := [(0, .ref (ad 68)), (1, .int (i32 (x1)))]) rfl (fun p e s m args below meth c ls S hr hlk hw hl => by
    have hR : 1 ≤ (Zrm (1)).frames ∧ 60 * (1) ≤ (Zrm (1)).locals := ⟨Nat.le_refl _, Nat.le_refl _⟩
    unfold F_X11_leaves at hF
    revert hR
    generalize Zrm (1) = R
    intro hR
    refine lv_aload_n S.1 S.2.1 dX11_leaves_0 rfl (lv_at hl 0 rfl) ?_
    refine lv_iload_n S.1 S.2.1 dX11_leaves_1 rfl (lv_at hl 1 rfl) ?_
    obtain ⟨r3_, z1_, h2_, hF⟩ := Ybs hF
    refine YcallVi (rest := []) S hw (c_X11_placeOf hdj hzz hx1 h2_) my_X11_placeOf mi_X11_placeOf ml_X11_445 zd_68 zc_X11 rfl (Zrr hR (by decide)) ⟨Nat.zero_le _, Nat.zero_le _⟩ hl.1 rfl rfl (Nat.le_of_ble_eq_true rfl) dX11_leaves_2 (fun hrr3_ hzz1_ H locs hw => ?_)
    refine lv_istore_n (lv' := [(2, .int (i32 (r3_))), (0, .ref (ad 68)), (1, .int (i32 (x1)))]) S.1 S.2.1 dX11_leaves_5 rfl hl (by decide) rfl (fun ls hl => ?_)
    exact w_X11_leaves_L6 S hr hlk hR hdj Zfuel _ _ _ _ _ hF hw hzz1_ hrr3_ (lv_sub hl [1, 0] rfl))
set_option maxRecDepth 100000 in
set_option maxHeartbeats 4000000 in
theorem w_X11_goes_L64 {RR : Int × ZI} (S : CallFix p m c cX11_goes 6 s args Ztbl RX11) (hr : meth.sig.returnType = some .int) (hlk : meth.locks = false) (hR : 5 ≤ R.frames ∧ 60 * (5) ≤ R.locals) (hdj : Zdj ad) : ∀ (n : Nat) (z : ZI) (x4 : Int) (x5 : Int) (H : Heap) (locs : List Loc) (ls : Array Slot), X11_goes_L64 n z x4 x5 = some RR → ZW D cA ad (ZA ad) (Zc z) s H locs → Zok z → InR x4 → InR x5 → lv_has ls 6 [(0, .ref (ad 68)), (4, .int (i32 (x4))), (5, .int (i32 (x5)))] → W p l e R s m args below meth c H locs 0 0 (MQ below (YQi D cA ad RR.1 RR.2) args s 0 0 (ZA ad)) (F0 m 64 ls []) := by
  intro n
  induction n with
  | zero => intro z x4 x5 H locs ls hF; exact nomatch hF
  | succ n hk64 =>
    intro z x4 x5 H locs ls hF hw hzz hx4 hx5 hl
    replace hF : X11_goes_L64b (X11_goes_L64 n) z x4 x5 = some RR := hF
    unfold X11_goes_L64b at hF
    refine lv_iload S.1 S.2.1 dX11_goes_64 (lv_at hl 2 rfl) ?_
    refine lv_iload S.1 S.2.1 dX11_goes_66 (lv_at hl 1 rfl) ?_
    refine Yicmp_ge (tgt := 100) S hx5 hx4 dX11_goes_68 (by decide) (fun c1_ => ?_) (fun c1_ => ?_)
    · replace hF := ZtP c1_ hF
      refine lv_iload S.1 S.2.1 dX11_goes_100 (lv_at hl 1 rfl) ?_
      exact Yireti S hw hzz hx4 hr hlk hF dX11_goes_102
    · replace hF := ZtN c1_ hF
      refine lv_aload_n S.1 S.2.1 dX11_goes_71 rfl (lv_at hl 0 rfl) ?_
      refine lv_aload_n S.1 S.2.1 dX11_goes_72 rfl (lv_at hl 0 rfl) ?_
      refine gf_X11_174 S hw dX11_goes_73 ?_
      refine lv_iload S.1 S.2.1 dX11_goes_76 (lv_at hl 2 rfl) ?_
      obtain ⟨b2_, hF⟩ := Zgs hF
      refine Yiald S hw zd_123 (by decide) hx5 b2_ dX11_goes_78 ?_
      refine lv_iconst (v := i32 3) S.1 S.2.1 dX11_goes_79 ic_3 ?_
      obtain ⟨r5_, z3_, h4_, hF⟩ := Ybs hF
      refine YcallVv (rest := []) S hw (c_X11_becomes hdj hzz (hzz.1 _ _ (by decide)) r_3 h4_) my_X11_becomes mi_X11_becomes ml_X11_248 zd_68 zc_X11 rfl (Zrr hR (by decide)) ⟨Nat.zero_le _, Nat.zero_le _⟩ hl.1 rfl rfl (Nat.le_of_ble_eq_true rfl) dX11_goes_80 (fun hzz3_ H locs hw => ?_)
      refine lv_aload_n S.1 S.2.1 dX11_goes_83 rfl (lv_at hl 0 rfl) ?_
      refine lv_aload_n S.1 S.2.1 dX11_goes_84 rfl (lv_at hl 0 rfl) ?_
      refine gf_X11_174 S hw dX11_goes_85 ?_
      refine lv_iload S.1 S.2.1 dX11_goes_88 (lv_at hl 2 rfl) ?_
      obtain ⟨b6_, hF⟩ := Zgs hF
      refine Yiald S hw zd_123 (by decide) hx5 b6_ dX11_goes_90 ?_
      obtain ⟨r9_, z7_, h8_, hF⟩ := Ybs hF
      refine YcallVv (rest := []) S hw (c_X11_leaves hdj hzz3_ (hzz3_.1 _ _ (by decide)) h8_) my_X11_leaves mi_X11_leaves ml_X11_448 zd_68 zc_X11 rfl (Zrr hR (by decide)) ⟨Nat.zero_le _, Nat.zero_le _⟩ hl.1 rfl rfl (Nat.le_of_ble_eq_true rfl) dX11_goes_91 (fun hzz7_ H locs hw => ?_)
      obtain ⟨g10_, hF⟩ := Zgs hF
      refine lv_iinc (v := i32 (x5 + 1)) (lv' := [(5, .int (i32 (x5 + 1))), (0, .ref (ad 68)), (4, .int (i32 (x4)))]) S.1 S.2.1 dX11_goes_94 hl (k := 2) rfl Yiinc (by decide) rfl (fun ls hl => ?_)
      refine lv_goto (tgt := 64) S.1 S.2.1 dX11_goes_97 (by decide) ?_
      exact hk64 _ _ _ _ _ _ hF hw hzz7_ hx4 g10_ (lv_sub hl [1, 2, 0] rfl)
set_option maxRecDepth 100000 in
set_option maxHeartbeats 4000000 in
theorem w_X11_goes_b39 {RR : Int × ZI} (S : CallFix p m c cX11_goes 6 s args Ztbl RX11) (hr : meth.sig.returnType = some .int) (hlk : meth.locks = false) (hR : 5 ≤ R.frames ∧ 60 * (5) ≤ R.locals) (hdj : Zdj ad) : ∀ (z : ZI) (y0 : Int) (H : Heap) (locs : List Loc) (ls : Array Slot), X11_goes_b39 z y0 = some RR → ZW D cA ad (ZA ad) (Zc z) s H locs → Zok z → InR y0 → lv_has ls 6 [(0, .ref (ad 68))] → W p l e R s m args below meth c H locs 0 0 (MQ below (YQi D cA ad RR.1 RR.2) args s 0 0 (ZA ad)) (F0 m 39 ls [.int (i32 (y0))]) := by
  intro z y0 H locs ls hF hw hzz hy0 hl
  unfold X11_goes_b39 at hF
  refine lv_istore (lv' := [(4, .int (i32 (y0))), (0, .ref (ad 68))]) S.1 S.2.1 dX11_goes_39 hl (by decide) rfl (fun ls hl => ?_)
  refine lv_aload_n S.1 S.2.1 dX11_goes_41 rfl (lv_at hl 1 rfl) ?_
  refine gg_X11_240 S hw dX11_goes_42 ?_
  refine lv_iload S.1 S.2.1 dX11_goes_45 (lv_at hl 0 rfl) ?_
  obtain ⟨g1_, hF⟩ := Zgs hF
  refine Yiadd S dX11_goes_47 ?_
  refine lv_sipush (v := i32 150) S.1 S.2.1 dX11_goes_48 sp_150 ?_
  refine Yicmp_le (tgt := 61) S g1_ r_150 dX11_goes_51 (by decide) (fun c2_ => ?_) (fun c2_ => ?_)
  · replace hF := ZtP c2_ hF
    refine lv_iconst (v := i32 0) S.1 S.2.1 dX11_goes_61 ic_0 ?_
    refine lv_istore (lv' := [(5, .int (i32 (0))), (4, .int (i32 (y0))), (0, .ref (ad 68))]) S.1 S.2.1 dX11_goes_62 hl (by decide) rfl (fun ls hl => ?_)
    exact w_X11_goes_L64 S hr hlk hR hdj Zfuel _ _ _ _ _ _ hF hw hzz hy0 r_0 (lv_sub hl [2, 1, 0] rfl)
  · replace hF := ZtN c2_ hF
    refine lv_aload_n S.1 S.2.1 dX11_goes_54 rfl (lv_at hl 1 rfl) ?_
    refine lv_bipush (v := i32 (-6)) S.1 S.2.1 dX11_goes_55 bp_m6 ?_
    obtain ⟨r5_, z3_, h4_, hF⟩ := Ybs hF
    refine YcallVi (rest := []) S hw (c_X11_no hdj hzz r_m6 h4_) my_X11_no mi_X11_no ml_X11_207 zd_68 zc_X11 rfl (Zrr hR (by decide)) ⟨Nat.zero_le _, Nat.zero_le _⟩ hl.1 rfl rfl (Nat.le_of_ble_eq_true rfl) dX11_goes_57 (fun hrr5_ hzz3_ H locs hw => ?_)
    exact Yireti S hw hzz3_ hrr5_ hr hlk hF dX11_goes_60
set_option maxRecDepth 100000 in
set_option maxHeartbeats 4000000 in
theorem c_X11_goes {l : Launch} {D : va_G} {cA : Nat → ClassId} {ad : Nat → Nat} (hdj : Zdj ad) {z z1 : ZI} {x1 : Int} {r : Int} (hzz : Zok z) (hx1 : InR x1) (hF : F_X11_goes z x1 = some (r, z1)) : YMi l D cA ad (5) yX11_goes cX11_goes 6 (some .int) [.ref (ad 68), .int (i32 x1)] z r z1 :=
  Zmet hdj (by decide) rfl (Nat.le_of_ble_eq_true rfl) (lv := [(0, .ref (ad 68)), (1, .int (i32 (x1)))]) rfl (fun p e s m args below meth c ls S hr hlk hw hl => by
    have hR : 5 ≤ (Zrm (5)).frames ∧ 60 * (5) ≤ (Zrm (5)).locals := ⟨Nat.le_refl _, Nat.le_refl _⟩
    unfold F_X11_goes at hF
    revert hR
    generalize Zrm (5) = R
    intro hR
    refine lv_iload_n S.1 S.2.1 dX11_goes_0 rfl (lv_at hl 1 rfl) ?_
    refine Yi2l S hx1 dX11_goes_1 ?_
    refine lv_lconst (v := i64 0) S.1 S.2.1 dX11_goes_2 lc_0 ?_
    refine lv_ldc2 (own := RX11) (v := i64 60) S.1 S.2.1 S.2.2.2.1 (S.2.2.2.2 _ yl_X11_454) dX11_goes_3 ?_
    obtain ⟨r3_, z1_, h2_, hF⟩ := Ybs hF
    refine YcallSi (rest := []) S hw (c_X11_out hdj hzz (InR_L hx1) (InR_L r_0) (InR_L r_60) h2_) my_X11_out ms_X11_out ml_X11_203 (Zrr hR (by decide)) ⟨Nat.zero_le _, Nat.zero_le _⟩ hl.1 rfl rfl (Nat.le_of_ble_eq_true rfl) dX11_goes_6 (fun hrr3_ hzz1_ H locs hw => ?_)
    refine lv_istore_n (lv' := [(2, .int (i32 (r3_))), (0, .ref (ad 68)), (1, .int (i32 (x1)))]) S.1 S.2.1 dX11_goes_9 rfl hl (by decide) rfl (fun ls hl => ?_)
    refine lv_iload_n S.1 S.2.1 dX11_goes_10 rfl (lv_at hl 0 rfl) ?_
    refine Yif_eq (tgt := 20) S hrr3_ dX11_goes_11 (by decide) (fun c4_ => ?_) (fun c4_ => ?_)
    · replace hF := ZtP c4_ hF
      refine lv_aload_n S.1 S.2.1 dX11_goes_20 rfl (lv_at hl 1 rfl) ?_
      refine lv_aload_n S.1 S.2.1 dX11_goes_21 rfl (lv_at hl 1 rfl) ?_
      refine gg_X11_200 S hw dX11_goes_22 ?_
      obtain ⟨r7_, z5_, h6_, hF⟩ := Ybs hF
      refine YcallVi (rest := []) S hw (c_X11_findList hdj hzz1_ (hzz1_.1 68 11 (by decide)) h6_) my_X11_findList mi_X11_findList ml_X11_451 zd_68 zc_X11 rfl (Zrr hR (by decide)) ⟨Nat.zero_le _, Nat.zero_le _⟩ hl.1 rfl rfl (Nat.le_of_ble_eq_true rfl) dX11_goes_25 (fun hrr7_ hzz5_ H locs hw => ?_)
      refine lv_istore_n (lv' := [(3, .int (i32 (r7_))), (2, .int (i32 (r3_))), (0, .ref (ad 68)), (1, .int (i32 (x1)))]) S.1 S.2.1 dX11_goes_28 rfl hl (by decide) rfl (fun ls hl => ?_)
      refine lv_iload_n S.1 S.2.1 dX11_goes_29 rfl (lv_at hl 3 rfl) ?_
      refine lv_iload_n S.1 S.2.1 dX11_goes_30 rfl (lv_at hl 0 rfl) ?_
      refine Yicmp_ge (tgt := 38) S hx1 hrr7_ dX11_goes_31 (by decide) (fun c8_ => ?_) (fun c8_ => ?_)
      · replace hF := ZtP c8_ hF
        refine lv_iload_n S.1 S.2.1 dX11_goes_38 rfl (lv_at hl 0 rfl) ?_
        exact w_X11_goes_b39 S hr hlk hR hdj _ _ _ _ _ hF hw hzz5_ hrr7_ (lv_sub hl [2] rfl)
      · replace hF := ZtN c8_ hF
        refine lv_iload_n S.1 S.2.1 dX11_goes_34 rfl (lv_at hl 3 rfl) ?_
        refine lv_goto (tgt := 39) S.1 S.2.1 dX11_goes_35 (by decide) ?_
        exact w_X11_goes_b39 S hr hlk hR hdj _ _ _ _ _ hF hw hzz5_ hx1 (lv_sub hl [2] rfl)
    · replace hF := ZtN c4_ hF
      refine lv_aload_n S.1 S.2.1 dX11_goes_14 rfl (lv_at hl 1 rfl) ?_
      refine lv_iload_n S.1 S.2.1 dX11_goes_15 rfl (lv_at hl 0 rfl) ?_
      obtain ⟨r11_, z9_, h10_, hF⟩ := Ybs hF
      refine YcallVi (rest := []) S hw (c_X11_no hdj hzz1_ hrr3_ h10_) my_X11_no mi_X11_no ml_X11_207 zd_68 zc_X11 rfl (Zrr hR (by decide)) ⟨Nat.zero_le _, Nat.zero_le _⟩ hl.1 rfl rfl (Nat.le_of_ble_eq_true rfl) dX11_goes_16 (fun hrr11_ hzz9_ H locs hw => ?_)
      exact Yireti S hw hzz9_ hrr11_ hr hlk hF dX11_goes_19)
set_option maxRecDepth 100000 in
set_option maxHeartbeats 4000000 in
theorem w_X11_handed_b73 {RR : Int × ZI} (S : CallFix p m c cX11_handed 5 s args Ztbl RX11) (hr : meth.sig.returnType = some .int) (hlk : meth.locks = false) (hR : 1 ≤ R.frames ∧ 60 * (1) ≤ R.locals) (hdj : Zdj ad) : ∀ (z : ZI) (x2 : Int) (x3 : Int) (y0 : Int) (H : Heap) (locs : List Loc) (ls : Array Slot), X11_handed_b73 z x2 x3 y0 = some RR → ZW D cA ad (ZA ad) (Zc z) s H locs → Zok z → InR x2 → InR x3 → InR y0 → lv_has ls 5 [(0, .ref (ad 68)), (2, .int (i32 (x2))), (3, .int (i32 (x3)))] → W p l e R s m args below meth c H locs 0 0 (MQ below (YQi D cA ad RR.1 RR.2) args s 0 0 (ZA ad)) (F0 m 73 ls [.int (i32 (y0))]) := by
  intro z x2 x3 y0 H locs ls hF hw hzz hx2 hx3 hy0 hl
  unfold X11_handed_b73 at hF
  refine lv_istore (lv' := [(4, .int (i32 (y0))), (0, .ref (ad 68)), (2, .int (i32 (x2))), (3, .int (i32 (x3)))]) S.1 S.2.1 dX11_handed_73 hl (by decide) rfl (fun ls hl => ?_)
  refine lv_iload S.1 S.2.1 dX11_handed_75 (lv_at hl 0 rfl) ?_
  refine Yif_eq (tgt := 87) S hy0 dX11_handed_77 (by decide) (fun c1_ => ?_) (fun c1_ => ?_)
  · replace hF := ZtP c1_ hF
    refine lv_aload_n S.1 S.2.1 dX11_handed_87 rfl (lv_at hl 1 rfl) ?_
    refine gf_X11_77 S hw dX11_handed_88 ?_
    refine lv_aload_n S.1 S.2.1 dX11_handed_91 rfl (lv_at hl 1 rfl) ?_
    refine gg_X11_344 S hw dX11_handed_92 ?_
    refine lv_aload_n S.1 S.2.1 dX11_handed_95 rfl (lv_at hl 1 rfl) ?_
    refine gg_X11_200 S hw dX11_handed_96 ?_
    obtain ⟨b2_, hF⟩ := Zgs hF
    refine Yiast S hw hzz zd_91 (by decide) (hzz.1 68 35 (by decide)) (hzz.1 68 11 (by decide)) b2_ dX11_handed_99 (fun z3_ H locs ez hzz3_ hw => ?_)
    replace hF := Zle ez hF; clear ez
    refine lv_aload_n S.1 S.2.1 dX11_handed_100 rfl (lv_at hl 1 rfl) ?_
    refine gf_X11_80 S hw dX11_handed_101 ?_
    refine lv_aload_n S.1 S.2.1 dX11_handed_104 rfl (lv_at hl 1 rfl) ?_
    refine gg_X11_344 S hw dX11_handed_105 ?_
    refine lv_iload_n S.1 S.2.1 dX11_handed_108 rfl (lv_at hl 2 rfl) ?_
    obtain ⟨b4_, hF⟩ := Zgs hF
    refine Yiast S hw hzz3_ zd_92 (by decide) (hzz3_.1 68 35 (by decide)) hx2 b4_ dX11_handed_109 (fun z5_ H locs ez hzz5_ hw => ?_)
    replace hF := Zle ez hF; clear ez
    refine lv_aload_n S.1 S.2.1 dX11_handed_110 rfl (lv_at hl 1 rfl) ?_
    refine gf_X11_83 S hw dX11_handed_111 ?_
    refine lv_aload_n S.1 S.2.1 dX11_handed_114 rfl (lv_at hl 1 rfl) ?_
    refine gg_X11_344 S hw dX11_handed_115 ?_
    refine lv_iload_n S.1 S.2.1 dX11_handed_118 rfl (lv_at hl 3 rfl) ?_
    obtain ⟨b6_, hF⟩ := Zgs hF
    refine Yiast S hw hzz5_ zd_93 (by decide) (hzz5_.1 68 35 (by decide)) hx3 b6_ dX11_handed_119 (fun z7_ H locs ez hzz7_ hw => ?_)
    replace hF := Zle ez hF; clear ez
    refine lv_aload_n S.1 S.2.1 dX11_handed_120 rfl (lv_at hl 1 rfl) ?_
    refine lv_dup S.1 S.2.1 dX11_handed_121 rfl ?_
    refine gg_X11_344 S hw dX11_handed_122 ?_
    refine lv_iconst (v := i32 1) S.1 S.2.1 dX11_handed_125 ic_1 ?_
    obtain ⟨g8_, hF⟩ := Zgs hF
    refine Yiadd S dX11_handed_126 ?_
    refine pp_X11_344 S hw hzz7_ g8_ dX11_handed_127 (fun z9_ H locs ez hzz9_ hw => ?_)
    replace hF := Zle ez hF; clear ez
    refine lv_aload_n S.1 S.2.1 dX11_handed_130 rfl (lv_at hl 1 rfl) ?_
    refine gg_X11_344 S hw dX11_handed_131 ?_
    exact Yireti S hw hzz9_ (hzz9_.1 68 35 (by decide)) hr hlk hF dX11_handed_134
  · replace hF := ZtN c1_ hF
    refine lv_aload_n S.1 S.2.1 dX11_handed_80 rfl (lv_at hl 1 rfl) ?_
    refine lv_iload S.1 S.2.1 dX11_handed_81 (lv_at hl 0 rfl) ?_
    obtain ⟨r12_, z10_, h11_, hF⟩ := Ybs hF
    refine YcallVi (rest := []) S hw (c_X11_no hdj hzz hy0 h11_) my_X11_no mi_X11_no ml_X11_207 zd_68 zc_X11 rfl (Zrr hR (by decide)) ⟨Nat.zero_le _, Nat.zero_le _⟩ hl.1 rfl rfl (Nat.le_of_ble_eq_true rfl) dX11_handed_83 (fun hrr12_ hzz10_ H locs hw => ?_)
    exact Yireti S hw hzz10_ hrr12_ hr hlk hF dX11_handed_86
set_option maxRecDepth 100000 in
set_option maxHeartbeats 4000000 in
theorem w_X11_handed_b39 {RR : Int × ZI} (S : CallFix p m c cX11_handed 5 s args Ztbl RX11) (hr : meth.sig.returnType = some .int) (hlk : meth.locks = false) (hR : 1 ≤ R.frames ∧ 60 * (1) ≤ R.locals) (hdj : Zdj ad) : ∀ (z : ZI) (x2 : Int) (x3 : Int) (H : Heap) (locs : List Loc) (ls : Array Slot), X11_handed_b39 z x2 x3 = some RR → ZW D cA ad (ZA ad) (Zc z) s H locs → Zok z → InR x2 → InR x3 → lv_has ls 5 [(0, .ref (ad 68)), (2, .int (i32 (x2))), (3, .int (i32 (x3)))] → W p l e R s m args below meth c H locs 0 0 (MQ below (YQi D cA ad RR.1 RR.2) args s 0 0 (ZA ad)) (F0 m 39 ls []) := by
  intro z x2 x3 H locs ls hF hw hzz hx2 hx3 hl
  unfold X11_handed_b39 at hF
  refine lv_bipush (v := i32 (-4)) S.1 S.2.1 dX11_handed_39 bp_m4 ?_
  refine lv_goto (tgt := 73) S.1 S.2.1 dX11_handed_41 (by decide) ?_
  exact w_X11_handed_b73 S hr hlk hR hdj _ _ _ _ _ _ _ hF hw hzz hx2 hx3 r_m4 (lv_sub hl [0, 1, 2] rfl)
set_option maxRecDepth 100000 in
set_option maxHeartbeats 4000000 in
theorem w_X11_handed_b67 {RR : Int × ZI} (S : CallFix p m c cX11_handed 5 s args Ztbl RX11) (hr : meth.sig.returnType = some .int) (hlk : meth.locks = false) (hR : 1 ≤ R.frames ∧ 60 * (1) ≤ R.locals) (hdj : Zdj ad) : ∀ (z : ZI) (x2 : Int) (x3 : Int) (H : Heap) (locs : List Loc) (ls : Array Slot), X11_handed_b67 z x2 x3 = some RR → ZW D cA ad (ZA ad) (Zc z) s H locs → Zok z → InR x2 → InR x3 → lv_has ls 5 [(0, .ref (ad 68)), (2, .int (i32 (x2))), (3, .int (i32 (x3)))] → W p l e R s m args below meth c H locs 0 0 (MQ below (YQi D cA ad RR.1 RR.2) args s 0 0 (ZA ad)) (F0 m 67 ls []) := by
  intro z x2 x3 H locs ls hF hw hzz hx2 hx3 hl
  unfold X11_handed_b67 at hF
  refine lv_bipush (v := i32 (-6)) S.1 S.2.1 dX11_handed_67 bp_m6 ?_
  refine lv_goto (tgt := 73) S.1 S.2.1 dX11_handed_69 (by decide) ?_
  exact w_X11_handed_b73 S hr hlk hR hdj _ _ _ _ _ _ _ hF hw hzz hx2 hx3 r_m6 (lv_sub hl [0, 1, 2] rfl)
set_option maxRecDepth 100000 in
set_option maxHeartbeats 4000000 in
theorem c_X11_handed {l : Launch} {D : va_G} {cA : Nat → ClassId} {ad : Nat → Nat} (hdj : Zdj ad) {z z1 : ZI} {x1 : Int} {x2 : Int} {x3 : Int} {r : Int} (hzz : Zok z) (hx1 : InR x1) (hx2 : InR x2) (hx3 : InR x3) (hF : F_X11_handed z x1 x2 x3 = some (r, z1)) : YMi l D cA ad (1) yX11_handed cX11_handed 5 (some .int) [.ref (ad 68), .int (i32 x1), .int (i32 x2), .int (i32 x3)] z r z1 :=
  Zmet hdj (by decide) rfl (Nat.le_of_ble_eq_true rfl) (lv := [(0, .ref (ad 68)), (1, .int (i32 (x1))), (2, .int (i32 (x2))), (3, .int (i32 (x3)))]) rfl (fun p e s m args below meth c ls S hr hlk hw hl => by
    have hR : 1 ≤ (Zrm (1)).frames ∧ 60 * (1) ≤ (Zrm (1)).locals := ⟨Nat.le_refl _, Nat.le_refl _⟩
    unfold F_X11_handed at hF
    revert hR
    generalize Zrm (1) = R
    intro hR
    refine lv_aload_n S.1 S.2.1 dX11_handed_0 rfl (lv_at hl 0 rfl) ?_
    refine lv_iload_n S.1 S.2.1 dX11_handed_1 rfl (lv_at hl 1 rfl) ?_
    obtain ⟨r3_, z1_, h2_, hF⟩ := Ybs hF
    refine YcallVi (rest := []) S hw (c_X11_isCard hdj hzz hx1 h2_) my_X11_isCard mi_X11_isCard ml_X11_323 zd_68 zc_X11 rfl (Zrr hR (by decide)) ⟨Nat.zero_le _, Nat.zero_le _⟩ hl.1 rfl rfl (Nat.le_of_ble_eq_true rfl) dX11_handed_2 (fun hrr3_ hzz1_ H locs hw => ?_)
    refine Yif_ne (tgt := 14) S hrr3_ dX11_handed_5 (by decide) (fun c4_ => ?_) (fun c4_ => ?_)
    · replace hF := ZtN c4_ hF
      refine lv_aload_n S.1 S.2.1 dX11_handed_14 rfl (lv_at hl 0 rfl) ?_
      refine gf_X11_74 S hw dX11_handed_15 ?_
      refine lv_iload_n S.1 S.2.1 dX11_handed_18 rfl (lv_at hl 1 rfl) ?_
      obtain ⟨b5_, hF⟩ := Zgs hF
      refine Yiald S hw zd_90 (by decide) hx1 b5_ dX11_handed_19 ?_
      refine Yif_lt (tgt := 30) S (hzz1_.1 _ _ (by decide)) dX11_handed_20 (by decide) (fun c6_ => ?_) (fun c6_ => ?_)
      · replace hF := ZtP c6_ hF
        refine lv_iload_n S.1 S.2.1 dX11_handed_30 rfl (lv_at hl 2 rfl) ?_
        refine lv_iconst (v := i32 1) S.1 S.2.1 dX11_handed_31 ic_1 ?_
        refine Yicmp_lt (tgt := 39) S hx2 r_1 dX11_handed_32 (by decide) (fun c7_ => ?_) (fun c7_ => ?_)
        · replace hF := ZtP c7_ hF
          exact w_X11_handed_b39 S hr hlk hR hdj _ _ _ _ _ _ hF hw hzz1_ hx2 hx3 (lv_sub hl [0, 2, 3] rfl)
        · replace hF := ZtN c7_ hF
          refine lv_iload_n S.1 S.2.1 dX11_handed_35 rfl (lv_at hl 3 rfl) ?_
          refine Yif_ge (tgt := 44) S hx3 dX11_handed_36 (by decide) (fun c8_ => ?_) (fun c8_ => ?_)
          · replace hF := ZtP c8_ hF
            refine lv_iload_n S.1 S.2.1 dX11_handed_44 rfl (lv_at hl 2 rfl) ?_
            refine lv_sipush (v := i32 9999) S.1 S.2.1 dX11_handed_45 sp_9999 ?_
            refine Yicmp_gt (tgt := 67) S hx2 r_9999 dX11_handed_48 (by decide) (fun c9_ => ?_) (fun c9_ => ?_)
            · replace hF := ZtP c9_ hF
              exact w_X11_handed_b67 S hr hlk hR hdj _ _ _ _ _ _ hF hw hzz1_ hx2 hx3 (lv_sub hl [0, 2, 3] rfl)
            · replace hF := ZtN c9_ hF
              refine lv_iload_n S.1 S.2.1 dX11_handed_51 rfl (lv_at hl 3 rfl) ?_
              refine lv_sipush (v := i32 9999) S.1 S.2.1 dX11_handed_52 sp_9999 ?_
              refine Yicmp_gt (tgt := 67) S hx3 r_9999 dX11_handed_55 (by decide) (fun c10_ => ?_) (fun c10_ => ?_)
              · replace hF := ZtP c10_ hF
                exact w_X11_handed_b67 S hr hlk hR hdj _ _ _ _ _ _ hF hw hzz1_ hx2 hx3 (lv_sub hl [0, 2, 3] rfl)
              · replace hF := ZtN c10_ hF
                refine lv_aload_n S.1 S.2.1 dX11_handed_58 rfl (lv_at hl 0 rfl) ?_
                refine gg_X11_344 S hw dX11_handed_59 ?_
                refine lv_bipush (v := i32 60) S.1 S.2.1 dX11_handed_62 bp_60 ?_
                refine Yicmp_ne (tgt := 72) S (hzz1_.1 68 35 (by decide)) r_60 dX11_handed_64 (by decide) (fun c11_ => ?_) (fun c11_ => ?_)
                · replace hF := ZtN c11_ hF
                  refine lv_iconst (v := i32 0) S.1 S.2.1 dX11_handed_72 ic_0 ?_
                  exact w_X11_handed_b73 S hr hlk hR hdj _ _ _ _ _ _ _ hF hw hzz1_ hx2 hx3 r_0 (lv_sub hl [0, 2, 3] rfl)
                · replace hF := ZtP c11_ hF
                  exact w_X11_handed_b67 S hr hlk hR hdj _ _ _ _ _ _ hF hw hzz1_ hx2 hx3 (lv_sub hl [0, 2, 3] rfl)
          · replace hF := ZtN c8_ hF
            exact w_X11_handed_b39 S hr hlk hR hdj _ _ _ _ _ _ hF hw hzz1_ hx2 hx3 (lv_sub hl [0, 2, 3] rfl)
      · replace hF := ZtN c6_ hF
        refine lv_aload_n S.1 S.2.1 dX11_handed_23 rfl (lv_at hl 0 rfl) ?_
        refine lv_bipush (v := i32 (-3)) S.1 S.2.1 dX11_handed_24 bp_m3 ?_
        obtain ⟨r14_, z12_, h13_, hF⟩ := Ybs hF
        refine YcallVi (rest := []) S hw (c_X11_no hdj hzz1_ r_m3 h13_) my_X11_no mi_X11_no ml_X11_207 zd_68 zc_X11 rfl (Zrr hR (by decide)) ⟨Nat.zero_le _, Nat.zero_le _⟩ hl.1 rfl rfl (Nat.le_of_ble_eq_true rfl) dX11_handed_26 (fun hrr14_ hzz12_ H locs hw => ?_)
        exact Yireti S hw hzz12_ hrr14_ hr hlk hF dX11_handed_29
    · replace hF := ZtP c4_ hF
      refine lv_aload_n S.1 S.2.1 dX11_handed_8 rfl (lv_at hl 0 rfl) ?_
      refine lv_iconst (v := i32 (-1)) S.1 S.2.1 dX11_handed_9 ic_m1 ?_
      obtain ⟨r17_, z15_, h16_, hF⟩ := Ybs hF
      refine YcallVi (rest := []) S hw (c_X11_no hdj hzz1_ r_m1 h16_) my_X11_no mi_X11_no ml_X11_207 zd_68 zc_X11 rfl (Zrr hR (by decide)) ⟨Nat.zero_le _, Nat.zero_le _⟩ hl.1 rfl rfl (Nat.le_of_ble_eq_true rfl) dX11_handed_10 (fun hrr17_ hzz15_ H locs hw => ?_)
      exact Yireti S hw hzz15_ hrr17_ hr hlk hF dX11_handed_13)
set_option maxRecDepth 100000 in
set_option maxHeartbeats 4000000 in
theorem c_X11_height {l : Launch} {D : va_G} {cA : Nat → ClassId} {ad : Nat → Nat} (hdj : Zdj ad) {z z1 : ZI} {x1 : Int} {x2 : Int} {r : Int} (hzz : Zok z) (hx1 : InR x1) (hx2 : InR x2) (hF : F_X11_height z x1 x2 = some (r, z1)) : YMi l D cA ad (1) yX11_height cX11_height 5 (some .int) [.ref (ad 68), .int (i32 x1), .int (i32 x2)] z r z1 :=
  Zmet hdj (by decide) rfl (Nat.le_of_ble_eq_true rfl) (lv := [(0, .ref (ad 68)), (1, .int (i32 (x1))), (2, .int (i32 (x2)))]) rfl (fun p e s m args below meth c ls S hr hlk hw hl => by
    have hR : 1 ≤ (Zrm (1)).frames ∧ 60 * (1) ≤ (Zrm (1)).locals := ⟨Nat.le_refl _, Nat.le_refl _⟩
    unfold F_X11_height at hF
    revert hR
    generalize Zrm (1) = R
    intro hR
    refine lv_iload_n S.1 S.2.1 dX11_height_0 rfl (lv_at hl 1 rfl) ?_
    obtain ⟨r3_, z1_, h2_, hF⟩ := Ybs hF
    refine YcallSi (rest := []) S hw (c_X11_isCell hdj hzz hx1 h2_) my_X11_isCell ms_X11_isCell ml_X11_211 (Zrr hR (by decide)) ⟨Nat.zero_le _, Nat.zero_le _⟩ hl.1 rfl rfl (Nat.le_of_ble_eq_true rfl) dX11_height_1 (fun hrr3_ hzz1_ H locs hw => ?_)
    refine Yif_ne (tgt := 13) S hrr3_ dX11_height_4 (by decide) (fun c4_ => ?_) (fun c4_ => ?_)
    · replace hF := ZtN c4_ hF
      refine lv_iload_n S.1 S.2.1 dX11_height_13 rfl (lv_at hl 2 rfl) ?_
      refine Yi2l S hx2 dX11_height_14 ?_
      refine lv_lconst (v := i64 0) S.1 S.2.1 dX11_height_15 lc_0 ?_
      refine lv_ldc2 (own := RX11) (v := i64 99) S.1 S.2.1 S.2.2.2.1 (S.2.2.2.2 _ yl_X11_215) dX11_height_16 ?_
      obtain ⟨r7_, z5_, h6_, hF⟩ := Ybs hF
      refine YcallSi (rest := []) S hw (c_X11_out hdj hzz1_ (InR_L hx2) (InR_L r_0) (InR_L r_99) h6_) my_X11_out ms_X11_out ml_X11_203 (Zrr hR (by decide)) ⟨Nat.zero_le _, Nat.zero_le _⟩ hl.1 rfl rfl (Nat.le_of_ble_eq_true rfl) dX11_height_19 (fun hrr7_ hzz5_ H locs hw => ?_)
      refine lv_istore_n (lv' := [(3, .int (i32 (r7_))), (0, .ref (ad 68)), (1, .int (i32 (x1))), (2, .int (i32 (x2)))]) S.1 S.2.1 dX11_height_22 rfl hl (by decide) rfl (fun ls hl => ?_)
      refine lv_iload_n S.1 S.2.1 dX11_height_23 rfl (lv_at hl 0 rfl) ?_
      refine Yif_eq (tgt := 33) S hrr7_ dX11_height_24 (by decide) (fun c8_ => ?_) (fun c8_ => ?_)
      · replace hF := ZtP c8_ hF
        refine lv_aload_n S.1 S.2.1 dX11_height_33 rfl (lv_at hl 1 rfl) ?_
        refine gf_X11_13 S hw dX11_height_34 ?_
        refine lv_iload_n S.1 S.2.1 dX11_height_37 rfl (lv_at hl 2 rfl) ?_
        obtain ⟨b9_, hF⟩ := Zgs hF
        refine Yiald S hw zd_70 (by decide) hx1 b9_ dX11_height_38 ?_
        refine lv_istore (lv' := [(4, .int (i32 (z5_ 70 x1))), (3, .int (i32 (r7_))), (0, .ref (ad 68)), (1, .int (i32 (x1))), (2, .int (i32 (x2)))]) S.1 S.2.1 dX11_height_39 hl (by decide) rfl (fun ls hl => ?_)
        refine lv_aload_n S.1 S.2.1 dX11_height_41 rfl (lv_at hl 2 rfl) ?_
        refine gf_X11_13 S hw dX11_height_42 ?_
        refine lv_iload_n S.1 S.2.1 dX11_height_45 rfl (lv_at hl 3 rfl) ?_
        refine lv_iload_n S.1 S.2.1 dX11_height_46 rfl (lv_at hl 4 rfl) ?_
        obtain ⟨b10_, hF⟩ := Zgs hF
        refine Yiast S hw hzz5_ zd_70 (by decide) hx1 hx2 b10_ dX11_height_47 (fun z11_ H locs ez hzz11_ hw => ?_)
        replace hF := Zle ez hF; clear ez
        refine lv_iload S.1 S.2.1 dX11_height_48 (lv_at hl 0 rfl) ?_
        exact Yireti S hw hzz11_ (hzz5_.1 _ _ (by decide)) hr hlk hF dX11_height_50
      · replace hF := ZtN c8_ hF
        refine lv_aload_n S.1 S.2.1 dX11_height_27 rfl (lv_at hl 1 rfl) ?_
        refine lv_iload_n S.1 S.2.1 dX11_height_28 rfl (lv_at hl 0 rfl) ?_
        obtain ⟨r14_, z12_, h13_, hF⟩ := Ybs hF
        refine YcallVi (rest := []) S hw (c_X11_no hdj hzz5_ hrr7_ h13_) my_X11_no mi_X11_no ml_X11_207 zd_68 zc_X11 rfl (Zrr hR (by decide)) ⟨Nat.zero_le _, Nat.zero_le _⟩ hl.1 rfl rfl (Nat.le_of_ble_eq_true rfl) dX11_height_29 (fun hrr14_ hzz12_ H locs hw => ?_)
        exact Yireti S hw hzz12_ hrr14_ hr hlk hF dX11_height_32
    · replace hF := ZtP c4_ hF
      refine lv_aload_n S.1 S.2.1 dX11_height_7 rfl (lv_at hl 0 rfl) ?_
      refine lv_iconst (v := i32 (-1)) S.1 S.2.1 dX11_height_8 ic_m1 ?_
      obtain ⟨r17_, z15_, h16_, hF⟩ := Ybs hF
      refine YcallVi (rest := []) S hw (c_X11_no hdj hzz1_ r_m1 h16_) my_X11_no mi_X11_no ml_X11_207 zd_68 zc_X11 rfl (Zrr hR (by decide)) ⟨Nat.zero_le _, Nat.zero_le _⟩ hl.1 rfl rfl (Nat.le_of_ble_eq_true rfl) dX11_height_9 (fun hrr17_ hzz15_ H locs hw => ?_)
      exact Yireti S hw hzz15_ hrr17_ hr hlk hF dX11_height_12)
set_option maxRecDepth 100000 in
set_option maxHeartbeats 4000000 in
theorem w_X11_here_b42 {RR : Int × ZI} (S : CallFix p m c cX11_here 4 s args Ztbl RX11) (hr : meth.sig.returnType = some .int) (hlk : meth.locks = false) (hR : 3 ≤ R.frames ∧ 60 * (3) ≤ R.locals) (hdj : Zdj ad) : ∀ (z : ZI) (y0 : Int) (H : Heap) (locs : List Loc) (ls : Array Slot), X11_here_b42 z y0 = some RR → ZW D cA ad (ZA ad) (Zc z) s H locs → Zok z → InR y0 → lv_has ls 4 [] → W p l e R s m args below meth c H locs 0 0 (MQ below (YQi D cA ad RR.1 RR.2) args s 0 0 (ZA ad)) (F0 m 42 ls [.int (i32 (y0))]) := by
  intro z y0 H locs ls hF hw hzz hy0 hl
  unfold X11_here_b42 at hF
  exact Yireti S hw hzz hy0 hr hlk hF dX11_here_42
set_option maxRecDepth 100000 in
set_option maxHeartbeats 4000000 in
theorem c_X11_here {l : Launch} {D : va_G} {cA : Nat → ClassId} {ad : Nat → Nat} (hdj : Zdj ad) {z z1 : ZI} {x1 : Int} {x2 : Int} {r : Int} (hzz : Zok z) (hx1 : InR x1) (hx2 : InR x2) (hF : F_X11_here z x1 x2 = some (r, z1)) : YMi l D cA ad (3) yX11_here cX11_here 4 (some .int) [.ref (ad 68), .int (i32 x1), .int (i32 x2)] z r z1 :=
  Zmet hdj (by decide) rfl (Nat.le_of_ble_eq_true rfl) (lv := [(0, .ref (ad 68)), (1, .int (i32 (x1))), (2, .int (i32 (x2)))]) rfl (fun p e s m args below meth c ls S hr hlk hw hl => by
    have hR : 3 ≤ (Zrm (3)).frames ∧ 60 * (3) ≤ (Zrm (3)).locals := ⟨Nat.le_refl _, Nat.le_refl _⟩
    unfold F_X11_here at hF
    revert hR
    generalize Zrm (3) = R
    intro hR
    refine lv_aload_n S.1 S.2.1 dX11_here_0 rfl (lv_at hl 0 rfl) ?_
    refine lv_iload_n S.1 S.2.1 dX11_here_1 rfl (lv_at hl 1 rfl) ?_
    obtain ⟨r3_, z1_, h2_, hF⟩ := Ybs hF
    refine YcallVi (rest := []) S hw (c_X11_isHouse hdj hzz hx1 h2_) my_X11_isHouse mi_X11_isHouse ml_X11_233 zd_68 zc_X11 rfl (Zrr hR (by decide)) ⟨Nat.zero_le _, Nat.zero_le _⟩ hl.1 rfl rfl (Nat.le_of_ble_eq_true rfl) dX11_here_2 (fun hrr3_ hzz1_ H locs hw => ?_)
    refine Yif_ne (tgt := 14) S hrr3_ dX11_here_5 (by decide) (fun c4_ => ?_) (fun c4_ => ?_)
    · replace hF := ZtN c4_ hF
      refine lv_iload_n S.1 S.2.1 dX11_here_14 rfl (lv_at hl 2 rfl) ?_
      refine Yi2l S hx2 dX11_here_15 ?_
      refine lv_lconst (v := i64 0) S.1 S.2.1 dX11_here_16 lc_0 ?_
      refine lv_ldc2 (own := RX11) (v := i64 999) S.1 S.2.1 S.2.2.2.1 (S.2.2.2.2 _ yl_X11_256) dX11_here_17 ?_
      obtain ⟨r7_, z5_, h6_, hF⟩ := Ybs hF
      refine YcallSi (rest := []) S hw (c_X11_out hdj hzz1_ (InR_L hx2) (InR_L r_0) (InR_L r_999) h6_) my_X11_out ms_X11_out ml_X11_203 (Zrr hR (by decide)) ⟨Nat.zero_le _, Nat.zero_le _⟩ hl.1 rfl rfl (Nat.le_of_ble_eq_true rfl) dX11_here_20 (fun hrr7_ hzz5_ H locs hw => ?_)
      refine lv_istore_n (lv' := [(3, .int (i32 (r7_))), (0, .ref (ad 68)), (1, .int (i32 (x1))), (2, .int (i32 (x2)))]) S.1 S.2.1 dX11_here_23 rfl hl (by decide) rfl (fun ls hl => ?_)
      refine lv_iload_n S.1 S.2.1 dX11_here_24 rfl (lv_at hl 0 rfl) ?_
      refine Yif_eq (tgt := 36) S hrr7_ dX11_here_25 (by decide) (fun c8_ => ?_) (fun c8_ => ?_)
      · replace hF := ZtP c8_ hF
        refine lv_aload_n S.1 S.2.1 dX11_here_36 rfl (lv_at hl 1 rfl) ?_
        refine lv_iload_n S.1 S.2.1 dX11_here_37 rfl (lv_at hl 2 rfl) ?_
        refine lv_iload_n S.1 S.2.1 dX11_here_38 rfl (lv_at hl 3 rfl) ?_
        obtain ⟨r11_, z9_, h10_, hF⟩ := Ybs hF
        refine YcallVi (rest := []) S hw (c_X11_hereOf hdj hzz5_ hx1 hx2 h10_) my_X11_hereOf mi_X11_hereOf ml_X11_262 zd_68 zc_X11 rfl (Zrr hR (by decide)) ⟨Nat.zero_le _, Nat.zero_le _⟩ hl.1 rfl rfl (Nat.le_of_ble_eq_true rfl) dX11_here_39 (fun hrr11_ hzz9_ H locs hw => ?_)
        exact w_X11_here_b42 S hr hlk hR hdj _ _ _ _ _ hF hw hzz9_ hrr11_ (lv_sub hl [] rfl)
      · replace hF := ZtN c8_ hF
        refine lv_aload_n S.1 S.2.1 dX11_here_28 rfl (lv_at hl 1 rfl) ?_
        refine lv_iload_n S.1 S.2.1 dX11_here_29 rfl (lv_at hl 0 rfl) ?_
        obtain ⟨r14_, z12_, h13_, hF⟩ := Ybs hF
        refine YcallVi (rest := []) S hw (c_X11_no hdj hzz5_ hrr7_ h13_) my_X11_no mi_X11_no ml_X11_207 zd_68 zc_X11 rfl (Zrr hR (by decide)) ⟨Nat.zero_le _, Nat.zero_le _⟩ hl.1 rfl rfl (Nat.le_of_ble_eq_true rfl) dX11_here_30 (fun hrr14_ hzz12_ H locs hw => ?_)
        refine lv_goto (tgt := 42) S.1 S.2.1 dX11_here_33 (by decide) ?_
        exact w_X11_here_b42 S hr hlk hR hdj _ _ _ _ _ hF hw hzz12_ hrr14_ (lv_sub hl [] rfl)
    · replace hF := ZtP c4_ hF
      refine lv_aload_n S.1 S.2.1 dX11_here_8 rfl (lv_at hl 0 rfl) ?_
      refine lv_iconst (v := i32 (-1)) S.1 S.2.1 dX11_here_9 ic_m1 ?_
      obtain ⟨r17_, z15_, h16_, hF⟩ := Ybs hF
      refine YcallVi (rest := []) S hw (c_X11_no hdj hzz1_ r_m1 h16_) my_X11_no mi_X11_no ml_X11_207 zd_68 zc_X11 rfl (Zrr hR (by decide)) ⟨Nat.zero_le _, Nat.zero_le _⟩ hl.1 rfl rfl (Nat.le_of_ble_eq_true rfl) dX11_here_10 (fun hrr17_ hzz15_ H locs hw => ?_)
      exact Yireti S hw hzz15_ hrr17_ hr hlk hF dX11_here_13)
set_option maxRecDepth 100000 in
set_option maxHeartbeats 4000000 in
theorem w_X11_holdsFire_b243 {RR : Int × ZI} (S : CallFix p m c cX11_holdsFire 7 s args Ztbl RX11) (hr : meth.sig.returnType = some .boolean) (hlk : meth.locks = false) (hR : 1 ≤ R.frames ∧ 60 * (1) ≤ R.locals) (hdj : Zdj ad) {k213 : ZI → Int → Int → Int → Option (Int × ZI)} (hk213 : ∀ (z : ZI) (x2 : Int) (x4 : Int) (x5 : Int) (H : Heap) (locs : List Loc) (ls : Array Slot), k213 z x2 x4 x5 = some RR → ZW D cA ad (ZA ad) (Zc z) s H locs → Zok z → InR x2 → InR x4 → InR x5 → lv_has ls 7 [(0, .ref (ad 68)), (2, .int (i32 (x2))), (4, .int (i32 (x4))), (5, .int (i32 (x5)))] → W p l e R s m args below meth c H locs 0 0 (MQ below (YQi D cA ad RR.1 RR.2) args s 0 0 (ZA ad)) (F0 m 213 ls [])) : ∀ (z : ZI) (x2 : Int) (x5 : Int) (y0 : Int) (H : Heap) (locs : List Loc) (ls : Array Slot), X11_holdsFire_b243 k213 z x2 x5 y0 = some RR → ZW D cA ad (ZA ad) (Zc z) s H locs → Zok z → InR x2 → InR x5 → InR y0 → lv_has ls 7 [(0, .ref (ad 68)), (2, .int (i32 (x2))), (5, .int (i32 (x5)))] → W p l e R s m args below meth c H locs 0 0 (MQ below (YQi D cA ad RR.1 RR.2) args s 0 0 (ZA ad)) (F0 m 243 ls [.int (i32 (y0))]) := by
  intro z x2 x5 y0 H locs ls hF hw hzz hx2 hx5 hy0 hl
  unfold X11_holdsFire_b243 at hF
  refine lv_istore (lv' := [(4, .int (i32 (y0))), (0, .ref (ad 68)), (2, .int (i32 (x2))), (5, .int (i32 (x5)))]) S.1 S.2.1 dX11_holdsFire_243 hl (by decide) rfl (fun ls hl => ?_)
  obtain ⟨g1_, hF⟩ := Zgs hF
  refine lv_iinc (v := i32 (x5 + 1)) (lv' := [(5, .int (i32 (x5 + 1))), (4, .int (i32 (y0))), (0, .ref (ad 68)), (2, .int (i32 (x2)))]) S.1 S.2.1 dX11_holdsFire_245 hl (k := 3) rfl Yiinc (by decide) rfl (fun ls hl => ?_)
  refine lv_goto (tgt := 213) S.1 S.2.1 dX11_holdsFire_248 (by decide) ?_
  exact hk213 _ _ _ _ _ _ _ hF hw hzz hx2 hy0 g1_ (lv_sub hl [2, 3, 1, 0] rfl)
set_option maxRecDepth 100000 in
set_option maxHeartbeats 4000000 in
theorem w_X11_holdsFire_b242 {RR : Int × ZI} (S : CallFix p m c cX11_holdsFire 7 s args Ztbl RX11) (hr : meth.sig.returnType = some .boolean) (hlk : meth.locks = false) (hR : 1 ≤ R.frames ∧ 60 * (1) ≤ R.locals) (hdj : Zdj ad) {k213 : ZI → Int → Int → Int → Option (Int × ZI)} (hk213 : ∀ (z : ZI) (x2 : Int) (x4 : Int) (x5 : Int) (H : Heap) (locs : List Loc) (ls : Array Slot), k213 z x2 x4 x5 = some RR → ZW D cA ad (ZA ad) (Zc z) s H locs → Zok z → InR x2 → InR x4 → InR x5 → lv_has ls 7 [(0, .ref (ad 68)), (2, .int (i32 (x2))), (4, .int (i32 (x4))), (5, .int (i32 (x5)))] → W p l e R s m args below meth c H locs 0 0 (MQ below (YQi D cA ad RR.1 RR.2) args s 0 0 (ZA ad)) (F0 m 213 ls [])) : ∀ (z : ZI) (x2 : Int) (x5 : Int) (H : Heap) (locs : List Loc) (ls : Array Slot), X11_holdsFire_b242 k213 z x2 x5 = some RR → ZW D cA ad (ZA ad) (Zc z) s H locs → Zok z → InR x2 → InR x5 → lv_has ls 7 [(0, .ref (ad 68)), (2, .int (i32 (x2))), (5, .int (i32 (x5)))] → W p l e R s m args below meth c H locs 0 0 (MQ below (YQi D cA ad RR.1 RR.2) args s 0 0 (ZA ad)) (F0 m 242 ls []) := by
  intro z x2 x5 H locs ls hF hw hzz hx2 hx5 hl
  unfold X11_holdsFire_b242 at hF
  refine lv_iconst (v := i32 0) S.1 S.2.1 dX11_holdsFire_242 ic_0 ?_
  exact w_X11_holdsFire_b243 S hr hlk hR hdj hk213 _ _ _ _ _ _ _ hF hw hzz hx2 hx5 r_0 (lv_sub hl [0, 1, 2] rfl)
set_option maxRecDepth 100000 in
set_option maxHeartbeats 4000000 in
theorem w_X11_holdsFire_L213 {RR : Int × ZI} (S : CallFix p m c cX11_holdsFire 7 s args Ztbl RX11) (hr : meth.sig.returnType = some .boolean) (hlk : meth.locks = false) (hR : 1 ≤ R.frames ∧ 60 * (1) ≤ R.locals) (hdj : Zdj ad) : ∀ (n : Nat) (z : ZI) (x2 : Int) (x4 : Int) (x5 : Int) (H : Heap) (locs : List Loc) (ls : Array Slot), X11_holdsFire_L213 n z x2 x4 x5 = some RR → ZW D cA ad (ZA ad) (Zc z) s H locs → Zok z → InR x2 → InR x4 → InR x5 → lv_has ls 7 [(0, .ref (ad 68)), (2, .int (i32 (x2))), (4, .int (i32 (x4))), (5, .int (i32 (x5)))] → W p l e R s m args below meth c H locs 0 0 (MQ below (YQi D cA ad RR.1 RR.2) args s 0 0 (ZA ad)) (F0 m 213 ls []) := by
  intro n
  induction n with
  | zero => intro z x2 x4 x5 H locs ls hF; exact nomatch hF
  | succ n hk213 =>
    intro z x2 x4 x5 H locs ls hF hw hzz hx2 hx4 hx5 hl
    replace hF : X11_holdsFire_L213b (X11_holdsFire_L213 n) z x2 x4 x5 = some RR := hF
    unfold X11_holdsFire_L213b at hF
    refine lv_iload S.1 S.2.1 dX11_holdsFire_213 (lv_at hl 3 rfl) ?_
    refine lv_aload_n S.1 S.2.1 dX11_holdsFire_215 rfl (lv_at hl 0 rfl) ?_
    refine gg_X11_193 S hw dX11_holdsFire_216 ?_
    refine Yicmp_ge (tgt := 251) S hx5 (hzz.1 68 12 (by decide)) dX11_holdsFire_219 (by decide) (fun c1_ => ?_) (fun c1_ => ?_)
    · replace hF := ZtP c1_ hF
      refine lv_iload S.1 S.2.1 dX11_holdsFire_251 (lv_at hl 2 rfl) ?_
      obtain ⟨b2_, hF⟩ := Zgs hF
      exact Yiretz S hw hzz hx4 hr hlk b2_ hF dX11_holdsFire_253
    · replace hF := ZtN c1_ hF
      refine lv_iload S.1 S.2.1 dX11_holdsFire_222 (lv_at hl 2 rfl) ?_
      refine Yif_eq (tgt := 242) S hx4 dX11_holdsFire_224 (by decide) (fun c3_ => ?_) (fun c3_ => ?_)
      · replace hF := ZtP c3_ hF
        exact w_X11_holdsFire_b242 S hr hlk hR hdj hk213 _ _ _ _ _ _ hF hw hzz hx2 hx5 (lv_sub hl [0, 1, 3] rfl)
      · replace hF := ZtN c3_ hF
        refine lv_aload_n S.1 S.2.1 dX11_holdsFire_227 rfl (lv_at hl 0 rfl) ?_
        refine gf_X11_165 S hw dX11_holdsFire_228 ?_
        refine lv_iload S.1 S.2.1 dX11_holdsFire_231 (lv_at hl 3 rfl) ?_
        obtain ⟨b4_, hF⟩ := Zgs hF
        refine Yiald S hw zd_120 (by decide) hx5 b4_ dX11_holdsFire_233 ?_
        refine lv_iload_n S.1 S.2.1 dX11_holdsFire_234 rfl (lv_at hl 1 rfl) ?_
        refine Yicmp_gt (tgt := 242) S (hzz.1 _ _ (by decide)) hx2 dX11_holdsFire_235 (by decide) (fun c5_ => ?_) (fun c5_ => ?_)
        · replace hF := ZtP c5_ hF
          exact w_X11_holdsFire_b242 S hr hlk hR hdj hk213 _ _ _ _ _ _ hF hw hzz hx2 hx5 (lv_sub hl [0, 1, 3] rfl)
        · replace hF := ZtN c5_ hF
          refine lv_iconst (v := i32 1) S.1 S.2.1 dX11_holdsFire_238 ic_1 ?_
          refine lv_goto (tgt := 243) S.1 S.2.1 dX11_holdsFire_239 (by decide) ?_
          exact w_X11_holdsFire_b243 S hr hlk hR hdj hk213 _ _ _ _ _ _ _ hF hw hzz hx2 hx5 r_1 (lv_sub hl [0, 1, 3] rfl)
set_option maxRecDepth 100000 in
set_option maxHeartbeats 4000000 in
theorem w_X11_holdsFire_b207 {RR : Int × ZI} (S : CallFix p m c cX11_holdsFire 7 s args Ztbl RX11) (hr : meth.sig.returnType = some .boolean) (hlk : meth.locks = false) (hR : 1 ≤ R.frames ∧ 60 * (1) ≤ R.locals) (hdj : Zdj ad) : ∀ (z : ZI) (x2 : Int) (H : Heap) (locs : List Loc) (ls : Array Slot), X11_holdsFire_b207 z x2 = some RR → ZW D cA ad (ZA ad) (Zc z) s H locs → Zok z → InR x2 → lv_has ls 7 [(0, .ref (ad 68)), (2, .int (i32 (x2)))] → W p l e R s m args below meth c H locs 0 0 (MQ below (YQi D cA ad RR.1 RR.2) args s 0 0 (ZA ad)) (F0 m 207 ls []) := by
  intro z x2 H locs ls hF hw hzz hx2 hl
  unfold X11_holdsFire_b207 at hF
  refine lv_iconst (v := i32 1) S.1 S.2.1 dX11_holdsFire_207 ic_1 ?_
  refine lv_istore (lv' := [(4, .int (i32 (1))), (0, .ref (ad 68)), (2, .int (i32 (x2)))]) S.1 S.2.1 dX11_holdsFire_208 hl (by decide) rfl (fun ls hl => ?_)
  refine lv_iconst (v := i32 0) S.1 S.2.1 dX11_holdsFire_210 ic_0 ?_
  refine lv_istore (lv' := [(5, .int (i32 (0))), (4, .int (i32 (1))), (0, .ref (ad 68)), (2, .int (i32 (x2)))]) S.1 S.2.1 dX11_holdsFire_211 hl (by decide) rfl (fun ls hl => ?_)
  exact w_X11_holdsFire_L213 S hr hlk hR hdj Zfuel _ _ _ _ _ _ _ hF hw hzz hx2 r_1 r_0 (lv_sub hl [2, 3, 1, 0] rfl)
set_option maxRecDepth 100000 in
set_option maxHeartbeats 4000000 in
theorem w_X11_holdsFire_b199 {RR : Int × ZI} (S : CallFix p m c cX11_holdsFire 7 s args Ztbl RX11) (hr : meth.sig.returnType = some .boolean) (hlk : meth.locks = false) (hR : 1 ≤ R.frames ∧ 60 * (1) ≤ R.locals) (hdj : Zdj ad) {k162 : ZI → Int → Int → Option (Int × ZI)} (hk162 : ∀ (z : ZI) (x2 : Int) (x4 : Int) (H : Heap) (locs : List Loc) (ls : Array Slot), k162 z x2 x4 = some RR → ZW D cA ad (ZA ad) (Zc z) s H locs → Zok z → InR x2 → InR x4 → lv_has ls 7 [(0, .ref (ad 68)), (2, .int (i32 (x2))), (4, .int (i32 (x4)))] → W p l e R s m args below meth c H locs 0 0 (MQ below (YQi D cA ad RR.1 RR.2) args s 0 0 (ZA ad)) (F0 m 162 ls [])) : ∀ (z : ZI) (x2 : Int) (x4 : Int) (y1 : Int) (y2 : Int) (y3 : Int) (H : Heap) (locs : List Loc) (ls : Array Slot), X11_holdsFire_b199 k162 z x2 x4 y1 y2 y3 = some RR → ZW D cA ad (ZA ad) (Zc z) s H locs → Zok z → InR x2 → InR x4 → InR y1 → InR y2 → InR y3 → lv_has ls 7 [(0, .ref (ad 68)), (2, .int (i32 (x2))), (4, .int (i32 (x4)))] → W p l e R s m args below meth c H locs 0 0 (MQ below (YQi D cA ad RR.1 RR.2) args s 0 0 (ZA ad)) (F0 m 199 ls [.int (i32 (y3)), .int (i32 (y2)), .int (i32 (y1)), .ref (ad 120)]) := by
  intro z x2 x4 y1 y2 y3 H locs ls hF hw hzz hx2 hx4 hy1 hy2 hy3 hl
  unfold X11_holdsFire_b199 at hF
  obtain ⟨g1_, hF⟩ := Zgs hF
  refine Yiadd S dX11_holdsFire_199 ?_
  obtain ⟨b2_, hF⟩ := Zgs hF
  refine Yiast S hw hzz zd_120 (by decide) hy1 g1_ b2_ dX11_holdsFire_200 (fun z3_ H locs ez hzz3_ hw => ?_)
  replace hF := Zle ez hF; clear ez
  obtain ⟨g4_, hF⟩ := Zgs hF
  refine lv_iinc (v := i32 (x4 + 1)) (lv' := [(4, .int (i32 (x4 + 1))), (0, .ref (ad 68)), (2, .int (i32 (x2)))]) S.1 S.2.1 dX11_holdsFire_201 hl (k := 2) rfl Yiinc (by decide) rfl (fun ls hl => ?_)
  refine lv_goto (tgt := 162) S.1 S.2.1 dX11_holdsFire_204 (by decide) ?_
  exact hk162 _ _ _ _ _ _ hF hw hzz3_ hx2 g4_ (lv_sub hl [1, 2, 0] rfl)
set_option maxRecDepth 100000 in
set_option maxHeartbeats 4000000 in
theorem w_X11_holdsFire_L162 {RR : Int × ZI} (S : CallFix p m c cX11_holdsFire 7 s args Ztbl RX11) (hr : meth.sig.returnType = some .boolean) (hlk : meth.locks = false) (hR : 1 ≤ R.frames ∧ 60 * (1) ≤ R.locals) (hdj : Zdj ad) : ∀ (n : Nat) (z : ZI) (x2 : Int) (x4 : Int) (H : Heap) (locs : List Loc) (ls : Array Slot), X11_holdsFire_L162 n z x2 x4 = some RR → ZW D cA ad (ZA ad) (Zc z) s H locs → Zok z → InR x2 → InR x4 → lv_has ls 7 [(0, .ref (ad 68)), (2, .int (i32 (x2))), (4, .int (i32 (x4)))] → W p l e R s m args below meth c H locs 0 0 (MQ below (YQi D cA ad RR.1 RR.2) args s 0 0 (ZA ad)) (F0 m 162 ls []) := by
  intro n
  induction n with
  | zero => intro z x2 x4 H locs ls hF; exact nomatch hF
  | succ n hk162 =>
    intro z x2 x4 H locs ls hF hw hzz hx2 hx4 hl
    replace hF : X11_holdsFire_L162b (X11_holdsFire_L162 n) z x2 x4 = some RR := hF
    unfold X11_holdsFire_L162b at hF
    refine lv_iload S.1 S.2.1 dX11_holdsFire_162 (lv_at hl 2 rfl) ?_
    refine lv_aload_n S.1 S.2.1 dX11_holdsFire_164 rfl (lv_at hl 0 rfl) ?_
    refine gg_X11_193 S hw dX11_holdsFire_165 ?_
    refine Yicmp_ge (tgt := 207) S hx4 (hzz.1 68 12 (by decide)) dX11_holdsFire_168 (by decide) (fun c1_ => ?_) (fun c1_ => ?_)
    · replace hF := ZtP c1_ hF
      exact w_X11_holdsFire_b207 S hr hlk hR hdj _ _ _ _ _ hF hw hzz hx2 (lv_sub hl [0, 1] rfl)
    · replace hF := ZtN c1_ hF
      refine lv_aload_n S.1 S.2.1 dX11_holdsFire_171 rfl (lv_at hl 0 rfl) ?_
      refine gf_X11_165 S hw dX11_holdsFire_172 ?_
      refine lv_aload_n S.1 S.2.1 dX11_holdsFire_175 rfl (lv_at hl 0 rfl) ?_
      refine gf_X11_162 S hw dX11_holdsFire_176 ?_
      refine lv_iload S.1 S.2.1 dX11_holdsFire_179 (lv_at hl 2 rfl) ?_
      obtain ⟨b2_, hF⟩ := Zgs hF
      refine Yiald S hw zd_119 (by decide) hx4 b2_ dX11_holdsFire_181 ?_
      refine lv_dup2_11 S.1 S.2.1 dX11_holdsFire_182 rfl rfl ?_
      obtain ⟨b3_, hF⟩ := Zgs hF
      refine Yiald S hw zd_120 (by decide) (hzz.1 _ _ (by decide)) b3_ dX11_holdsFire_183 ?_
      refine lv_aload_n S.1 S.2.1 dX11_holdsFire_184 rfl (lv_at hl 0 rfl) ?_
      refine gf_X11_168 S hw dX11_holdsFire_185 ?_
      refine lv_iload S.1 S.2.1 dX11_holdsFire_188 (lv_at hl 2 rfl) ?_
      obtain ⟨b4_, hF⟩ := Zgs hF
      refine Yzald S hw zd_121 (by decide) hx4 b4_ dX11_holdsFire_190 ?_
      refine Yif_eq (tgt := 198) S (hzz.1 _ _ (by decide)) dX11_holdsFire_191 (by decide) (fun c5_ => ?_) (fun c5_ => ?_)
      · replace hF := ZtP c5_ hF
        refine lv_iconst (v := i32 1) S.1 S.2.1 dX11_holdsFire_198 ic_1 ?_
        exact w_X11_holdsFire_b199 S hr hlk hR hdj hk162 _ _ _ _ _ _ _ _ _ hF hw hzz hx2 hx4 (hzz.1 _ _ (by decide)) (hzz.1 _ _ (by decide)) r_1 (lv_sub hl [0, 1, 2] rfl)
      · replace hF := ZtN c5_ hF
        refine lv_iconst (v := i32 0) S.1 S.2.1 dX11_holdsFire_194 ic_0 ?_
        refine lv_goto (tgt := 199) S.1 S.2.1 dX11_holdsFire_195 (by decide) ?_
        exact w_X11_holdsFire_b199 S hr hlk hR hdj hk162 _ _ _ _ _ _ _ _ _ hF hw hzz hx2 hx4 (hzz.1 _ _ (by decide)) (hzz.1 _ _ (by decide)) r_0 (lv_sub hl [0, 1, 2] rfl)
set_option maxRecDepth 100000 in
set_option maxHeartbeats 4000000 in
theorem w_X11_holdsFire_b159 {RR : Int × ZI} (S : CallFix p m c cX11_holdsFire 7 s args Ztbl RX11) (hr : meth.sig.returnType = some .boolean) (hlk : meth.locks = false) (hR : 1 ≤ R.frames ∧ 60 * (1) ≤ R.locals) (hdj : Zdj ad) : ∀ (z : ZI) (x2 : Int) (H : Heap) (locs : List Loc) (ls : Array Slot), X11_holdsFire_b159 z x2 = some RR → ZW D cA ad (ZA ad) (Zc z) s H locs → Zok z → InR x2 → lv_has ls 7 [(0, .ref (ad 68)), (2, .int (i32 (x2)))] → W p l e R s m args below meth c H locs 0 0 (MQ below (YQi D cA ad RR.1 RR.2) args s 0 0 (ZA ad)) (F0 m 159 ls []) := by
  intro z x2 H locs ls hF hw hzz hx2 hl
  unfold X11_holdsFire_b159 at hF
  refine lv_iconst (v := i32 0) S.1 S.2.1 dX11_holdsFire_159 ic_0 ?_
  refine lv_istore (lv' := [(4, .int (i32 (0))), (0, .ref (ad 68)), (2, .int (i32 (x2)))]) S.1 S.2.1 dX11_holdsFire_160 hl (by decide) rfl (fun ls hl => ?_)
  exact w_X11_holdsFire_L162 S hr hlk hR hdj Zfuel _ _ _ _ _ _ hF hw hzz hx2 r_0 (lv_sub hl [1, 2, 0] rfl)
set_option maxRecDepth 100000 in
set_option maxHeartbeats 4000000 in
theorem w_X11_holdsFire_L136 {RR : Int × ZI} (S : CallFix p m c cX11_holdsFire 7 s args Ztbl RX11) (hr : meth.sig.returnType = some .boolean) (hlk : meth.locks = false) (hR : 1 ≤ R.frames ∧ 60 * (1) ≤ R.locals) (hdj : Zdj ad) : ∀ (n : Nat) (z : ZI) (x2 : Int) (x4 : Int) (H : Heap) (locs : List Loc) (ls : Array Slot), X11_holdsFire_L136 n z x2 x4 = some RR → ZW D cA ad (ZA ad) (Zc z) s H locs → Zok z → InR x2 → InR x4 → lv_has ls 7 [(0, .ref (ad 68)), (2, .int (i32 (x2))), (4, .int (i32 (x4)))] → W p l e R s m args below meth c H locs 0 0 (MQ below (YQi D cA ad RR.1 RR.2) args s 0 0 (ZA ad)) (F0 m 136 ls []) := by
  intro n
  induction n with
  | zero => intro z x2 x4 H locs ls hF; exact nomatch hF
  | succ n hk136 =>
    intro z x2 x4 H locs ls hF hw hzz hx2 hx4 hl
    replace hF : X11_holdsFire_L136b (X11_holdsFire_L136 n) z x2 x4 = some RR := hF
    unfold X11_holdsFire_L136b at hF
    refine lv_iload S.1 S.2.1 dX11_holdsFire_136 (lv_at hl 2 rfl) ?_
    refine lv_aload_n S.1 S.2.1 dX11_holdsFire_138 rfl (lv_at hl 0 rfl) ?_
    refine gg_X11_193 S hw dX11_holdsFire_139 ?_
    refine Yicmp_ge (tgt := 159) S hx4 (hzz.1 68 12 (by decide)) dX11_holdsFire_142 (by decide) (fun c1_ => ?_) (fun c1_ => ?_)
    · replace hF := ZtP c1_ hF
      exact w_X11_holdsFire_b159 S hr hlk hR hdj _ _ _ _ _ hF hw hzz hx2 (lv_sub hl [0, 1] rfl)
    · replace hF := ZtN c1_ hF
      refine lv_aload_n S.1 S.2.1 dX11_holdsFire_145 rfl (lv_at hl 0 rfl) ?_
      refine gf_X11_165 S hw dX11_holdsFire_146 ?_
      refine lv_iload S.1 S.2.1 dX11_holdsFire_149 (lv_at hl 2 rfl) ?_
      refine lv_iconst (v := i32 0) S.1 S.2.1 dX11_holdsFire_151 ic_0 ?_
      obtain ⟨b2_, hF⟩ := Zgs hF
      refine Yiast S hw hzz zd_120 (by decide) hx4 r_0 b2_ dX11_holdsFire_152 (fun z3_ H locs ez hzz3_ hw => ?_)
      replace hF := Zle ez hF; clear ez
      obtain ⟨g4_, hF⟩ := Zgs hF
      refine lv_iinc (v := i32 (x4 + 1)) (lv' := [(4, .int (i32 (x4 + 1))), (0, .ref (ad 68)), (2, .int (i32 (x2)))]) S.1 S.2.1 dX11_holdsFire_153 hl (k := 2) rfl Yiinc (by decide) rfl (fun ls hl => ?_)
      refine lv_goto (tgt := 136) S.1 S.2.1 dX11_holdsFire_156 (by decide) ?_
      exact hk136 _ _ _ _ _ _ hF hw hzz3_ hx2 g4_ (lv_sub hl [1, 2, 0] rfl)
set_option maxRecDepth 100000 in
set_option maxHeartbeats 4000000 in
theorem w_X11_holdsFire_b133 {RR : Int × ZI} (S : CallFix p m c cX11_holdsFire 7 s args Ztbl RX11) (hr : meth.sig.returnType = some .boolean) (hlk : meth.locks = false) (hR : 1 ≤ R.frames ∧ 60 * (1) ≤ R.locals) (hdj : Zdj ad) : ∀ (z : ZI) (x2 : Int) (H : Heap) (locs : List Loc) (ls : Array Slot), X11_holdsFire_b133 z x2 = some RR → ZW D cA ad (ZA ad) (Zc z) s H locs → Zok z → InR x2 → lv_has ls 7 [(0, .ref (ad 68)), (2, .int (i32 (x2)))] → W p l e R s m args below meth c H locs 0 0 (MQ below (YQi D cA ad RR.1 RR.2) args s 0 0 (ZA ad)) (F0 m 133 ls []) := by
  intro z x2 H locs ls hF hw hzz hx2 hl
  unfold X11_holdsFire_b133 at hF
  refine lv_iconst (v := i32 0) S.1 S.2.1 dX11_holdsFire_133 ic_0 ?_
  refine lv_istore (lv' := [(4, .int (i32 (0))), (0, .ref (ad 68)), (2, .int (i32 (x2)))]) S.1 S.2.1 dX11_holdsFire_134 hl (by decide) rfl (fun ls hl => ?_)
  exact w_X11_holdsFire_L136 S hr hlk hR hdj Zfuel _ _ _ _ _ _ hF hw hzz hx2 r_0 (lv_sub hl [1, 2, 0] rfl)
set_option maxRecDepth 100000 in
set_option maxHeartbeats 4000000 in
theorem w_X11_holdsFire_b130 {RR : Int × ZI} (S : CallFix p m c cX11_holdsFire 7 s args Ztbl RX11) (hr : meth.sig.returnType = some .boolean) (hlk : meth.locks = false) (hR : 1 ≤ R.frames ∧ 60 * (1) ≤ R.locals) (hdj : Zdj ad) {k30 : ZI → Int → Int → Option (Int × ZI)} (hk30 : ∀ (z : ZI) (x2 : Int) (x3 : Int) (H : Heap) (locs : List Loc) (ls : Array Slot), k30 z x2 x3 = some RR → ZW D cA ad (ZA ad) (Zc z) s H locs → Zok z → InR x2 → InR x3 → lv_has ls 7 [(0, .ref (ad 68)), (2, .int (i32 (x2))), (3, .int (i32 (x3)))] → W p l e R s m args below meth c H locs 0 0 (MQ below (YQi D cA ad RR.1 RR.2) args s 0 0 (ZA ad)) (F0 m 30 ls [])) : ∀ (z : ZI) (x2 : Int) (x3 : Int) (H : Heap) (locs : List Loc) (ls : Array Slot), X11_holdsFire_b130 k30 z x2 x3 = some RR → ZW D cA ad (ZA ad) (Zc z) s H locs → Zok z → InR x2 → InR x3 → lv_has ls 7 [(0, .ref (ad 68)), (2, .int (i32 (x2))), (3, .int (i32 (x3)))] → W p l e R s m args below meth c H locs 0 0 (MQ below (YQi D cA ad RR.1 RR.2) args s 0 0 (ZA ad)) (F0 m 130 ls []) := by
  intro z x2 x3 H locs ls hF hw hzz hx2 hx3 hl
  unfold X11_holdsFire_b130 at hF
  refine lv_goto (tgt := 30) S.1 S.2.1 dX11_holdsFire_130 (by decide) ?_
  exact hk30 _ _ _ _ _ _ hF hw hzz hx2 hx3 (lv_sub hl [0, 1, 2] rfl)
set_option maxRecDepth 100000 in
set_option maxHeartbeats 4000000 in
theorem w_X11_holdsFire_b124 {RR : Int × ZI} (S : CallFix p m c cX11_holdsFire 7 s args Ztbl RX11) (hr : meth.sig.returnType = some .boolean) (hlk : meth.locks = false) (hR : 1 ≤ R.frames ∧ 60 * (1) ≤ R.locals) (hdj : Zdj ad) {k30 : ZI → Int → Int → Option (Int × ZI)} (hk30 : ∀ (z : ZI) (x2 : Int) (x3 : Int) (H : Heap) (locs : List Loc) (ls : Array Slot), k30 z x2 x3 = some RR → ZW D cA ad (ZA ad) (Zc z) s H locs → Zok z → InR x2 → InR x3 → lv_has ls 7 [(0, .ref (ad 68)), (2, .int (i32 (x2))), (3, .int (i32 (x3)))] → W p l e R s m args below meth c H locs 0 0 (MQ below (YQi D cA ad RR.1 RR.2) args s 0 0 (ZA ad)) (F0 m 30 ls [])) {k39 : ZI → Int → Int → Int → Option (Int × ZI)} (hk39 : ∀ (z : ZI) (x2 : Int) (x3 : Int) (x4 : Int) (H : Heap) (locs : List Loc) (ls : Array Slot), k39 z x2 x3 x4 = some RR → ZW D cA ad (ZA ad) (Zc z) s H locs → Zok z → InR x2 → InR x3 → InR x4 → lv_has ls 7 [(0, .ref (ad 68)), (2, .int (i32 (x2))), (3, .int (i32 (x3))), (4, .int (i32 (x4)))] → W p l e R s m args below meth c H locs 0 0 (MQ below (YQi D cA ad RR.1 RR.2) args s 0 0 (ZA ad)) (F0 m 39 ls [])) : ∀ (z : ZI) (x2 : Int) (x3 : Int) (x4 : Int) (H : Heap) (locs : List Loc) (ls : Array Slot), X11_holdsFire_b124 k30 k39 z x2 x3 x4 = some RR → ZW D cA ad (ZA ad) (Zc z) s H locs → Zok z → InR x2 → InR x3 → InR x4 → lv_has ls 7 [(0, .ref (ad 68)), (2, .int (i32 (x2))), (3, .int (i32 (x3))), (4, .int (i32 (x4)))] → W p l e R s m args below meth c H locs 0 0 (MQ below (YQi D cA ad RR.1 RR.2) args s 0 0 (ZA ad)) (F0 m 124 ls []) := by
  intro z x2 x3 x4 H locs ls hF hw hzz hx2 hx3 hx4 hl
  unfold X11_holdsFire_b124 at hF
  obtain ⟨g1_, hF⟩ := Zgs hF
  refine lv_iinc (v := i32 (x4 + 1)) (lv' := [(4, .int (i32 (x4 + 1))), (0, .ref (ad 68)), (2, .int (i32 (x2))), (3, .int (i32 (x3)))]) S.1 S.2.1 dX11_holdsFire_124 hl (k := 3) rfl Yiinc (by decide) rfl (fun ls hl => ?_)
  refine lv_goto (tgt := 39) S.1 S.2.1 dX11_holdsFire_127 (by decide) ?_
  exact hk39 _ _ _ _ _ _ _ hF hw hzz hx2 hx3 g1_ (lv_sub hl [1, 2, 3, 0] rfl)
set_option maxRecDepth 100000 in
set_option maxHeartbeats 4000000 in
theorem w_X11_holdsFire_b118 {RR : Int × ZI} (S : CallFix p m c cX11_holdsFire 7 s args Ztbl RX11) (hr : meth.sig.returnType = some .boolean) (hlk : meth.locks = false) (hR : 1 ≤ R.frames ∧ 60 * (1) ≤ R.locals) (hdj : Zdj ad) {k30 : ZI → Int → Int → Option (Int × ZI)} (hk30 : ∀ (z : ZI) (x2 : Int) (x3 : Int) (H : Heap) (locs : List Loc) (ls : Array Slot), k30 z x2 x3 = some RR → ZW D cA ad (ZA ad) (Zc z) s H locs → Zok z → InR x2 → InR x3 → lv_has ls 7 [(0, .ref (ad 68)), (2, .int (i32 (x2))), (3, .int (i32 (x3)))] → W p l e R s m args below meth c H locs 0 0 (MQ below (YQi D cA ad RR.1 RR.2) args s 0 0 (ZA ad)) (F0 m 30 ls [])) {k39 : ZI → Int → Int → Int → Option (Int × ZI)} (hk39 : ∀ (z : ZI) (x2 : Int) (x3 : Int) (x4 : Int) (H : Heap) (locs : List Loc) (ls : Array Slot), k39 z x2 x3 x4 = some RR → ZW D cA ad (ZA ad) (Zc z) s H locs → Zok z → InR x2 → InR x3 → InR x4 → lv_has ls 7 [(0, .ref (ad 68)), (2, .int (i32 (x2))), (3, .int (i32 (x3))), (4, .int (i32 (x4)))] → W p l e R s m args below meth c H locs 0 0 (MQ below (YQi D cA ad RR.1 RR.2) args s 0 0 (ZA ad)) (F0 m 39 ls [])) {k51 : ZI → Int → Int → Int → Int → Option (Int × ZI)} (hk51 : ∀ (z : ZI) (x2 : Int) (x3 : Int) (x4 : Int) (x5 : Int) (H : Heap) (locs : List Loc) (ls : Array Slot), k51 z x2 x3 x4 x5 = some RR → ZW D cA ad (ZA ad) (Zc z) s H locs → Zok z → InR x2 → InR x3 → InR x4 → InR x5 → lv_has ls 7 [(0, .ref (ad 68)), (2, .int (i32 (x2))), (3, .int (i32 (x3))), (4, .int (i32 (x4))), (5, .int (i32 (x5)))] → W p l e R s m args below meth c H locs 0 0 (MQ below (YQi D cA ad RR.1 RR.2) args s 0 0 (ZA ad)) (F0 m 51 ls [])) : ∀ (z : ZI) (x2 : Int) (x3 : Int) (x4 : Int) (x5 : Int) (H : Heap) (locs : List Loc) (ls : Array Slot), X11_holdsFire_b118 k30 k39 k51 z x2 x3 x4 x5 = some RR → ZW D cA ad (ZA ad) (Zc z) s H locs → Zok z → InR x2 → InR x3 → InR x4 → InR x5 → lv_has ls 7 [(0, .ref (ad 68)), (2, .int (i32 (x2))), (3, .int (i32 (x3))), (4, .int (i32 (x4))), (5, .int (i32 (x5)))] → W p l e R s m args below meth c H locs 0 0 (MQ below (YQi D cA ad RR.1 RR.2) args s 0 0 (ZA ad)) (F0 m 118 ls []) := by
  intro z x2 x3 x4 x5 H locs ls hF hw hzz hx2 hx3 hx4 hx5 hl
  unfold X11_holdsFire_b118 at hF
  obtain ⟨g1_, hF⟩ := Zgs hF
  refine lv_iinc (v := i32 (x5 + 1)) (lv' := [(5, .int (i32 (x5 + 1))), (0, .ref (ad 68)), (2, .int (i32 (x2))), (3, .int (i32 (x3))), (4, .int (i32 (x4)))]) S.1 S.2.1 dX11_holdsFire_118 hl (k := 4) rfl Yiinc (by decide) rfl (fun ls hl => ?_)
  refine lv_goto (tgt := 51) S.1 S.2.1 dX11_holdsFire_121 (by decide) ?_
  exact hk51 _ _ _ _ _ _ _ _ hF hw hzz hx2 hx3 hx4 g1_ (lv_sub hl [1, 2, 3, 4, 0] rfl)
set_option maxRecDepth 100000 in
set_option maxHeartbeats 4000000 in
theorem w_X11_holdsFire_L51 {RR : Int × ZI} (S : CallFix p m c cX11_holdsFire 7 s args Ztbl RX11) (hr : meth.sig.returnType = some .boolean) (hlk : meth.locks = false) (hR : 1 ≤ R.frames ∧ 60 * (1) ≤ R.locals) (hdj : Zdj ad) {k30 : ZI → Int → Int → Option (Int × ZI)} (hk30 : ∀ (z : ZI) (x2 : Int) (x3 : Int) (H : Heap) (locs : List Loc) (ls : Array Slot), k30 z x2 x3 = some RR → ZW D cA ad (ZA ad) (Zc z) s H locs → Zok z → InR x2 → InR x3 → lv_has ls 7 [(0, .ref (ad 68)), (2, .int (i32 (x2))), (3, .int (i32 (x3)))] → W p l e R s m args below meth c H locs 0 0 (MQ below (YQi D cA ad RR.1 RR.2) args s 0 0 (ZA ad)) (F0 m 30 ls [])) {k39 : ZI → Int → Int → Int → Option (Int × ZI)} (hk39 : ∀ (z : ZI) (x2 : Int) (x3 : Int) (x4 : Int) (H : Heap) (locs : List Loc) (ls : Array Slot), k39 z x2 x3 x4 = some RR → ZW D cA ad (ZA ad) (Zc z) s H locs → Zok z → InR x2 → InR x3 → InR x4 → lv_has ls 7 [(0, .ref (ad 68)), (2, .int (i32 (x2))), (3, .int (i32 (x3))), (4, .int (i32 (x4)))] → W p l e R s m args below meth c H locs 0 0 (MQ below (YQi D cA ad RR.1 RR.2) args s 0 0 (ZA ad)) (F0 m 39 ls [])) : ∀ (n : Nat) (z : ZI) (x2 : Int) (x3 : Int) (x4 : Int) (x5 : Int) (H : Heap) (locs : List Loc) (ls : Array Slot), X11_holdsFire_L51 k30 k39 n z x2 x3 x4 x5 = some RR → ZW D cA ad (ZA ad) (Zc z) s H locs → Zok z → InR x2 → InR x3 → InR x4 → InR x5 → lv_has ls 7 [(0, .ref (ad 68)), (2, .int (i32 (x2))), (3, .int (i32 (x3))), (4, .int (i32 (x4))), (5, .int (i32 (x5)))] → W p l e R s m args below meth c H locs 0 0 (MQ below (YQi D cA ad RR.1 RR.2) args s 0 0 (ZA ad)) (F0 m 51 ls []) := by
  intro n
  induction n with
  | zero => intro z x2 x3 x4 x5 H locs ls hF; exact nomatch hF
  | succ n hk51 =>
    intro z x2 x3 x4 x5 H locs ls hF hw hzz hx2 hx3 hx4 hx5 hl
    replace hF : X11_holdsFire_L51b k30 k39 (X11_holdsFire_L51 k30 k39 n) z x2 x3 x4 x5 = some RR := hF
    unfold X11_holdsFire_L51b at hF
    refine lv_iload S.1 S.2.1 dX11_holdsFire_51 (lv_at hl 4 rfl) ?_
    refine lv_iconst (v := i32 4) S.1 S.2.1 dX11_holdsFire_53 ic_4 ?_
    refine Yicmp_ge (tgt := 124) S hx5 r_4 dX11_holdsFire_54 (by decide) (fun c1_ => ?_) (fun c1_ => ?_)
    · replace hF := ZtP c1_ hF
      exact w_X11_holdsFire_b124 S hr hlk hR hdj hk30 hk39 _ _ _ _ _ _ _ hF hw hzz hx2 hx3 hx4 (lv_sub hl [0, 1, 2, 3] rfl)
    · replace hF := ZtN c1_ hF
      refine lv_aload_n S.1 S.2.1 dX11_holdsFire_57 rfl (lv_at hl 0 rfl) ?_
      refine gf_X11_168 S hw dX11_holdsFire_58 ?_
      refine lv_iload S.1 S.2.1 dX11_holdsFire_61 (lv_at hl 3 rfl) ?_
      obtain ⟨b2_, hF⟩ := Zgs hF
      refine Yzald S hw zd_121 (by decide) hx4 b2_ dX11_holdsFire_63 ?_
      refine Yif_ne (tgt := 124) S (hzz.1 _ _ (by decide)) dX11_holdsFire_64 (by decide) (fun c3_ => ?_) (fun c3_ => ?_)
      · replace hF := ZtN c3_ hF
        exact w_X11_holdsFire_b124 S hr hlk hR hdj hk30 hk39 _ _ _ _ _ _ _ hF hw hzz hx2 hx3 hx4 (lv_sub hl [0, 1, 2, 3] rfl)
      · replace hF := ZtP c3_ hF
        refine lv_aload_n S.1 S.2.1 dX11_holdsFire_67 rfl (lv_at hl 0 rfl) ?_
        refine lv_iload S.1 S.2.1 dX11_holdsFire_68 (lv_at hl 3 rfl) ?_
        refine lv_iload S.1 S.2.1 dX11_holdsFire_70 (lv_at hl 4 rfl) ?_
        obtain ⟨r6_, z4_, h5_, hF⟩ := Ybs hF
        refine YcallVi (rest := []) S hw (c_X11_beside hdj hzz hx4 hx5 h5_) my_X11_beside mi_X11_beside ml_X11_434 zd_68 zc_X11 rfl (Zrr hR (by decide)) ⟨Nat.zero_le _, Nat.zero_le _⟩ hl.1 rfl rfl (Nat.le_of_ble_eq_true rfl) dX11_holdsFire_72 (fun hrr6_ hzz4_ H locs hw => ?_)
        refine lv_istore (lv' := [(6, .int (i32 (r6_))), (0, .ref (ad 68)), (2, .int (i32 (x2))), (3, .int (i32 (x3))), (4, .int (i32 (x4))), (5, .int (i32 (x5)))]) S.1 S.2.1 dX11_holdsFire_75 hl (by decide) rfl (fun ls hl => ?_)
        refine lv_iload S.1 S.2.1 dX11_holdsFire_77 (lv_at hl 0 rfl) ?_
        refine Yif_lt (tgt := 118) S hrr6_ dX11_holdsFire_79 (by decide) (fun c7_ => ?_) (fun c7_ => ?_)
        · replace hF := ZtP c7_ hF
          exact w_X11_holdsFire_b118 S hr hlk hR hdj hk30 hk39 hk51 _ _ _ _ _ _ _ _ hF hw hzz4_ hx2 hx3 hx4 hx5 (lv_sub hl [1, 2, 3, 4, 5] rfl)
        · replace hF := ZtN c7_ hF
          refine lv_aload_n S.1 S.2.1 dX11_holdsFire_82 rfl (lv_at hl 1 rfl) ?_
          refine gf_X11_162 S hw dX11_holdsFire_83 ?_
          refine lv_iload S.1 S.2.1 dX11_holdsFire_86 (lv_at hl 0 rfl) ?_
          obtain ⟨b8_, hF⟩ := Zgs hF
          refine Yiald S hw zd_119 (by decide) hrr6_ b8_ dX11_holdsFire_88 ?_
          refine lv_aload_n S.1 S.2.1 dX11_holdsFire_89 rfl (lv_at hl 1 rfl) ?_
          refine gf_X11_162 S hw dX11_holdsFire_90 ?_
          refine lv_iload S.1 S.2.1 dX11_holdsFire_93 (lv_at hl 4 rfl) ?_
          obtain ⟨b9_, hF⟩ := Zgs hF
          refine Yiald S hw zd_119 (by decide) hx4 b9_ dX11_holdsFire_95 ?_
          refine Yicmp_gt (tgt := 102) S (hzz4_.1 _ _ (by decide)) (hzz4_.1 _ _ (by decide)) dX11_holdsFire_96 (by decide) (fun c10_ => ?_) (fun c10_ => ?_)
          · replace hF := ZtP c10_ hF
            refine lv_aload_n S.1 S.2.1 dX11_holdsFire_102 rfl (lv_at hl 1 rfl) ?_
            refine gf_X11_162 S hw dX11_holdsFire_103 ?_
            refine lv_iload S.1 S.2.1 dX11_holdsFire_106 (lv_at hl 0 rfl) ?_
            refine lv_aload_n S.1 S.2.1 dX11_holdsFire_108 rfl (lv_at hl 1 rfl) ?_
            refine gf_X11_162 S hw dX11_holdsFire_109 ?_
            refine lv_iload S.1 S.2.1 dX11_holdsFire_112 (lv_at hl 4 rfl) ?_
            obtain ⟨b11_, hF⟩ := Zgs hF
            refine Yiald S hw zd_119 (by decide) hx4 b11_ dX11_holdsFire_114 ?_
            obtain ⟨b12_, hF⟩ := Zgs hF
            refine Yiast S hw hzz4_ zd_119 (by decide) hrr6_ (hzz4_.1 _ _ (by decide)) b12_ dX11_holdsFire_115 (fun z13_ H locs ez hzz13_ hw => ?_)
            replace hF := Zle ez hF; clear ez
            refine lv_iconst (v := i32 1) S.1 S.2.1 dX11_holdsFire_116 ic_1 ?_
            refine lv_istore_n (lv' := [(3, .int (i32 (1))), (6, .int (i32 (r6_))), (0, .ref (ad 68)), (2, .int (i32 (x2))), (4, .int (i32 (x4))), (5, .int (i32 (x5)))]) S.1 S.2.1 dX11_holdsFire_117 rfl hl (by decide) rfl (fun ls hl => ?_)
            exact w_X11_holdsFire_b118 S hr hlk hR hdj hk30 hk39 hk51 _ _ _ _ _ _ _ _ hF hw hzz13_ hx2 r_1 hx4 hx5 (lv_sub hl [2, 3, 0, 4, 5] rfl)
          · replace hF := ZtN c10_ hF
            refine lv_goto (tgt := 118) S.1 S.2.1 dX11_holdsFire_99 (by decide) ?_
            exact w_X11_holdsFire_b118 S hr hlk hR hdj hk30 hk39 hk51 _ _ _ _ _ _ _ _ hF hw hzz4_ hx2 hx3 hx4 hx5 (lv_sub hl [1, 2, 3, 4, 5] rfl)
set_option maxRecDepth 100000 in
set_option maxHeartbeats 4000000 in
theorem w_X11_holdsFire_L39 {RR : Int × ZI} (S : CallFix p m c cX11_holdsFire 7 s args Ztbl RX11) (hr : meth.sig.returnType = some .boolean) (hlk : meth.locks = false) (hR : 1 ≤ R.frames ∧ 60 * (1) ≤ R.locals) (hdj : Zdj ad) {k30 : ZI → Int → Int → Option (Int × ZI)} (hk30 : ∀ (z : ZI) (x2 : Int) (x3 : Int) (H : Heap) (locs : List Loc) (ls : Array Slot), k30 z x2 x3 = some RR → ZW D cA ad (ZA ad) (Zc z) s H locs → Zok z → InR x2 → InR x3 → lv_has ls 7 [(0, .ref (ad 68)), (2, .int (i32 (x2))), (3, .int (i32 (x3)))] → W p l e R s m args below meth c H locs 0 0 (MQ below (YQi D cA ad RR.1 RR.2) args s 0 0 (ZA ad)) (F0 m 30 ls [])) : ∀ (n : Nat) (z : ZI) (x2 : Int) (x3 : Int) (x4 : Int) (H : Heap) (locs : List Loc) (ls : Array Slot), X11_holdsFire_L39 k30 n z x2 x3 x4 = some RR → ZW D cA ad (ZA ad) (Zc z) s H locs → Zok z → InR x2 → InR x3 → InR x4 → lv_has ls 7 [(0, .ref (ad 68)), (2, .int (i32 (x2))), (3, .int (i32 (x3))), (4, .int (i32 (x4)))] → W p l e R s m args below meth c H locs 0 0 (MQ below (YQi D cA ad RR.1 RR.2) args s 0 0 (ZA ad)) (F0 m 39 ls []) := by
  intro n
  induction n with
  | zero => intro z x2 x3 x4 H locs ls hF; exact nomatch hF
  | succ n hk39 =>
    intro z x2 x3 x4 H locs ls hF hw hzz hx2 hx3 hx4 hl
    replace hF : X11_holdsFire_L39b k30 (X11_holdsFire_L39 k30 n) z x2 x3 x4 = some RR := hF
    unfold X11_holdsFire_L39b at hF
    refine lv_iload S.1 S.2.1 dX11_holdsFire_39 (lv_at hl 3 rfl) ?_
    refine lv_aload_n S.1 S.2.1 dX11_holdsFire_41 rfl (lv_at hl 0 rfl) ?_
    refine gg_X11_193 S hw dX11_holdsFire_42 ?_
    refine Yicmp_ge (tgt := 130) S hx4 (hzz.1 68 12 (by decide)) dX11_holdsFire_45 (by decide) (fun c1_ => ?_) (fun c1_ => ?_)
    · replace hF := ZtP c1_ hF
      exact w_X11_holdsFire_b130 S hr hlk hR hdj hk30 _ _ _ _ _ _ hF hw hzz hx2 hx3 (lv_sub hl [0, 1, 2] rfl)
    · replace hF := ZtN c1_ hF
      refine lv_iconst (v := i32 0) S.1 S.2.1 dX11_holdsFire_48 ic_0 ?_
      refine lv_istore (lv' := [(5, .int (i32 (0))), (0, .ref (ad 68)), (2, .int (i32 (x2))), (3, .int (i32 (x3))), (4, .int (i32 (x4)))]) S.1 S.2.1 dX11_holdsFire_49 hl (by decide) rfl (fun ls hl => ?_)
      exact w_X11_holdsFire_L51 S hr hlk hR hdj hk30 hk39 Zfuel _ _ _ _ _ _ _ _ hF hw hzz hx2 hx3 hx4 r_0 (lv_sub hl [1, 2, 3, 4, 0] rfl)
set_option maxRecDepth 100000 in
set_option maxHeartbeats 4000000 in
theorem w_X11_holdsFire_L30 {RR : Int × ZI} (S : CallFix p m c cX11_holdsFire 7 s args Ztbl RX11) (hr : meth.sig.returnType = some .boolean) (hlk : meth.locks = false) (hR : 1 ≤ R.frames ∧ 60 * (1) ≤ R.locals) (hdj : Zdj ad) : ∀ (n : Nat) (z : ZI) (x2 : Int) (x3 : Int) (H : Heap) (locs : List Loc) (ls : Array Slot), X11_holdsFire_L30 n z x2 x3 = some RR → ZW D cA ad (ZA ad) (Zc z) s H locs → Zok z → InR x2 → InR x3 → lv_has ls 7 [(0, .ref (ad 68)), (2, .int (i32 (x2))), (3, .int (i32 (x3)))] → W p l e R s m args below meth c H locs 0 0 (MQ below (YQi D cA ad RR.1 RR.2) args s 0 0 (ZA ad)) (F0 m 30 ls []) := by
  intro n
  induction n with
  | zero => intro z x2 x3 H locs ls hF; exact nomatch hF
  | succ n hk30 =>
    intro z x2 x3 H locs ls hF hw hzz hx2 hx3 hl
    replace hF : X11_holdsFire_L30b (X11_holdsFire_L30 n) z x2 x3 = some RR := hF
    unfold X11_holdsFire_L30b at hF
    refine lv_iload_n S.1 S.2.1 dX11_holdsFire_30 rfl (lv_at hl 2 rfl) ?_
    refine Yif_eq (tgt := 133) S hx3 dX11_holdsFire_31 (by decide) (fun c1_ => ?_) (fun c1_ => ?_)
    · replace hF := ZtP c1_ hF
      exact w_X11_holdsFire_b133 S hr hlk hR hdj _ _ _ _ _ hF hw hzz hx2 (lv_sub hl [0, 1] rfl)
    · replace hF := ZtN c1_ hF
      refine lv_iconst (v := i32 0) S.1 S.2.1 dX11_holdsFire_34 ic_0 ?_
      refine lv_istore_n (lv' := [(3, .int (i32 (0))), (0, .ref (ad 68)), (2, .int (i32 (x2)))]) S.1 S.2.1 dX11_holdsFire_35 rfl hl (by decide) rfl (fun ls hl => ?_)
      refine lv_iconst (v := i32 0) S.1 S.2.1 dX11_holdsFire_36 ic_0 ?_
      refine lv_istore (lv' := [(4, .int (i32 (0))), (3, .int (i32 (0))), (0, .ref (ad 68)), (2, .int (i32 (x2)))]) S.1 S.2.1 dX11_holdsFire_37 hl (by decide) rfl (fun ls hl => ?_)
      exact w_X11_holdsFire_L39 S hr hlk hR hdj hk30 Zfuel _ _ _ _ _ _ _ hF hw hzz hx2 r_0 r_0 (lv_sub hl [2, 3, 1, 0] rfl)
set_option maxRecDepth 100000 in
set_option maxHeartbeats 4000000 in
theorem w_X11_holdsFire_b28 {RR : Int × ZI} (S : CallFix p m c cX11_holdsFire 7 s args Ztbl RX11) (hr : meth.sig.returnType = some .boolean) (hlk : meth.locks = false) (hR : 1 ≤ R.frames ∧ 60 * (1) ≤ R.locals) (hdj : Zdj ad) : ∀ (z : ZI) (x2 : Int) (H : Heap) (locs : List Loc) (ls : Array Slot), X11_holdsFire_b28 z x2 = some RR → ZW D cA ad (ZA ad) (Zc z) s H locs → Zok z → InR x2 → lv_has ls 7 [(0, .ref (ad 68)), (2, .int (i32 (x2)))] → W p l e R s m args below meth c H locs 0 0 (MQ below (YQi D cA ad RR.1 RR.2) args s 0 0 (ZA ad)) (F0 m 28 ls []) := by
  intro z x2 H locs ls hF hw hzz hx2 hl
  unfold X11_holdsFire_b28 at hF
  refine lv_iconst (v := i32 1) S.1 S.2.1 dX11_holdsFire_28 ic_1 ?_
  refine lv_istore_n (lv' := [(3, .int (i32 (1))), (0, .ref (ad 68)), (2, .int (i32 (x2)))]) S.1 S.2.1 dX11_holdsFire_29 rfl hl (by decide) rfl (fun ls hl => ?_)
  exact w_X11_holdsFire_L30 S hr hlk hR hdj Zfuel _ _ _ _ _ _ hF hw hzz hx2 r_1 (lv_sub hl [1, 2, 0] rfl)
set_option maxRecDepth 100000 in
set_option maxHeartbeats 4000000 in
theorem w_X11_holdsFire_L7 {RR : Int × ZI} (S : CallFix p m c cX11_holdsFire 7 s args Ztbl RX11) (hr : meth.sig.returnType = some .boolean) (hlk : meth.locks = false) (hR : 1 ≤ R.frames ∧ 60 * (1) ≤ R.locals) (hdj : Zdj ad) : ∀ (n : Nat) (z : ZI) (x2 : Int) (x3 : Int) (H : Heap) (locs : List Loc) (ls : Array Slot), X11_holdsFire_L7 n z x2 x3 = some RR → ZW D cA ad (ZA ad) (Zc z) s H locs → Zok z → InR x2 → InR x3 → lv_has ls 7 [(0, .ref (ad 68)), (2, .int (i32 (x2))), (3, .int (i32 (x3)))] → W p l e R s m args below meth c H locs 0 0 (MQ below (YQi D cA ad RR.1 RR.2) args s 0 0 (ZA ad)) (F0 m 7 ls []) := by
  intro n
  induction n with
  | zero => intro z x2 x3 H locs ls hF; exact nomatch hF
  | succ n hk7 =>
    intro z x2 x3 H locs ls hF hw hzz hx2 hx3 hl
    replace hF : X11_holdsFire_L7b (X11_holdsFire_L7 n) z x2 x3 = some RR := hF
    unfold X11_holdsFire_L7b at hF
    refine lv_iload_n S.1 S.2.1 dX11_holdsFire_7 rfl (lv_at hl 2 rfl) ?_
    refine lv_aload_n S.1 S.2.1 dX11_holdsFire_8 rfl (lv_at hl 0 rfl) ?_
    refine gg_X11_193 S hw dX11_holdsFire_9 ?_
    refine Yicmp_ge (tgt := 28) S hx3 (hzz.1 68 12 (by decide)) dX11_holdsFire_12 (by decide) (fun c1_ => ?_) (fun c1_ => ?_)
    · replace hF := ZtP c1_ hF
      exact w_X11_holdsFire_b28 S hr hlk hR hdj _ _ _ _ _ hF hw hzz hx2 (lv_sub hl [0, 1] rfl)
    · replace hF := ZtN c1_ hF
      refine lv_aload_n S.1 S.2.1 dX11_holdsFire_15 rfl (lv_at hl 0 rfl) ?_
      refine gf_X11_162 S hw dX11_holdsFire_16 ?_
      refine lv_iload_n S.1 S.2.1 dX11_holdsFire_19 rfl (lv_at hl 2 rfl) ?_
      refine lv_iload_n S.1 S.2.1 dX11_holdsFire_20 rfl (lv_at hl 2 rfl) ?_
      obtain ⟨b2_, hF⟩ := Zgs hF
      refine Yiast S hw hzz zd_119 (by decide) hx3 hx3 b2_ dX11_holdsFire_21 (fun z3_ H locs ez hzz3_ hw => ?_)
      replace hF := Zle ez hF; clear ez
      obtain ⟨g4_, hF⟩ := Zgs hF
      refine lv_iinc (v := i32 (x3 + 1)) (lv' := [(3, .int (i32 (x3 + 1))), (0, .ref (ad 68)), (2, .int (i32 (x2)))]) S.1 S.2.1 dX11_holdsFire_22 hl (k := 2) rfl Yiinc (by decide) rfl (fun ls hl => ?_)
      refine lv_goto (tgt := 7) S.1 S.2.1 dX11_holdsFire_25 (by decide) ?_
      exact hk7 _ _ _ _ _ _ hF hw hzz3_ hx2 g4_ (lv_sub hl [1, 2, 0] rfl)
set_option maxRecDepth 100000 in
set_option maxHeartbeats 4000000 in
theorem c_X11_holdsFire {l : Launch} {D : va_G} {cA : Nat → ClassId} {ad : Nat → Nat} (hdj : Zdj ad) {z z1 : ZI} {x1 : Int} {x2 : Int} {r : Int} (hzz : Zok z) (hx1 : InR x1) (hx2 : InR x2) (hF : F_X11_holdsFire z x1 x2 = some (r, z1)) : YMi l D cA ad (1) yX11_holdsFire cX11_holdsFire 7 (some .boolean) [.ref (ad 68), .int (i32 x1), .int (i32 x2)] z r z1 :=
  Zmet hdj (by decide) rfl (Nat.le_of_ble_eq_true rfl) (lv := [(0, .ref (ad 68)), (1, .int (i32 (x1))), (2, .int (i32 (x2)))]) rfl (fun p e s m args below meth c ls S hr hlk hw hl => by
    have hR : 1 ≤ (Zrm (1)).frames ∧ 60 * (1) ≤ (Zrm (1)).locals := ⟨Nat.le_refl _, Nat.le_refl _⟩
    unfold F_X11_holdsFire at hF
    revert hR
    generalize Zrm (1) = R
    intro hR
    refine lv_aload_n S.1 S.2.1 dX11_holdsFire_0 rfl (lv_at hl 0 rfl) ?_
    refine lv_iload_n S.1 S.2.1 dX11_holdsFire_1 rfl (lv_at hl 1 rfl) ?_
    obtain ⟨r3_, z1_, h2_, hF⟩ := Ybs hF
    refine YcallVv (rest := []) S hw (c_X11_clears hdj hzz hx1 h2_) my_X11_clears mi_X11_clears ml_X11_430 zd_68 zc_X11 rfl (Zrr hR (by decide)) ⟨Nat.zero_le _, Nat.zero_le _⟩ hl.1 rfl rfl (Nat.le_of_ble_eq_true rfl) dX11_holdsFire_2 (fun hzz1_ H locs hw => ?_)
    refine lv_iconst (v := i32 0) S.1 S.2.1 dX11_holdsFire_5 ic_0 ?_
    refine lv_istore_n (lv' := [(3, .int (i32 (0))), (0, .ref (ad 68)), (1, .int (i32 (x1))), (2, .int (i32 (x2)))]) S.1 S.2.1 dX11_holdsFire_6 rfl hl (by decide) rfl (fun ls hl => ?_)
    exact w_X11_holdsFire_L7 S hr hlk hR hdj Zfuel _ _ _ _ _ _ hF hw hzz1_ hx2 r_0 (lv_sub hl [1, 3, 0] rfl))
end ZWALK
