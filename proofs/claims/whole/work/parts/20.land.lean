/-! heights, down -/
theorem tmod12 {c : Int} (h : 0 ≤ c) : c.tmod 12 = c % 12 := Int.tmod_eq_emod_of_nonneg h
theorem tdiv12 {c : Int} (h : 0 ≤ c) : c.tdiv 12 = c / 12 := Int.tdiv_eq_ediv_of_nonneg h
def besS (c s : Int) : Int := if s = 0 then (if 11 ≤ c % 12 then -9 else c + 1) else if s = 1 then (if 11 ≤ c / 12 then -9 else c + 12) else if s = 2 then (if c % 12 ≤ 0 then -9 else c - 1) else (if c / 12 ≤ 0 then -9 else c - 12)
theorem e_beside {z : ZI} {c s : Int} (hc : 0 ≤ c ∧ c < 144) : F_X4_beside z c s = some (besS c s, z) := by
  unfold F_X4_beside X4_beside_b50 X4_beside_b66 X4_beside_b79 X4_beside_b93 besS
  rw [tmod12 hc.1, tdiv12 hc.1]
  grind [Zgd_i]
theorem besS_r {c s : Int} (hc : 0 ≤ c ∧ c < 144) : besS c s = -9 ∨ (0 ≤ besS c s ∧ besS c s < 144) := by
  unfold besS
  grind
def lowI (ht : Int → Int) (c low h : Int) : Prop := (low = -9 ∧ h = ht c) ∨ (0 ≤ low ∧ low < 144 ∧ h = ht low ∧ ht low < ht c)
theorem low_step {z : ZI} {c low h i : Int} {f : Nat} (hc : 0 ≤ c ∧ c < 144) (hi : 0 ≤ i ∧ i < 4) (hI : lowI (z 3) c low h) : ∃ low2 h2, X4_lowestBeside_L23 (f + 1) z c low h 4 i = X4_lowestBeside_L23 f z c low2 h2 4 (i + 1) ∧ lowI (z 3) c low2 h2 ∧ low2 = (if besS c (Ysides i) = -9 then low else lowr (z 3) c low (besS c (Ysides i))) := by
  have hb := besS_r (s := Ysides i) hc
  have he := e_beside (z := z) (s := Ysides i) hc
  have hs : X4_lowestBeside_L23 (f + 1) z c low h 4 i = X4_lowestBeside_L23b (X4_lowestBeside_L23 f) z c low h 4 i := rfl
  rw [hs]
  unfold X4_lowestBeside_L23b X4_lowestBeside_b74
  unfold lowI at *
  rw [if_neg (by omega), Zgd_t (by omega), he, Yb_some]
  unfold lowr
  by_cases h1 : besS c (Ysides i) = -9
  · refine ⟨low, h, ?_, hI, by rw [if_pos h1]⟩
    rw [if_pos h1, Zgd_t (by omega)]
  · by_cases h2 : h ≤ z 3 (besS c (Ysides i))
    · refine ⟨low, h, ?_, hI, ?_⟩
      · rw [if_neg h1, Zgd_t (by omega), if_pos h2, Zgd_t (by omega)]
      · rw [if_neg h1]
        grind
    · refine ⟨besS c (Ysides i), z 3 (besS c (Ysides i)), ?_, ?_, ?_⟩
      · rw [if_neg h1, Zgd_t (by omega), if_neg h2, Zgd_t (by omega), Zgd_t (by omega)]
      · right
        refine ⟨by omega, by omega, rfl, ?_⟩
        grind
      · rw [if_neg h1]
        grind
theorem x_lowest {z : ZI} {c : Int} (hc : 0 ≤ c ∧ c < 144) : F_X4_lowestBeside z c = some (dnH (z 3) c, z) := by
  obtain ⟨f, hf⟩ : ∃ f, Zfuel = f + 1 + 1 + 1 + 1 + 1 := ⟨999995, rfl⟩
  unfold F_X4_lowestBeside
  rw [Zgd_t hc, hf]
  obtain ⟨l1, h1, e1, i1, v1⟩ := low_step (f := f + 1 + 1 + 1 + 1) (low := -9) (h := z 3 c) (i := 0) hc (by decide) (Or.inl ⟨rfl, rfl⟩)
  obtain ⟨l2, h2, e2, i2, v2⟩ := low_step (f := f + 1 + 1 + 1) (i := 0 + 1) hc (by decide) i1
  obtain ⟨l3, h3, e3, i3, v3⟩ := low_step (f := f + 1 + 1) (i := 0 + 1 + 1) hc (by decide) i2
  obtain ⟨l4, h4, e4, i4, v4⟩ := low_step (f := f + 1) (i := 0 + 1 + 1 + 1) hc (by decide) i3
  rw [e1, e2, e3, e4]
  have hs : X4_lowestBeside_L23 (f + 1) z c l4 h4 4 (0 + 1 + 1 + 1 + 1) = X4_lowestBeside_L23b (X4_lowestBeside_L23 f) z c l4 h4 4 (0 + 1 + 1 + 1 + 1) := rfl
  rw [hs]
  unfold X4_lowestBeside_L23b
  rw [if_pos (by decide)]
  have s0 : Ysides 0 = 3 := rfl
  have s1 : Ysides (0 + 1) = 2 := rfl
  have s2 : Ysides (0 + 1 + 1) = 0 := rfl
  have s3 : Ysides (0 + 1 + 1 + 1) = 1 := rfl
  rw [s0] at v1
  rw [s1] at v2
  rw [s2] at v3
  rw [s3] at v4
  have b0 : besS c 3 = if c < 12 then -9 else c - 12 := by unfold besS; grind
  have b1 : besS c 2 = if c % 12 ≤ 0 then -9 else c - 1 := by unfold besS; grind
  have b2 : besS c 0 = if 11 ≤ c % 12 then -9 else c + 1 := by unfold besS; grind
  have b3 : besS c 1 = if 132 ≤ c then -9 else c + 12 := by unfold besS; grind
  rw [b0] at v1
  rw [b1] at v2
  rw [b2] at v3
  rw [b3] at v4
  clear e1 e2 e3 e4 i1 i2 i3 i4 hs hf s0 s1 s2 s3 b0 b1 b2 b3
  have w1 : l1 = dn1 (z 3) c := by unfold dn1; grind
  have w2 : l2 = dn2 (z 3) c := by unfold dn2; grind
  have w3 : l3 = dn3 (z 3) c := by unfold dn3; grind
  have w4 : l4 = dnH (z 3) c := by unfold dnH; grind
  rw [w4]
theorem e_lowerOf {z : ZI} {c best to : Int} (hc : 0 ≤ c ∧ c < 144) (ht : 0 ≤ to ∧ to < 144) (hb : best = -9 ∨ (0 ≤ best ∧ best < to)) : F_X11_lowerOf z best c to = some (lowr (z 70) c best to, z) := by
  unfold F_X11_lowerOf X11_lowerOf_b58 X11_lowerOf_b54 X11_lowerOf_b59 lowr
  grind [Zgd_i]
theorem lowr_r (ht : Int → Int) (c best to : Int) : lowr ht c best to = best ∨ lowr ht c best to = to := by
  unfold lowr
  split
  · exact Or.inr rfl
  · exact Or.inl rfl
theorem m_down {z : ZI} {c : Int} (hc : 0 ≤ c ∧ c < 144) : F_X11_downOf z c = some (dnH (z 70) c, z) := by
  have r1 : dn1 (z 70) c = -9 ∨ (0 ≤ dn1 (z 70) c ∧ dn1 (z 70) c = c - 12) := by
    have := lowr_r (z 70) c (-9) (c - 12)
    unfold dn1
    grind
  have r2 : dn2 (z 70) c = -9 ∨ (0 ≤ dn2 (z 70) c ∧ dn2 (z 70) c < c) := by
    have := lowr_r (z 70) c (dn1 (z 70) c) (c - 1)
    unfold dn2
    grind
  have r3 : dn3 (z 70) c = -9 ∨ (0 ≤ dn3 (z 70) c ∧ dn3 (z 70) c < c + 12) := by
    have := lowr_r (z 70) c (dn2 (z 70) c) (c + 1)
    unfold dn3
    grind
  have t4 : ∀ q, X11_downOf_b56 z c (dn3 (z 70) c) = q → q = some (dnH (z 70) c, z) := by
    intro q h
    rw [← h]
    unfold X11_downOf_b56 X11_downOf_b74 dnH
    by_cases h1 : 132 ≤ c
    · rw [if_pos h1, if_pos h1]
    · rw [if_neg h1, if_neg h1, Zgd_t (by omega), e_lowerOf hc (by omega) (by omega), Yb_some]
  have t3 : X11_downOf_b37 z c (dn2 (z 70) c) = some (dnH (z 70) c, z) := by
    refine (t4 _ ?_)
    unfold X11_downOf_b37
    rw [tmod12 hc.1]
    by_cases h1 : 11 ≤ c % 12
    · rw [if_pos h1, show dn3 (z 70) c = dn2 (z 70) c from if_pos h1]
    · rw [if_neg h1, Zgd_t (by omega), e_lowerOf hc (by omega) (by omega), Yb_some, show dn3 (z 70) c = lowr (z 70) c (dn2 (z 70) c) (c + 1) from if_neg h1]
  have t2 : X11_downOf_b20 z c (dn1 (z 70) c) = some (dnH (z 70) c, z) := by
    rw [← t3]
    unfold X11_downOf_b20
    rw [tmod12 hc.1]
    by_cases h1 : c % 12 ≤ 0
    · rw [if_pos h1, show dn2 (z 70) c = dn1 (z 70) c from if_pos h1]
    · rw [if_neg h1, Zgd_t (by omega), e_lowerOf hc (by omega) (by omega), Yb_some, show dn2 (z 70) c = lowr (z 70) c (dn1 (z 70) c) (c - 1) from if_neg h1]
  rw [← t2]
  unfold F_X11_downOf
  by_cases h1 : c < 12
  · rw [if_pos h1, show dn1 (z 70) c = -9 from if_pos h1]
  · rw [if_neg h1, Zgd_t (by omega), e_lowerOf hc (by omega) (by omega), Yb_some, show dn1 (z 70) c = lowr (z 70) c (-9) (c - 12) from if_neg h1]
theorem lowr_c {f g : Int → Int} (h : ∀ x, 0 ≤ x → x < 144 → f x = g x) {c b t : Int} (hc : 0 ≤ c ∧ c < 144) (ht : 0 ≤ t ∧ t < 144) (hb : b = -9 ∨ (0 ≤ b ∧ b < 144)) : lowr f c b t = lowr g c b t := by
  have h1 := h c hc.1 hc.2
  have h2 := h t ht.1 ht.2
  unfold lowr
  rcases hb with hb | hb
  · subst hb
    simp [h1, h2]
  · rw [h1, h2, h b hb.1 hb.2]
theorem dn1_r (f : Int → Int) {c : Int} (hc : 0 ≤ c ∧ c < 144) : dn1 f c = -9 ∨ (0 ≤ dn1 f c ∧ dn1 f c < 144) := by
  have := lowr_r f c (-9) (c - 12)
  unfold dn1
  grind
theorem dn2_r (f : Int → Int) {c : Int} (hc : 0 ≤ c ∧ c < 144) : dn2 f c = -9 ∨ (0 ≤ dn2 f c ∧ dn2 f c < 144) := by
  have := lowr_r f c (dn1 f c) (c - 1)
  have := dn1_r f hc
  unfold dn2
  grind
theorem dn3_r (f : Int → Int) {c : Int} (hc : 0 ≤ c ∧ c < 144) : dn3 f c = -9 ∨ (0 ≤ dn3 f c ∧ dn3 f c < 144) := by
  have := lowr_r f c (dn2 f c) (c + 1)
  have := dn2_r f hc
  unfold dn3
  grind
theorem dnH_r (f : Int → Int) {c : Int} (hc : 0 ≤ c ∧ c < 144) : dnH f c = -9 ∨ (0 ≤ dnH f c ∧ dnH f c < 144) := by
  have := lowr_r f c (dn3 f c) (c + 12)
  have := dn3_r f hc
  unfold dnH
  grind
theorem dnH_c {f g : Int → Int} (h : ∀ x, 0 ≤ x → x < 144 → f x = g x) {c : Int} (hc : 0 ≤ c ∧ c < 144) : dnH f c = dnH g c := by
  have e1 : dn1 f c = dn1 g c := by
    unfold dn1
    by_cases h1 : c < 12
    · rw [if_pos h1, if_pos h1]
    · rw [if_neg h1, if_neg h1, lowr_c h hc (by omega) (Or.inl rfl)]
  have e2 : dn2 f c = dn2 g c := by
    unfold dn2
    by_cases h1 : c % 12 ≤ 0
    · rw [if_pos h1, if_pos h1, e1]
    · rw [if_neg h1, if_neg h1, e1, lowr_c h hc (by omega) (dn1_r g hc)]
  have e3 : dn3 f c = dn3 g c := by
    unfold dn3
    by_cases h1 : 11 ≤ c % 12
    · rw [if_pos h1, if_pos h1, e2]
    · rw [if_neg h1, if_neg h1, e2, lowr_c h hc (by omega) (dn2_r g hc)]
  unfold dnH
  by_cases h1 : 132 ≤ c
  · rw [if_pos h1, if_pos h1, e3]
  · rw [if_neg h1, if_neg h1, e3, lowr_c h hc (by omega) (dn3_r g hc)]
set_option maxHeartbeats 1000000 in
theorem t_down {n : Int} {z : ZI} (hK : K z) (hN : JN n z) (hn : n ≤ 1000) (c : Int) : Both (F_X10_down z c) (fun z1 => F_X11_down z1 c) (fun z2 => K z2 ∧ JN (n + 1) z2) := by
  have hR := hN.R hn
  have hl := links hK
  have hK0 := hK
  obtain ⟨hD, hH, hP, hS, hL, hT, hE, hV, hA, hU, hC, hK, hW, hB, hG, hX, hQ, hO⟩ := hK
  by_cases c1 : ¬ (0 ≤ c ∧ c < 144)
  · refine Both_ref hK0 hN (w := -1) hn (by omega) ?_ ?_
    · unfold F_X10_down X10_down_b23
      grind (gen := 20) [Yb_some, Zgd_i, Zl_eq, bi, e_refuse, e_isCell, x_lowest]
    · show F_X11_down (zR z (-1)) c = _
      unfold F_X11_down X11_down_b20
      grind (gen := 20) [Yb_some, Zgd_i, Zl_eq, bi, zR_d, zR_k, e_no, e_mCell, m_down]
  have hc : 0 ≤ c ∧ c < 144 := by omega
  have e1 := x_lowest (z := z) hc
  have e2 := m_down (z := z) hc
  rw [dnH_c (fun x h1 h2 => (hL x h1 h2).1) hc] at e1
  refine ⟨dnH (z 70) c, z, z, ?_, ?_, hK0, JN_1 hN⟩
  · unfold F_X10_down X10_down_b23
    grind (gen := 20) [Yb_some, Zgd_i, Zl_eq, bi, e_isCell, x_lowest]
  · show F_X11_down z c = _
    unfold F_X11_down X11_down_b20
    grind (gen := 20) [Yb_some, Zgd_i, Zl_eq, bi, e_mCell, m_down]
theorem JL_set {z z2 : ZI} {c v : Int} (hL : JL z) (hv : 0 ≤ v ∧ v ≤ 99) (e1 : ∀ j, z2 3 j = if j = c then v else z 3 j) (e2 : ∀ j, z2 70 j = if j = c then v else z 70 j) : JL z2 := by
  intro x h1 h2
  have q := hL x h1 h2
  rw [e1, e2]
  by_cases h : x = c
  · rw [if_pos h, if_pos h]; omega
  · rw [if_neg h, if_neg h]; exact q
set_option maxHeartbeats 1000000 in
theorem t_height {n : Int} {z : ZI} (hK : K z) (hN : JN n z) (hn : n ≤ 1000) (c v : Int) : Both (F_X10_height z c v) (fun z1 => F_X11_height z1 c v) (fun z2 => K z2 ∧ JN (n + 1) z2) := by
  have hR := hN.R hn
  have hl := links hK
  have hK0 := hK
  obtain ⟨hD, hH, hP, hS, hL, hT, hE, hV, hA, hU, hC, hK, hW, hB, hG, hX, hQ, hO⟩ := hK
  by_cases c1 : ¬ (0 ≤ c ∧ c < 144)
  · refine Both_ref hK0 hN (w := -1) hn (by omega) ?_ ?_
    · unfold F_X10_height 
      grind (gen := 20) [Yb_some, Zgd_i, Zl_eq, bi, e_refuse, e_isCell, e_checkRange, rng, F_X4_raise]
    · show F_X11_height (zR z (-1)) c v = _
      unfold F_X11_height 
      grind (gen := 20) [Yb_some, Zgd_i, Zl_eq, bi, zR_d, zR_k, e_no, e_mCell, e_out, rng]
  by_cases c2 : v < 0
  · refine Both_ref hK0 hN (w := -4) hn (by omega) ?_ ?_
    · unfold F_X10_height 
      grind (gen := 20) [Yb_some, Zgd_i, Zl_eq, bi, e_refuse, e_isCell, e_checkRange, rng, F_X4_raise]
    · show F_X11_height (zR z (-4)) c v = _
      unfold F_X11_height 
      grind (gen := 20) [Yb_some, Zgd_i, Zl_eq, bi, zR_d, zR_k, e_no, e_mCell, e_out, rng]
  by_cases c3 : 99 < v
  · refine Both_ref hK0 hN (w := -6) hn (by omega) ?_ ?_
    · unfold F_X10_height 
      grind (gen := 20) [Yb_some, Zgd_i, Zl_eq, bi, e_refuse, e_isCell, e_checkRange, rng, F_X4_raise]
    · show F_X11_height (zR z (-6)) c v = _
      unfold F_X11_height 
      grind (gen := 20) [Yb_some, Zgd_i, Zl_eq, bi, zR_d, zR_k, e_no, e_mCell, e_out, rng]
  have hq := hL c (by omega) (by omega)
  refine ⟨z 70 c, (Zup (Zup z 3 c v) 2 8 0), (Zup (Zup (Zup z 3 c v) 2 8 0) 70 c v), ?_, ?_, ?_, JN_up hN rfl rfl⟩
  · unfold F_X10_height 
    grind (gen := 30) [Yb_some, Zgd_i, Zl_eq, bi, Zup_d, e_isCell, e_checkRange, rng, F_X4_raise]
  · show F_X11_height _ c v = _
    unfold F_X11_height 
    grind (gen := 30) [Yb_some, Zgd_i, Zl_eq, bi, Zup_d, e_mCell, e_out, rng]
  · exact ⟨(JD_c rfl rfl hD), (JH_c rfl rfl rfl rfl rfl rfl rfl hH), (JP_c rfl rfl rfl rfl rfl rfl rfl rfl rfl rfl rfl rfl hP), (JS_c rfl rfl rfl rfl rfl rfl rfl rfl rfl rfl rfl hS), JL_set hL (c := c) (v := v) (by omega) (fun j => (Zup_ki : Zup z 3 (c) (v) 3 j = _)) (fun j => (Zup_ki : Zup z 70 (c) (v) 70 j = _)), (JT_c rfl rfl rfl rfl rfl hT), (JE_c rfl rfl rfl rfl hE), Or.inl rfl, (JA_c rfl rfl rfl rfl hA), (JU_c rfl rfl rfl rfl rfl rfl rfl rfl rfl rfl hU), (JC_c rfl rfl rfl rfl rfl rfl rfl rfl rfl rfl hC), (JK_c rfl rfl rfl rfl rfl rfl rfl rfl rfl hK), (JW_c rfl rfl rfl rfl rfl rfl rfl rfl rfl rfl hW), (JB_c rfl rfl rfl rfl rfl rfl rfl rfl rfl rfl rfl rfl rfl rfl rfl rfl rfl rfl rfl rfl hB), (JG_c rfl rfl rfl rfl rfl hG), (JX_c rfl rfl rfl rfl rfl hX), (JQ_c rfl rfl rfl rfl rfl hQ), (JO_c rfl rfl rfl rfl rfl rfl rfl rfl rfl rfl rfl hO)⟩
