/-! texts: draw and points, both -/
theorem t_points {n : Int} {z : ZI} (hK : K z) (hN : JN n z) (hn : n ≤ 1000) (p d : Int) : Both (F_X10_points z p d) (fun z1 => F_X11_points z1 p d) (fun z2 => K z2 ∧ JN (n + 1) z2) := by
  have hR := hN.R hn
  have hl := links hK
  have hK0 := hK
  obtain ⟨hD, hH, hP, hS, hL, hT, hE, hV, hA, hU, hC, hK, hW, hB, hG, hX, hQ, hO⟩ := hK
  by_cases c1 : ¬ (0 ≤ p ∧ p < z 68 13)
  · refine Both_refB hK0 hN (w := -1) hn (by omega) ?_ ?_
    · unfold F_X10_points X10_points_b51
      grind (gen := 20) [Yb_some, Zgd_i, Zl_eq, bi, e_refuseBeyond, e_hasPerson, e_checkRange, rng]
    · show F_X11_points (zR z (-1)) p d = _
      unfold F_X11_points X11_points_b42
      grind (gen := 20) [Yb_some, Zgd_i, Zl_eq, bi, zR_d, zR_k, e_lower, e_isPerson, e_out, rng]
  by_cases c2 : d < 0
  · refine Both_refB hK0 hN (w := -4) hn (by omega) ?_ ?_
    · unfold F_X10_points X10_points_b51
      grind (gen := 20) [Yb_some, Zgd_i, Zl_eq, bi, e_refuseBeyond, e_hasPerson, e_checkRange, rng]
    · show F_X11_points (zR z (-4)) p d = _
      unfold F_X11_points X11_points_b42
      grind (gen := 20) [Yb_some, Zgd_i, Zl_eq, bi, zR_d, zR_k, e_lower, e_isPerson, e_out, rng]
  by_cases c3 : 999 < d
  · refine Both_refB hK0 hN (w := -6) hn (by omega) ?_ ?_
    · unfold F_X10_points X10_points_b51
      grind (gen := 20) [Yb_some, Zgd_i, Zl_eq, bi, e_refuseBeyond, e_hasPerson, e_checkRange, rng]
    · show F_X11_points (zR z (-6)) p d = _
      unfold F_X11_points X11_points_b42
      grind (gen := 20) [Yb_some, Zgd_i, Zl_eq, bi, zR_d, zR_k, e_lower, e_isPerson, e_out, rng]
  obtain ⟨y1, x1, x2⟩ := x_pointsOf (p := p) (d := d) hU hD hP hS (by omega) (by omega)
  have hK1 := FrX_K x2 hK0
  have n1 : y1 68 13 = z 68 13 := by rw [x2 68 (by decide) (by decide) (by decide)]
  obtain ⟨y2, m1, m2⟩ := m_pointsOf (p := p) (d := d) (K_U hK1) (K_D hK1) (K_P hK1) (K_S hK1) (by omega) (by omega)
  rw [ptS_fx x2] at m1
  refine ⟨ptS z p d, y1, y2, ?_, ?_, FrM_K m2 hK1, JN_1 (JN_fm (JN_fx hN x2) m2)⟩
  · unfold F_X10_points X10_points_b51
    rw [e_hasPerson, Yb_some, bi_t (by omega), if_neg (by decide), e_checkRange, Yb_some, show rng d 0 999 = 0 by (unfold rng; rw [if_neg (by omega), if_neg (by omega)]), if_pos rfl, x1, Yb_some]
  · show F_X11_points y1 p d = _
    unfold F_X11_points X11_points_b42
    rw [e_isPerson, Yb_some, bi_t (by omega), if_neg (by decide), e_out, Yb_some, show rng d 0 999 = 0 by (unfold rng; rw [if_neg (by omega), if_neg (by omega)]), if_pos rfl, m1, Yb_some]
theorem e_good {z : ZI} {c d : Int} (hc : 0 ≤ c ∧ c < 40) : F_X0_isGoodOn z c d = some (bi (z 35 c ≤ d ∧ (z 36 c = -9 ∨ d < z 36 c)), z) := by
  unfold F_X0_isGoodOn X0_isGoodOn_b35 X0_isGoodOn_b31 X0_isGoodOn_b36
  grind [Zgd_i, bi]
theorem t_draw {n : Int} {z : ZI} (hK : K z) (hN : JN n z) (hn : n ≤ 1000) (c d : Int) : Both (F_X10_draw z c d) (fun z1 => F_X11_draw z1 c d) (fun z2 => K z2 ∧ JN (n + 1) z2) := by
  have hR := hN.R hn
  have hl := links hK
  have hK0 := hK
  obtain ⟨hD, hH, hP, hS, hL, hT, hE, hV, hA, hU, hC, hK, hW, hB, hG, hX, hQ, hO⟩ := hK
  by_cases c1 : ¬ (0 ≤ c ∧ c < z 68 34)
  · refine Both_ref hK0 hN (w := -1) hn (by omega) ?_ ?_
    · unfold F_X10_draw X10_draw_b80
      grind (gen := 20) [Yb_some, Zgd_i, Zl_eq, bi, e_refuse, e_hasCard, e_checkRange, rng]
    · show F_X11_draw (zR z (-1)) c d = _
      unfold F_X11_draw X11_draw_b42
      grind (gen := 20) [Yb_some, Zgd_i, Zl_eq, bi, zR_d, zR_k, e_no, e_isCard, e_out, rng]
  by_cases c2 : d < 0
  · refine Both_ref hK0 hN (w := -4) hn (by omega) ?_ ?_
    · unfold F_X10_draw X10_draw_b80
      grind (gen := 20) [Yb_some, Zgd_i, Zl_eq, bi, e_refuse, e_hasCard, e_checkRange, rng]
    · show F_X11_draw (zR z (-4)) c d = _
      unfold F_X11_draw X11_draw_b42
      grind (gen := 20) [Yb_some, Zgd_i, Zl_eq, bi, zR_d, zR_k, e_no, e_isCard, e_out, rng]
  by_cases c3 : 999 < d
  · refine Both_ref hK0 hN (w := -6) hn (by omega) ?_ ?_
    · unfold F_X10_draw X10_draw_b80
      grind (gen := 20) [Yb_some, Zgd_i, Zl_eq, bi, e_refuse, e_hasCard, e_checkRange, rng]
    · show F_X11_draw (zR z (-6)) c d = _
      unfold F_X11_draw X11_draw_b42
      grind (gen := 20) [Yb_some, Zgd_i, Zl_eq, bi, zR_d, zR_k, e_no, e_isCard, e_out, rng]
  have hc := hC.2.2.2 c (by omega) (by omega)
  have r0 : rng d 0 999 = 0 := by unfold rng; rw [if_neg (by omega), if_neg (by omega)]
  have xg := e_good (z := z) (c := c) (d := d) (by omega)
  by_cases g : z 89 c ≤ d ∧ (z 90 c < 0 ∨ d < z 90 c)
  · obtain ⟨y1, x1, x2⟩ := x_drawOf (h := z 88 c) (d := d) (s := z 89 c) hU hD hP hS (by omega) (by omega)
    have hK1 := FrX_K x2 hK0
    have n0 : y1 68 = z 68 := x2 68 (by decide) (by decide) (by decide)
    have n1 : y1 88 = z 88 := x2 _ (by decide) (by decide) (by decide)
    have n2 : y1 89 = z 89 := x2 _ (by decide) (by decide) (by decide)
    have n3 : y1 90 = z 90 := x2 _ (by decide) (by decide) (by decide)
    obtain ⟨y2, m1, m2⟩ := m_drawOf (c := c) (d := d) (K_U hK1) (K_D hK1) (K_P hK1) (K_S hK1) (by omega) (by omega) (by rw [n2]; omega) (by rw [n2]; omega) (by rw [n3]; omega)
    rw [n1, n2, dwS_fx x2] at m1
    refine ⟨dwS z (z 88 c) d (z 89 c), y1, y2, ?_, ?_, FrM_K m2 hK1, JN_1 (JN_fm (JN_fx hN x2) m2)⟩
    · unfold F_X10_draw X10_draw_b80 F_X0_houseOf F_X0_madeOn
      rw [e_hasCard, Yb_some, bi_t (by omega), if_neg (by decide), e_checkRange, Yb_some, r0, if_pos rfl, xg, Yb_some, bi_t (by omega), if_neg (by decide), Zgd_t (by omega), Yb_some, Zgd_t (by omega), Yb_some, hc.1, hc.2.2.2.1, x1, Yb_some]
    · show F_X11_draw y1 c d = _
      unfold F_X11_draw X11_draw_b42
      rw [e_isCard, n0, Yb_some, bi_t (by omega), if_neg (by decide), e_out, Yb_some, r0, if_pos rfl, m1, Yb_some]
  · refine ⟨0, z, z, ?_, ?_, hK0, JN_1 hN⟩
    · unfold F_X10_draw X10_draw_b80
      rw [e_hasCard, Yb_some, bi_t (by omega), if_neg (by decide), e_checkRange, Yb_some, r0, if_pos rfl, xg, Yb_some, bi_f (by omega), if_pos rfl]
    · show F_X11_draw z c d = _
      have e1 : F_X11_drawOf z c d = some (0, z) := by
        unfold F_X11_drawOf X11_drawOf_b29
        rw [Zgd_t (by omega)]
        by_cases q : d < z 89 c
        · rw [if_pos q]
        · rw [if_neg q, Zgd_t (by omega), if_neg (by omega), Zgd_t (by omega), if_neg (by omega)]
      unfold F_X11_draw X11_draw_b42
      rw [e_isCard, Yb_some, bi_t (by omega), if_neg (by decide), e_out, Yb_some, r0, if_pos rfl, e1, Yb_some]
