theorem t_stateOf {n : Int} {z : ZI} (hK : K z) (hN : JN n z) (hn : n ≤ 1000) (p d : Int) : Both (F_X10_stateOf z p d) (fun z1 => F_X11_stateOf z1 p d) (fun z2 => K z2 ∧ JN (n + 1) z2) := by
  have hR := hN.R hn
  have hl := links hK
  have hK0 := hK
  obtain ⟨hD, hH, hP, hS, hL, hT, hE, hV, hA, hU, hC, hK, hW, hB, hG, hX, hQ, hO⟩ := hK
  by_cases c1 : ¬ (0 ≤ p ∧ p < z 68 13)
  · refine Both_ref hK0 hN (w := -1) hn (by omega) ?_ ?_
    · unfold F_X10_stateOf X10_stateOf_b47
      grind (gen := 20) [Yb_some, Zgd_i, Zl_eq, bi, e_refuse, e_hasPerson, e_checkRange, rng]
    · show F_X11_stateOf (zR z (-1)) p d = _
      unfold F_X11_stateOf X11_stateOf_b42
      grind (gen := 20) [Yb_some, Zgd_i, Zl_eq, bi, zR_d, zR_k, e_no, e_isPerson, e_out, rng]
  by_cases c2 : d < 0
  · refine Both_ref hK0 hN (w := -4) hn (by omega) ?_ ?_
    · unfold F_X10_stateOf X10_stateOf_b47
      grind (gen := 20) [Yb_some, Zgd_i, Zl_eq, bi, e_refuse, e_hasPerson, e_checkRange, rng]
    · show F_X11_stateOf (zR z (-4)) p d = _
      unfold F_X11_stateOf X11_stateOf_b42
      grind (gen := 20) [Yb_some, Zgd_i, Zl_eq, bi, zR_d, zR_k, e_no, e_isPerson, e_out, rng]
  by_cases c3 : 999 < d
  · refine Both_ref hK0 hN (w := -6) hn (by omega) ?_ ?_
    · unfold F_X10_stateOf X10_stateOf_b47
      grind (gen := 20) [Yb_some, Zgd_i, Zl_eq, bi, e_refuse, e_hasPerson, e_checkRange, rng]
    · show F_X11_stateOf (zR z (-6)) p d = _
      unfold F_X11_stateOf X11_stateOf_b42
      grind (gen := 20) [Yb_some, Zgd_i, Zl_eq, bi, zR_d, zR_k, e_no, e_isPerson, e_out, rng]
  have hp : 0 ≤ p ∧ p < z 68 13 := by omega
  have e1 := x_stateOn (d := d) hP hS hp
  have e2 := m_stateOn (d := d) hP hS hp
  refine ⟨stF z p d, z, z, ?_, ?_, hK0, JN_1 hN⟩
  · unfold F_X10_stateOf X10_stateOf_b47
    grind [Yb_some, bi, e_hasPerson, e_checkRange, rng]
  · show F_X11_stateOf z p d = _
    unfold F_X11_stateOf X11_stateOf_b42
    grind [Yb_some, bi, e_isPerson, e_out, rng]
theorem t_here {n : Int} {z : ZI} (hK : K z) (hN : JN n z) (hn : n ≤ 1000) (h d : Int) : Both (F_X10_here z h d) (fun z1 => F_X11_here z1 h d) (fun z2 => K z2 ∧ JN (n + 1) z2) := by
  have hR := hN.R hn
  have hl := links hK
  have hK0 := hK
  obtain ⟨hD, hH, hP, hS, hL, hT, hE, hV, hA, hU, hC, hK, hW, hB, hG, hX, hQ, hO⟩ := hK
  by_cases c1 : ¬ (0 ≤ h ∧ h < z 68 12)
  · refine Both_ref hK0 hN (w := -1) hn (by omega) ?_ ?_
    · unfold F_X10_here X10_here_b47
      grind (gen := 20) [Yb_some, Zgd_i, Zl_eq, bi, e_refuse, e_hasHouse, e_checkRange, rng]
    · show F_X11_here (zR z (-1)) h d = _
      unfold F_X11_here X11_here_b42
      grind (gen := 20) [Yb_some, Zgd_i, Zl_eq, bi, zR_d, zR_k, e_no, e_isHouse, e_out, rng]
  by_cases c2 : d < 0
  · refine Both_ref hK0 hN (w := -4) hn (by omega) ?_ ?_
    · unfold F_X10_here X10_here_b47
      grind (gen := 20) [Yb_some, Zgd_i, Zl_eq, bi, e_refuse, e_hasHouse, e_checkRange, rng]
    · show F_X11_here (zR z (-4)) h d = _
      unfold F_X11_here X11_here_b42
      grind (gen := 20) [Yb_some, Zgd_i, Zl_eq, bi, zR_d, zR_k, e_no, e_isHouse, e_out, rng]
  by_cases c3 : 999 < d
  · refine Both_ref hK0 hN (w := -6) hn (by omega) ?_ ?_
    · unfold F_X10_here X10_here_b47
      grind (gen := 20) [Yb_some, Zgd_i, Zl_eq, bi, e_refuse, e_hasHouse, e_checkRange, rng]
    · show F_X11_here (zR z (-6)) h d = _
      unfold F_X11_here X11_here_b42
      grind (gen := 20) [Yb_some, Zgd_i, Zl_eq, bi, zR_d, zR_k, e_no, e_isHouse, e_out, rng]
  have e1 := x_hereInHouse (h := h) (d := d) hP hS
  have e2 := m_hereOf (h := h) (d := d) hP hS
  refine ⟨hereH z h d, z, z, ?_, ?_, hK0, JN_1 hN⟩
  · unfold F_X10_here X10_here_b47
    grind [Yb_some, bi, e_hasHouse, e_checkRange, rng]
  · show F_X11_here z h d = _
    unfold F_X11_here X11_here_b42
    grind [Yb_some, bi, e_isHouse, e_out, rng]
