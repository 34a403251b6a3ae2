/-! latrines, drains, lanes, wells -/
theorem JT_push {z z2 : ZI} {c w : Int} (hT : JT z) (hc : 0 ≤ c ∧ c < 144) (hw : 1 ≤ w ∧ w ≤ 99999) (hn : z 68 61 < 14) (c0 : z2 68 61 = z 68 61 + 1) (c1 : z2 2 2 = z 68 61 + 1) (e0 : ∀ j, z2 108 j = if j = z 68 61 then c else z 108 j) (e1 : ∀ j, z2 109 j = if j = z 68 61 then w else z 109 j) (e2 : ∀ j, z2 4 j = if j = c then (if z 4 c = 0 ∨ w < z 4 c then w else z 4 c) else z 4 j) : JT z2 := by
  obtain ⟨a0, a1, a2, a3, a4⟩ := hT
  refine ⟨by omega, by omega, by omega, ?_, ?_⟩
  · intro k k1 k2
    rw [e0, e1]
    by_cases h : k = z 68 61
    · rw [if_pos h, if_pos h]; omega
    · rw [if_neg h, if_neg h]; exact a3 k k1 (by omega)
  · intro x x1 x2
    have q := a4 x x1 x2
    have hex : ∀ v, (∃ k, 0 ≤ k ∧ k < z2 68 61 ∧ z2 108 k = x ∧ z2 109 k ≤ v) ↔ ((x = c ∧ w ≤ v) ∨ ∃ k, 0 ≤ k ∧ k < z 68 61 ∧ z 108 k = x ∧ z 109 k ≤ v) := by
      intro v
      constructor
      · rintro ⟨k, k1, k2, k3, k4⟩
        rw [e0] at k3
        rw [e1] at k4
        by_cases h : k = z 68 61
        · rw [if_pos h] at k3 k4
          exact Or.inl ⟨k3.symm, k4⟩
        · rw [if_neg h] at k3 k4
          exact Or.inr ⟨k, k1, by omega, k3, k4⟩
      · rintro (⟨h1, h2⟩ | ⟨k, k1, k2, k3, k4⟩)
        · refine ⟨z 68 61, a1, by omega, ?_, ?_⟩
          · rw [e0, if_pos rfl]; exact h1.symm
          · rw [e1, if_pos rfl]; exact h2
        · refine ⟨k, k1, by omega, ?_, ?_⟩
          · rw [e0, if_neg (by omega)]; exact k3
          · rw [e1, if_neg (by omega)]; exact k4
    rw [e2]
    by_cases h : x = c
    · subst h
      rw [if_pos rfl]
      refine ⟨by split <;> omega, fun v => ?_⟩
      have qv := q.2 v
      rw [hex v, ← qv]
      have q1 := q.1
      clear hex qv q a3 a4 e0 e1 e2
      grind
    · rw [if_neg h]
      refine ⟨q.1, fun v => ?_⟩
      rw [hex v, ← q.2 v]
      constructor
      · exact Or.inr
      · rintro (⟨h1, _⟩ | h1)
        · exact absurd h1 h
        · exact h1
set_option maxHeartbeats 1000000 in
theorem t_latrine {n : Int} {z : ZI} (hK : K z) (hN : JN n z) (hn : n ≤ 1000) (c w : Int) : Both (F_X10_latrine z c w) (fun z1 => F_X11_latrine z1 c w) (fun z2 => K z2 ∧ JN (n + 1) z2) := by
  have hR := hN.R hn
  have hl := links hK
  have hK0 := hK
  obtain ⟨hD, hH, hP, hS, hL, hT, hE, hV, hA, hU, hC, hK, hW, hB, hG, hX, hQ, hO⟩ := hK
  by_cases c1 : ¬ (0 ≤ c ∧ c < 144)
  · refine Both_ref hK0 hN (w := -1) hn (by omega) ?_ ?_
    · unfold F_X10_latrine X10_latrine_b43
      grind (gen := 20) [Yb_some, Zgd_i, Zl_eq, bi, e_refuse, e_isCell, F_X4_addLatrine, X4_addLatrine_b19, X4_addLatrine_b26]
    · show F_X11_latrine (zR z (-1)) c w = _
      unfold F_X11_latrine X11_latrine_b39
      grind (gen := 20) [Yb_some, Zgd_i, Zl_eq, bi, zR_d, zR_k, e_no, e_mCell, e_out, rng]
  by_cases c2 : w < 1
  · refine Both_ref hK0 hN (w := -4) hn (by omega) ?_ ?_
    · unfold F_X10_latrine X10_latrine_b43
      grind (gen := 20) [Yb_some, Zgd_i, Zl_eq, bi, e_refuse, e_isCell, F_X4_addLatrine, X4_addLatrine_b19, X4_addLatrine_b26]
    · show F_X11_latrine (zR z (-4)) c w = _
      unfold F_X11_latrine X11_latrine_b39
      grind (gen := 20) [Yb_some, Zgd_i, Zl_eq, bi, zR_d, zR_k, e_no, e_mCell, e_out, rng]
  by_cases c3 : 99999 < w ∨ z 68 61 = 14
  · refine Both_ref hK0 hN (w := -6) hn (by omega) ?_ ?_
    · unfold F_X10_latrine X10_latrine_b43
      grind (gen := 20) [Yb_some, Zgd_i, Zl_eq, bi, e_refuse, e_isCell, F_X4_addLatrine, X4_addLatrine_b19, X4_addLatrine_b26]
    · show F_X11_latrine (zR z (-6)) c w = _
      unfold F_X11_latrine X11_latrine_b39
      grind (gen := 20) [Yb_some, Zgd_i, Zl_eq, bi, zR_d, zR_k, e_no, e_mCell, e_out, rng]
  have e2 : ∀ j, (if z 4 c = 0 ∨ w < z 4 c then Zup z 4 c w else z) 4 j = if j = c then (if z 4 c = 0 ∨ w < z 4 c then w else z 4 c) else z 4 j := by
    intro j
    split
    · exact Zup_ki
    · split
      · rename_i h; rw [h]
      · rfl
  by_cases hb : z 4 c = 0 ∨ w < z 4 c
  · simp only [hb, if_true] at e2
    refine ⟨z 68 61, Zup (Zup z 4 c w) 2 2 (z 68 61 + 1), Zup (Zup (Zup (Zup (Zup z 4 c w) 2 2 (z 68 61 + 1)) 108 (z 68 61) c) 109 (z 68 61) w) 68 61 (z 68 61 + 1), ?_, ?_, ?_, JN_up hN rfl rfl⟩
    · unfold F_X10_latrine X10_latrine_b43
      grind (gen := 30) [Yb_some, Zgd_i, Zl_eq, bi, Zup_d, e_isCell, F_X4_addLatrine, X4_addLatrine_b19, X4_addLatrine_b26]
    · show F_X11_latrine _ c w = _
      unfold F_X11_latrine X11_latrine_b39
      grind (gen := 30) [Yb_some, Zgd_i, Zl_eq, bi, Zup_d, e_mCell, e_out, rng]
    · exact ⟨(JD_c rfl rfl hD), (JH_c rfl rfl rfl rfl rfl rfl rfl hH), (JP_c rfl rfl rfl rfl rfl rfl rfl rfl rfl rfl rfl rfl hP), (JS_c rfl rfl rfl rfl rfl rfl rfl rfl rfl rfl rfl hS), (JL_c rfl rfl hL), JT_push hT (c := c) (w := w) (by omega) (by omega) (by omega) rfl rfl (fun j => (Zup_ki : Zup z 108 (z 68 61) (c) 108 j = _)) (fun j => (Zup_ki : Zup z 109 (z 68 61) (w) 109 j = _)) (fun j => by rw [if_pos hb]; exact e2 j), (JE_c rfl rfl rfl rfl hE), (JV_c rfl rfl rfl rfl hV), (JA_c rfl rfl rfl rfl hA), (JU_c rfl rfl rfl rfl rfl rfl rfl rfl rfl rfl hU), (JC_c rfl rfl rfl rfl rfl rfl rfl rfl rfl rfl hC), (JK_c rfl rfl rfl rfl rfl rfl rfl rfl rfl hK), (JW_c rfl rfl rfl rfl rfl rfl rfl rfl rfl rfl hW), (JB_c rfl rfl rfl rfl rfl rfl rfl rfl rfl rfl rfl rfl rfl rfl rfl rfl rfl rfl rfl rfl hB), (JG_c rfl rfl rfl rfl rfl hG), (JX_c rfl rfl rfl rfl rfl hX), (JQ_c rfl rfl rfl rfl rfl hQ), (JO_c rfl rfl rfl rfl rfl rfl rfl rfl rfl rfl rfl hO)⟩
  · simp only [hb, if_false] at e2
    refine ⟨z 68 61, Zup z 2 2 (z 68 61 + 1), Zup (Zup (Zup (Zup z 2 2 (z 68 61 + 1)) 108 (z 68 61) c) 109 (z 68 61) w) 68 61 (z 68 61 + 1), ?_, ?_, ?_, JN_up hN rfl rfl⟩
    · unfold F_X10_latrine X10_latrine_b43
      grind (gen := 30) [Yb_some, Zgd_i, Zl_eq, bi, Zup_d, e_isCell, F_X4_addLatrine, X4_addLatrine_b19, X4_addLatrine_b26]
    · show F_X11_latrine _ c w = _
      unfold F_X11_latrine X11_latrine_b39
      grind (gen := 30) [Yb_some, Zgd_i, Zl_eq, bi, Zup_d, e_mCell, e_out, rng]
    · exact ⟨(JD_c rfl rfl hD), (JH_c rfl rfl rfl rfl rfl rfl rfl hH), (JP_c rfl rfl rfl rfl rfl rfl rfl rfl rfl rfl rfl rfl hP), (JS_c rfl rfl rfl rfl rfl rfl rfl rfl rfl rfl rfl hS), (JL_c rfl rfl hL), JT_push hT (c := c) (w := w) (by omega) (by omega) (by omega) rfl rfl (fun j => (Zup_ki : Zup z 108 (z 68 61) (c) 108 j = _)) (fun j => (Zup_ki : Zup z 109 (z 68 61) (w) 109 j = _)) (fun j => by rw [if_neg hb]; exact e2 j), (JE_c rfl rfl rfl rfl hE), (JV_c rfl rfl rfl rfl hV), (JA_c rfl rfl rfl rfl hA), (JU_c rfl rfl rfl rfl rfl rfl rfl rfl rfl rfl hU), (JC_c rfl rfl rfl rfl rfl rfl rfl rfl rfl rfl hC), (JK_c rfl rfl rfl rfl rfl rfl rfl rfl rfl hK), (JW_c rfl rfl rfl rfl rfl rfl rfl rfl rfl rfl hW), (JB_c rfl rfl rfl rfl rfl rfl rfl rfl rfl rfl rfl rfl rfl rfl rfl rfl rfl rfl rfl rfl hB), (JG_c rfl rfl rfl rfl rfl hG), (JX_c rfl rfl rfl rfl rfl hX), (JQ_c rfl rfl rfl rfl rfl hQ), (JO_c rfl rfl rfl rfl rfl rfl rfl rfl rfl rfl rfl hO)⟩
theorem e_isDrain {z : ZI} {c : Int} (hc : 0 ≤ c ∧ c < 144) : F_X4_isDrain z c = some (bi (z 5 c ≠ -9), z) := by
  unfold F_X4_isDrain X4_isDrain_b16
  grind [Zgd_i, bi]
theorem e_isLane {z : ZI} {c : Int} (hc : 0 ≤ c ∧ c < 30) : F_X2_isLane z c = some (bi (z 55 c ≠ -9), z) := by
  unfold F_X2_isLane X2_isLane_b16
  grind [Zgd_i, bi]
theorem srch_ne (a : Int → Int) (c : Int) (n : Nat) (k : Int) (hk : 0 ≤ k) : srch a c n k = -9 ∨ 0 ≤ srch a c n k := by
  rcases srch_r a c n k hk with h | h
  · exact Or.inl h
  · exact Or.inr (by omega)
theorem m_drain_L {z : ZI} {c : Int} (h4 : 0 ≤ z 68 62 ∧ z 68 62 ≤ 10) : ∀ (n k f : Nat), k + n = (z 68 62).toNat → n < f → X11_drain_L15 f z c (k : Int) = (if srch (z 110) c n k = -9 then X11_drain_b46 z c else X11_drain_b33 z) := by
  intro n
  induction n with
  | zero =>
    intro k f hk hf
    obtain ⟨f, rfl⟩ : ∃ g, f = g + 1 := ⟨f - 1, by omega⟩
    show X11_drain_L15b (X11_drain_L15 f) z c (k : Int) = _
    unfold X11_drain_L15b 
    grind [Zgd_i, srch.eq_1, srch.eq_2]
  | succ n ih =>
    intro k f hk hf
    obtain ⟨f, rfl⟩ : ∃ g, f = g + 1 := ⟨f - 1, by omega⟩
    have e := ih (k + 1) f (by omega) (by omega)
    clear ih
    show X11_drain_L15b (X11_drain_L15 f) z c (k : Int) = _
    unfold X11_drain_L15b 
    grind [Zgd_i, srch.eq_1, srch.eq_2]
theorem m_lane_L {z : ZI} {c : Int} (h4 : 0 ≤ z 68 70 ∧ z 68 70 ≤ 8) : ∀ (n k f : Nat), k + n = (z 68 70).toNat → n < f → X11_lane_L16 f z c (k : Int) = (if srch (z 116) c n k = -9 then X11_lane_b47 z c else X11_lane_b34 z) := by
  intro n
  induction n with
  | zero =>
    intro k f hk hf
    obtain ⟨f, rfl⟩ : ∃ g, f = g + 1 := ⟨f - 1, by omega⟩
    show X11_lane_L16b (X11_lane_L16 f) z c (k : Int) = _
    unfold X11_lane_L16b 
    grind [Zgd_i, srch.eq_1, srch.eq_2]
  | succ n ih =>
    intro k f hk hf
    obtain ⟨f, rfl⟩ : ∃ g, f = g + 1 := ⟨f - 1, by omega⟩
    have e := ih (k + 1) f (by omega) (by omega)
    clear ih
    show X11_lane_L16b (X11_lane_L16 f) z c (k : Int) = _
    unfold X11_lane_L16b 
    grind [Zgd_i, srch.eq_1, srch.eq_2]
theorem m_drainS {z zz : ZI} {c : Int} (hE : JE z) (h1 : zz 110 = z 110) (h2 : zz 68 62 = z 68 62) : X11_drain_L15 Zfuel zz c 0 = (if srch (z 110) c (z 68 62).toNat 0 = -9 then X11_drain_b46 zz c else X11_drain_b33 zz) := by
  have e := m_drain_L (z := zz) (c := c) (by rw [h2]; exact ⟨hE.2.1, hE.2.2.1⟩) (z 68 62).toNat 0 Zfuel (by rw [h2]; omega) (by have := hE.2.2.1; unfold Zfuel; omega)
  rw [h1] at e
  exact e
theorem m_laneS {z zz : ZI} {c : Int} (hX : JX z) (h1 : zz 116 = z 116) (h2 : zz 68 70 = z 68 70) : X11_lane_L16 Zfuel zz c 0 = (if srch (z 116) c (z 68 70).toNat 0 = -9 then X11_lane_b47 zz c else X11_lane_b34 zz) := by
  have e := m_lane_L (z := zz) (c := c) (by rw [h2]; exact ⟨hX.2.1, hX.2.2.1⟩) (z 68 70).toNat 0 Zfuel (by rw [h2]; omega) (by have := hX.2.2.1; unfold Zfuel; omega)
  rw [h1] at e
  exact e
set_option maxHeartbeats 1000000 in
theorem t_drain {n : Int} {z : ZI} (hK : K z) (hN : JN n z) (hn : n ≤ 1000) (c : Int) : Both (F_X10_drain z c) (fun z1 => F_X11_drain z1 c) (fun z2 => K z2 ∧ JN (n + 1) z2) := by
  have hR := hN.R hn
  have hl := links hK
  have hK0 := hK
  obtain ⟨hD, hH, hP, hS, hL, hT, hE, hV, hA, hU, hC, hK, hW, hB, hG, hX, hQ, hO⟩ := hK
  have h3 := m_drainS (c := c) (zz := zR z (-3)) hE rfl rfl
  have h6 := m_drainS (c := c) (zz := zR z (-6)) hE rfl rfl
  by_cases c1 : ¬ (0 ≤ c ∧ c < 144)
  · refine Both_ref hK0 hN (w := -1) hn (by omega) ?_ ?_
    · unfold F_X10_drain 
      grind (gen := 20) [Yb_some, Zgd_i, Zl_eq, bi, e_refuse, e_isCell, e_isDrain, F_X4_addDrain]
    · show F_X11_drain (zR z (-1)) c = _
      unfold F_X11_drain 
      grind (gen := 20) [Yb_some, Zgd_i, Zl_eq, bi, zR_d, zR_k, e_no, e_mCell, X11_drain_b46, X11_drain_b33]
  have hon := hE.2.2.2.2.2 c (by omega) (by omega)
  have hsr := srch_ne (z 110) c (z 68 62).toNat 0 (Int.le_refl _)
  by_cases c2 : z 5 c ≠ -9
  · refine Both_ref hK0 hN (w := -3) hn (by omega) ?_ ?_
    · unfold F_X10_drain 
      grind (gen := 20) [Yb_some, Zgd_i, Zl_eq, bi, e_refuse, e_isCell, e_isDrain, F_X4_addDrain]
    · show F_X11_drain (zR z (-3)) c = _
      unfold F_X11_drain 
      grind (gen := 20) [Yb_some, Zgd_i, Zl_eq, bi, zR_d, zR_k, e_no, e_mCell, X11_drain_b46, X11_drain_b33]
  by_cases c3 : z 68 62 = 10
  · refine Both_ref hK0 hN (w := -6) hn (by omega) ?_ ?_
    · unfold F_X10_drain 
      grind (gen := 20) [Yb_some, Zgd_i, Zl_eq, bi, e_refuse, e_isCell, e_isDrain, F_X4_addDrain]
    · show F_X11_drain (zR z (-6)) c = _
      unfold F_X11_drain 
      grind (gen := 20) [Yb_some, Zgd_i, Zl_eq, bi, zR_d, zR_k, e_no, e_mCell, X11_drain_b46, X11_drain_b33]
  have hs9 : srch (z 110) c (z 68 62).toNat 0 = -9 := by omega
  have hno := srch_no (z 110) c (z 68 62).toNat 0 (Int.le_refl _) hs9
  have h7 := m_drainS (c := c) (zz := Zup (Zup z 5 c (z 68 62)) 2 4 (z 68 62 + 1)) hE rfl rfl
  refine ⟨z 68 62, (Zup (Zup z 5 c (z 68 62)) 2 4 (z 68 62 + 1)), (Zup (Zup (Zup (Zup z 5 c (z 68 62)) 2 4 (z 68 62 + 1)) 110 (z 68 62) c) 68 62 (z 68 62 + 1)), ?_, ?_, ?_, JN_up hN rfl rfl⟩
  · unfold F_X10_drain 
    grind (gen := 30) [Yb_some, Zgd_i, Zl_eq, bi, Zup_d, e_isCell, e_isDrain, F_X4_addDrain]
  · show F_X11_drain _ c = _
    unfold F_X11_drain 
    grind (gen := 30) [Yb_some, Zgd_i, Zl_eq, bi, Zup_d, e_mCell, X11_drain_b46, X11_drain_b33]
  · exact ⟨(JD_c rfl rfl hD), (JH_c rfl rfl rfl rfl rfl rfl rfl hH), (JP_c rfl rfl rfl rfl rfl rfl rfl rfl rfl rfl rfl rfl hP), (JS_c rfl rfl rfl rfl rfl rfl rfl rfl rfl rfl rfl hS), (JL_c rfl rfl hL), (JT_c rfl rfl rfl rfl rfl hT), JE_push hE (v := c) (by omega) (fun k q1 q2 => hno k q1 (by omega)) hs9 (fun j => (Zup_ki : Zup z 5 (c) (z 68 62) 5 j = _)) (by omega) rfl rfl (fun j => (Zup_ki : Zup z 110 (z 68 62) (c) 110 j = _)), (JV_c rfl rfl rfl rfl hV), (JA_c rfl rfl rfl rfl hA), (JU_c rfl rfl rfl rfl rfl rfl rfl rfl rfl rfl hU), (JC_c rfl rfl rfl rfl rfl rfl rfl rfl rfl rfl hC), (JK_c rfl rfl rfl rfl rfl rfl rfl rfl rfl hK), (JW_c rfl rfl rfl rfl rfl rfl rfl rfl rfl rfl hW), (JB_c rfl rfl rfl rfl rfl rfl rfl rfl rfl rfl rfl rfl rfl rfl rfl rfl rfl rfl rfl rfl hB), (JG_c rfl rfl rfl rfl rfl hG), (JX_c rfl rfl rfl rfl rfl hX), (JQ_c rfl rfl rfl rfl rfl hQ), (JO_c rfl rfl rfl rfl rfl rfl rfl rfl rfl rfl rfl hO)⟩
set_option maxHeartbeats 1000000 in
theorem t_lane {n : Int} {z : ZI} (hK : K z) (hN : JN n z) (hn : n ≤ 1000) (c : Int) : Both (F_X10_lane z c) (fun z1 => F_X11_lane z1 c) (fun z2 => K z2 ∧ JN (n + 1) z2) := by
  have hR := hN.R hn
  have hl := links hK
  have hK0 := hK
  obtain ⟨hD, hH, hP, hS, hL, hT, hE, hV, hA, hU, hC, hK, hW, hB, hG, hX, hQ, hO⟩ := hK
  have h3 := m_laneS (c := c) (zz := zR z (-3)) hX rfl rfl
  have h6 := m_laneS (c := c) (zz := zR z (-6)) hX rfl rfl
  by_cases c1 : ¬ (0 ≤ c ∧ c < z 68 12)
  · refine Both_ref hK0 hN (w := -1) hn (by omega) ?_ ?_
    · unfold F_X10_lane 
      grind (gen := 20) [Yb_some, Zgd_i, Zl_eq, bi, e_refuse, e_hasHouse, e_isLane, F_X2_addLane]
    · show F_X11_lane (zR z (-1)) c = _
      unfold F_X11_lane 
      grind (gen := 20) [Yb_some, Zgd_i, Zl_eq, bi, zR_d, zR_k, e_no, e_isHouse, X11_lane_b47, X11_lane_b34]
  have hon := hX.2.2.2.2.2 c (by omega) (by omega)
  have hsr := srch_ne (z 116) c (z 68 70).toNat 0 (Int.le_refl _)
  by_cases c2 : z 55 c ≠ -9
  · refine Both_ref hK0 hN (w := -3) hn (by omega) ?_ ?_
    · unfold F_X10_lane 
      grind (gen := 20) [Yb_some, Zgd_i, Zl_eq, bi, e_refuse, e_hasHouse, e_isLane, F_X2_addLane]
    · show F_X11_lane (zR z (-3)) c = _
      unfold F_X11_lane 
      grind (gen := 20) [Yb_some, Zgd_i, Zl_eq, bi, zR_d, zR_k, e_no, e_isHouse, X11_lane_b47, X11_lane_b34]
  by_cases c3 : z 68 70 = 8
  · refine Both_ref hK0 hN (w := -6) hn (by omega) ?_ ?_
    · unfold F_X10_lane 
      grind (gen := 20) [Yb_some, Zgd_i, Zl_eq, bi, e_refuse, e_hasHouse, e_isLane, F_X2_addLane]
    · show F_X11_lane (zR z (-6)) c = _
      unfold F_X11_lane 
      grind (gen := 20) [Yb_some, Zgd_i, Zl_eq, bi, zR_d, zR_k, e_no, e_isHouse, X11_lane_b47, X11_lane_b34]
  have hs9 : srch (z 116) c (z 68 70).toNat 0 = -9 := by omega
  have hno := srch_no (z 116) c (z 68 70).toNat 0 (Int.le_refl _) hs9
  have h7 := m_laneS (c := c) (zz := Zup (Zup z 55 c (z 68 70)) 54 0 (z 68 70 + 1)) hX rfl rfl
  refine ⟨z 68 70, (Zup (Zup z 55 c (z 68 70)) 54 0 (z 68 70 + 1)), (Zup (Zup (Zup (Zup z 55 c (z 68 70)) 54 0 (z 68 70 + 1)) 116 (z 68 70) c) 68 70 (z 68 70 + 1)), ?_, ?_, ?_, JN_up hN rfl rfl⟩
  · unfold F_X10_lane 
    grind (gen := 30) [Yb_some, Zgd_i, Zl_eq, bi, Zup_d, e_hasHouse, e_isLane, F_X2_addLane]
  · show F_X11_lane _ c = _
    unfold F_X11_lane 
    grind (gen := 30) [Yb_some, Zgd_i, Zl_eq, bi, Zup_d, e_isHouse, X11_lane_b47, X11_lane_b34]
  · exact ⟨(JD_c rfl rfl hD), (JH_c rfl rfl rfl rfl rfl rfl rfl hH), (JP_c rfl rfl rfl rfl rfl rfl rfl rfl rfl rfl rfl rfl hP), (JS_c rfl rfl rfl rfl rfl rfl rfl rfl rfl rfl rfl hS), (JL_c rfl rfl hL), (JT_c rfl rfl rfl rfl rfl hT), (JE_c rfl rfl rfl rfl hE), (JV_c rfl rfl rfl rfl hV), (JA_c rfl rfl rfl rfl hA), (JU_c rfl rfl rfl rfl rfl rfl rfl rfl rfl rfl hU), (JC_c rfl rfl rfl rfl rfl rfl rfl rfl rfl rfl hC), (JK_c rfl rfl rfl rfl rfl rfl rfl rfl rfl hK), (JW_c rfl rfl rfl rfl rfl rfl rfl rfl rfl rfl hW), (JB_c rfl rfl rfl rfl rfl rfl rfl rfl rfl rfl rfl rfl rfl rfl rfl rfl rfl rfl rfl rfl hB), (JG_c rfl rfl rfl rfl rfl hG), JX_push hX (v := c) (by omega) (fun k q1 q2 => hno k q1 (by omega)) hs9 (fun j => (Zup_ki : Zup z 55 (c) (z 68 70) 55 j = _)) (by omega) rfl rfl rfl (fun j => (Zup_ki : Zup z 116 (z 68 70) (c) 116 j = _)), (JQ_c rfl rfl rfl rfl rfl hQ), (JO_c rfl rfl rfl rfl rfl rfl rfl rfl rfl rfl rfl hO)⟩
set_option maxHeartbeats 1000000 in
theorem t_well {n : Int} {z : ZI} (hK : K z) (hN : JN n z) (hn : n ≤ 1000) (c y d : Int) : Both (F_X10_well z c y d) (fun z1 => F_X11_well z1 c y d) (fun z2 => K z2 ∧ JN (n + 1) z2) := by
  have hR := hN.R hn
  have hl := links hK
  have hK0 := hK
  obtain ⟨hD, hH, hP, hS, hL, hT, hE, hV, hA, hU, hC, hK, hW, hB, hG, hX, hQ, hO⟩ := hK
  by_cases c1 : ¬ (0 ≤ c ∧ c < 144)
  · refine Both_ref hK0 hN (w := -1) hn (by omega) ?_ ?_
    · unfold F_X10_well X10_well_b55 X10_well_b23
      grind (gen := 20) [Yb_some, Zgd_i, Zl_eq, bi, e_refuse, e_isCell, F_X9_dig]
    · show F_X11_well (zR z (-1)) c y d = _
      unfold F_X11_well X11_well_b50 X11_well_b23 X11_well_b56
      grind (gen := 20) [Yb_some, Zgd_i, Zl_eq, bi, zR_d, zR_k, e_no, e_mCell]
  by_cases c2 : y < 1 ∨ d < 1
  · refine Both_ref hK0 hN (w := -4) hn (by omega) ?_ ?_
    · unfold F_X10_well X10_well_b55 X10_well_b23
      grind (gen := 20) [Yb_some, Zgd_i, Zl_eq, bi, e_refuse, e_isCell, F_X9_dig]
    · show F_X11_well (zR z (-4)) c y d = _
      unfold F_X11_well X11_well_b50 X11_well_b23 X11_well_b56
      grind (gen := 20) [Yb_some, Zgd_i, Zl_eq, bi, zR_d, zR_k, e_no, e_mCell]
  by_cases c3 : 99 < y ∨ 9999 < d ∨ z 68 47 = 6
  · refine Both_ref hK0 hN (w := -6) hn (by omega) ?_ ?_
    · unfold F_X10_well X10_well_b55 X10_well_b23
      grind (gen := 20) [Yb_some, Zgd_i, Zl_eq, bi, e_refuse, e_isCell, F_X9_dig]
    · show F_X11_well (zR z (-6)) c y d = _
      unfold F_X11_well X11_well_b50 X11_well_b23 X11_well_b56
      grind (gen := 20) [Yb_some, Zgd_i, Zl_eq, bi, zR_d, zR_k, e_no, e_mCell]
  refine ⟨z 68 47, (Zup (Zup (Zup (Zup (Zup z 42 (z 68 47) c) 43 (z 68 47) y) 44 (z 68 47) d) 41 14 0) 41 0 (z 68 47 + 1)), (Zup (Zup (Zup (Zup (Zup (Zup (Zup (Zup (Zup z 42 (z 68 47) c) 43 (z 68 47) y) 44 (z 68 47) d) 41 14 0) 41 0 (z 68 47 + 1)) 95 (z 68 47) c) 96 (z 68 47) y) 97 (z 68 47) d) 68 47 (z 68 47 + 1)), ?_, ?_, ?_, JN_up hN rfl rfl⟩
  · unfold F_X10_well X10_well_b55 X10_well_b23
    grind (gen := 30) [Yb_some, Zgd_i, Zl_eq, bi, Zup_d, e_isCell, F_X9_dig]
  · show F_X11_well _ c y d = _
    unfold F_X11_well X11_well_b50 X11_well_b23 X11_well_b56
    grind (gen := 30) [Yb_some, Zgd_i, Zl_eq, bi, Zup_d, e_mCell]
  · exact ⟨(JD_c rfl rfl hD), (JH_c rfl rfl rfl rfl rfl rfl rfl hH), (JP_c rfl rfl rfl rfl rfl rfl rfl rfl rfl rfl rfl rfl hP), (JS_c rfl rfl rfl rfl rfl rfl rfl rfl rfl rfl rfl hS), (JL_c rfl rfl hL), (JT_c rfl rfl rfl rfl rfl hT), (JE_c rfl rfl rfl rfl hE), (JV_c rfl rfl rfl rfl hV), (JA_c rfl rfl rfl rfl hA), (JU_c rfl rfl rfl rfl rfl rfl rfl rfl rfl rfl hU), (JC_c rfl rfl rfl rfl rfl rfl rfl rfl rfl rfl hC), (JK_c rfl rfl rfl rfl rfl rfl rfl rfl rfl hK), JW_push hW (c := c) (y := y) (d := d) (by omega) (by omega) (by omega) (by omega) rfl rfl rfl rfl (fun j => (Zup_ki : Zup z 42 (z 68 47) (c) 42 j = _)) (fun j => (Zup_ki : Zup z 95 (z 68 47) (c) 95 j = _)) (fun j => (Zup_ki : Zup z 43 (z 68 47) (y) 43 j = _)) (fun j => (Zup_ki : Zup z 96 (z 68 47) (y) 96 j = _)) (fun j => (Zup_ki : Zup z 44 (z 68 47) (d) 44 j = _)) (fun j => (Zup_ki : Zup z 97 (z 68 47) (d) 97 j = _)), ⟨hB.1, Or.inl rfl⟩, (JG_c rfl rfl rfl rfl rfl hG), (JX_c rfl rfl rfl rfl rfl hX), (JQ_c rfl rfl rfl rfl rfl hQ), (JO_c rfl rfl rfl rfl rfl rfl rfl rfl rfl rfl rfl hO)⟩
theorem JW_set {z z2 : ZI} {b h : Int} (hW : JW z) (hh : 4 ≤ h ∧ h ≤ 20) (s0 : z2 68 47 = z 68 47) (s1 : z2 41 0 = z 41 0) (s2 : z2 42 = z 42) (s3 : z2 95 = z 95) (s4 : z2 43 = z 43) (s5 : z2 96 = z 96) (s6 : z2 44 = z 44) (s7 : z2 97 = z 97) (e1 : ∀ j, z2 45 j = if j = b then h else z 45 j) (e2 : ∀ j, z2 98 j = if j = b then h else z 98 j) : JW z2 := by
  obtain ⟨a0, a1, a2, a3, a4⟩ := hW
  unfold JW
  simp only [s0, s1, s2, s3, s4, s5, s6, s7, e1, e2]
  refine ⟨a0, a1, a2, a3, fun k k1 k2 => ?_⟩
  by_cases q : k = b
  · rw [if_pos q, if_pos q]; omega
  · rw [if_neg q, if_neg q]; exact a4 k k1 k2
set_option maxHeartbeats 1000000 in
theorem t_block {n : Int} {z : ZI} (hK : K z) (hN : JN n z) (hn : n ≤ 1000) (b h : Int) : Both (F_X10_block z b h) (fun z1 => F_X11_block z1 b h) (fun z2 => K z2 ∧ JN (n + 1) z2) := by
  have hR := hN.R hn
  have hl := links hK
  have hK0 := hK
  obtain ⟨hD, hH, hP, hS, hL, hT, hE, hV, hA, hU, hC, hK, hW, hB, hG, hX, hQ, hO⟩ := hK
  by_cases c1 : ¬ (0 ≤ b ∧ b ≤ 3)
  · refine Both_ref hK0 hN (w := -1) hn (by omega) ?_ ?_
    · unfold F_X10_block X10_block_b42
      grind (gen := 20) [Yb_some, Zgd_i, Zl_eq, bi, e_refuse, e_isBlock, e_checkRange, rng, F_X9_begin]
    · show F_X11_block (zR z (-1)) b h = _
      unfold F_X11_block 
      grind (gen := 20) [Yb_some, Zgd_i, Zl_eq, bi, zR_d, zR_k, e_no, e_isIn, e_out, rng]
  by_cases c2 : h < 4
  · refine Both_ref hK0 hN (w := -4) hn (by omega) ?_ ?_
    · unfold F_X10_block X10_block_b42
      grind (gen := 20) [Yb_some, Zgd_i, Zl_eq, bi, e_refuse, e_isBlock, e_checkRange, rng, F_X9_begin]
    · show F_X11_block (zR z (-4)) b h = _
      unfold F_X11_block 
      grind (gen := 20) [Yb_some, Zgd_i, Zl_eq, bi, zR_d, zR_k, e_no, e_isIn, e_out, rng]
  by_cases c3 : 20 < h
  · refine Both_ref hK0 hN (w := -6) hn (by omega) ?_ ?_
    · unfold F_X10_block X10_block_b42
      grind (gen := 20) [Yb_some, Zgd_i, Zl_eq, bi, e_refuse, e_isBlock, e_checkRange, rng, F_X9_begin]
    · show F_X11_block (zR z (-6)) b h = _
      unfold F_X11_block 
      grind (gen := 20) [Yb_some, Zgd_i, Zl_eq, bi, zR_d, zR_k, e_no, e_isIn, e_out, rng]
  have hq := hW.2.2.2.2 b (by omega) (by omega)
  refine ⟨z 98 b, (Zup z 45 b h), (Zup (Zup z 45 b h) 98 b h), ?_, ?_, ?_, JN_up hN rfl rfl⟩
  · unfold F_X10_block X10_block_b42
    grind (gen := 30) [Yb_some, Zgd_i, Zl_eq, bi, Zup_d, e_isBlock, e_checkRange, rng, F_X9_begin]
  · show F_X11_block _ b h = _
    unfold F_X11_block 
    grind (gen := 30) [Yb_some, Zgd_i, Zl_eq, bi, Zup_d, e_isIn, e_out, rng]
  · exact ⟨(JD_c rfl rfl hD), (JH_c rfl rfl rfl rfl rfl rfl rfl hH), (JP_c rfl rfl rfl rfl rfl rfl rfl rfl rfl rfl rfl rfl hP), (JS_c rfl rfl rfl rfl rfl rfl rfl rfl rfl rfl rfl hS), (JL_c rfl rfl hL), (JT_c rfl rfl rfl rfl rfl hT), (JE_c rfl rfl rfl rfl hE), (JV_c rfl rfl rfl rfl hV), (JA_c rfl rfl rfl rfl hA), (JU_c rfl rfl rfl rfl rfl rfl rfl rfl rfl rfl hU), (JC_c rfl rfl rfl rfl rfl rfl rfl rfl rfl rfl hC), (JK_c rfl rfl rfl rfl rfl rfl rfl rfl rfl hK), JW_set hW (b := b) (h := h) (by omega) rfl rfl rfl rfl rfl rfl rfl rfl (fun j => (Zup_ki : Zup z 45 (b) (h) 45 j = _)) (fun j => (Zup_ki : Zup z 98 (b) (h) 98 j = _)), (JB_c rfl rfl rfl rfl rfl rfl rfl rfl rfl rfl rfl rfl rfl rfl rfl rfl rfl rfl rfl rfl hB), (JG_c rfl rfl rfl rfl rfl hG), (JX_c rfl rfl rfl rfl rfl hX), (JQ_c rfl rfl rfl rfl rfl hQ), (JO_c rfl rfl rfl rfl rfl rfl rfl rfl rfl rfl rfl hO)⟩
