theorem e_isEnded {z : ZI} {c : Int} (hc : 0 ≤ c ∧ c < 40) : F_X0_isEnded z c = some (bi (z 36 c ≠ -9), z) := by
  unfold F_X0_isEnded X0_isEnded_b16
  grind [Zgd_i, bi]
set_option maxHeartbeats 1000000 in
theorem t_card {n : Int} {z : ZI} (hK : K z) (hN : JN n z) (hn : n ≤ 1000) (h : Int) : Both (F_X10_card z h) (fun z1 => F_X11_card z1 h) (fun z2 => K z2 ∧ JN (n + 1) z2) := by
  have hR := hN.R hn
  have hl := links hK
  have hK0 := hK
  obtain ⟨hD, hH, hP, hS, hL, hT, hE, hV, hA, hU, hC, hK, hW, hB, hG, hX, hQ, hO⟩ := hK
  by_cases c1 : ¬ (0 ≤ h ∧ h < z 68 12)
  · refine Both_ref hK0 hN (w := -1) hn (by omega) ?_ ?_
    · unfold F_X10_card 
      grind (gen := 20) [Yb_some, Zgd_i, Zl_eq, bi, e_refuse, e_hasHouse, F_X0_make]
    · show F_X11_card (zR z (-1)) h = _
      unfold F_X11_card 
      grind (gen := 20) [Yb_some, Zgd_i, Zl_eq, bi, zR_d, zR_k, e_no, e_isHouse]
  by_cases c2 : z 68 34 = 40
  · refine Both_ref hK0 hN (w := -6) hn (by omega) ?_ ?_
    · unfold F_X10_card 
      grind (gen := 20) [Yb_some, Zgd_i, Zl_eq, bi, e_refuse, e_hasHouse, F_X0_make]
    · show F_X11_card (zR z (-6)) h = _
      unfold F_X11_card 
      grind (gen := 20) [Yb_some, Zgd_i, Zl_eq, bi, zR_d, zR_k, e_no, e_isHouse]
  refine ⟨z 68 34, (Zup (Zup (Zup (Zup z 34 (z 68 34) h) 35 (z 68 34) (z 68 11)) 36 (z 68 34) (-9)) 33 0 (z 68 34 + 1)), (Zup (Zup (Zup (Zup (Zup (Zup (Zup (Zup z 34 (z 68 34) h) 35 (z 68 34) (z 68 11)) 36 (z 68 34) (-9)) 33 0 (z 68 34 + 1)) 88 (z 68 34) h) 89 (z 68 34) (z 68 11)) 90 (z 68 34) (-1)) 68 34 (z 68 34 + 1)), ?_, ?_, ?_, JN_up hN rfl rfl⟩
  · unfold F_X10_card 
    grind (gen := 30) [Yb_some, Zgd_i, Zl_eq, bi, Zup_d, e_hasHouse, F_X0_make]
  · show F_X11_card _ h = _
    unfold F_X11_card 
    grind (gen := 30) [Yb_some, Zgd_i, Zl_eq, bi, Zup_d, e_isHouse]
  · exact ⟨(JD_c rfl rfl hD), (JH_c rfl rfl rfl rfl rfl rfl rfl hH), (JP_c rfl rfl rfl rfl rfl rfl rfl rfl rfl rfl rfl rfl hP), (JS_c rfl rfl rfl rfl rfl rfl rfl rfl rfl rfl rfl hS), (JL_c rfl rfl hL), (JT_c rfl rfl rfl rfl rfl hT), (JE_c rfl rfl rfl rfl hE), (JV_c rfl rfl rfl rfl hV), (JA_c rfl rfl rfl rfl hA), (JU_c rfl rfl rfl rfl rfl rfl rfl rfl rfl rfl hU), JC_push hC (h := h) (by omega) (by omega) (by omega) rfl rfl rfl rfl (fun j => (Zup_ki : Zup z 34 (z 68 34) (h) 34 j = _)) (fun j => (Zup_ki : Zup z 88 (z 68 34) (h) 88 j = _)) (fun j => (Zup_ki : Zup z 35 (z 68 34) (z 68 11) 35 j = _)) (fun j => (Zup_ki : Zup z 89 (z 68 34) (z 68 11) 89 j = _)) (fun j => (Zup_ki : Zup z 36 (z 68 34) (-9) 36 j = _)) (fun j => (Zup_ki : Zup z 90 (z 68 34) (-1) 90 j = _)), (JK_c rfl rfl rfl rfl rfl rfl rfl rfl rfl hK), (JW_c rfl rfl rfl rfl rfl rfl rfl rfl rfl rfl hW), (JB_c rfl rfl rfl rfl rfl rfl rfl rfl rfl rfl rfl rfl rfl rfl rfl rfl rfl rfl rfl rfl hB), (JG_c rfl rfl rfl rfl rfl hG), (JX_c rfl rfl rfl rfl rfl hX), (JQ_c rfl rfl rfl rfl rfl hQ), (JO_c rfl rfl rfl rfl rfl rfl rfl rfl rfl rfl rfl hO)⟩
theorem JC_end {z z2 : ZI} {c : Int} (hC : JC z) (hc : 0 ≤ c ∧ c < z 68 34) (hd : 0 ≤ z 68 11) (s0 : z2 68 34 = z 68 34) (s1 : z2 33 0 = z 33 0) (s2 : z2 68 12 = z 68 12) (s3 : z2 68 11 = z 68 11) (s4 : z2 34 = z 34) (s5 : z2 88 = z 88) (s6 : z2 35 = z 35) (s7 : z2 89 = z 89) (e1 : ∀ j, z2 36 j = if j = c then z 68 11 else z 36 j) (e2 : ∀ j, z2 90 j = if j = c then z 68 11 else z 90 j) : JC z2 := by
  obtain ⟨a0, a1, a2, a3⟩ := hC
  unfold JC
  simp only [s0, s1, s2, s3, s4, s5, s6, s7, e1, e2]
  refine ⟨a0, a1, a2, fun k k1 k2 => ?_⟩
  have q := a3 k k1 k2
  by_cases h : k = c
  · simp only [h, eq_self, if_true, true_and, and_true]
    subst h
    omega
  · simp only [h, if_false]
    exact q
set_option maxHeartbeats 1000000 in
theorem t_end {n : Int} {z : ZI} (hK : K z) (hN : JN n z) (hn : n ≤ 1000) (c : Int) : Both (F_X10_end z c) (fun z1 => F_X11_end z1 c) (fun z2 => K z2 ∧ JN (n + 1) z2) := by
  have hR := hN.R hn
  have hl := links hK
  have hK0 := hK
  obtain ⟨hD, hH, hP, hS, hL, hT, hE, hV, hA, hU, hC, hK, hW, hB, hG, hX, hQ, hO⟩ := hK
  by_cases c1 : ¬ (0 ≤ c ∧ c < z 68 34)
  · refine Both_ref hK0 hN (w := -1) hn (by omega) ?_ ?_
    · unfold F_X10_end 
      grind (gen := 20) [Yb_some, Zgd_i, Zl_eq, bi, e_refuse, e_hasCard, e_isEnded, F_X0_close]
    · show F_X11_end (zR z (-1)) c = _
      unfold F_X11_end 
      grind (gen := 20) [Yb_some, Zgd_i, Zl_eq, bi, zR_d, zR_k, e_no, e_isCard]
  have hq := hC.2.2.2 c (by omega) (by omega)
  by_cases c2 : 0 ≤ z 90 c
  · refine Both_ref hK0 hN (w := -3) hn (by omega) ?_ ?_
    · unfold F_X10_end 
      grind (gen := 20) [Yb_some, Zgd_i, Zl_eq, bi, e_refuse, e_hasCard, e_isEnded, F_X0_close]
    · show F_X11_end (zR z (-3)) c = _
      unfold F_X11_end 
      grind (gen := 20) [Yb_some, Zgd_i, Zl_eq, bi, zR_d, zR_k, e_no, e_isCard]
  refine ⟨1, (Zup z 36 c (z 68 11)), (Zup (Zup z 36 c (z 68 11)) 90 c (z 68 11)), ?_, ?_, ?_, JN_up hN rfl rfl⟩
  · unfold F_X10_end 
    grind (gen := 30) [Yb_some, Zgd_i, Zl_eq, bi, Zup_d, e_hasCard, e_isEnded, F_X0_close]
  · show F_X11_end _ c = _
    unfold F_X11_end 
    grind (gen := 30) [Yb_some, Zgd_i, Zl_eq, bi, Zup_d, e_isCard]
  · exact ⟨(JD_c rfl rfl hD), (JH_c rfl rfl rfl rfl rfl rfl rfl hH), (JP_c rfl rfl rfl rfl rfl rfl rfl rfl rfl rfl rfl rfl hP), (JS_c rfl rfl rfl rfl rfl rfl rfl rfl rfl rfl rfl hS), (JL_c rfl rfl hL), (JT_c rfl rfl rfl rfl rfl hT), (JE_c rfl rfl rfl rfl hE), (JV_c rfl rfl rfl rfl hV), (JA_c rfl rfl rfl rfl hA), (JU_c rfl rfl rfl rfl rfl rfl rfl rfl rfl rfl hU), JC_end hC (c := c) (by omega) (by omega) rfl rfl rfl rfl rfl rfl rfl rfl (fun j => (Zup_ki : Zup z 36 (c) (z 68 11) 36 j = _)) (fun j => (Zup_ki : Zup z 90 (c) (z 68 11) 90 j = _)), (JK_c rfl rfl rfl rfl rfl rfl rfl rfl rfl hK), (JW_c rfl rfl rfl rfl rfl rfl rfl rfl rfl rfl hW), (JB_c rfl rfl rfl rfl rfl rfl rfl rfl rfl rfl rfl rfl rfl rfl rfl rfl rfl rfl rfl rfl hB), (JG_c rfl rfl rfl rfl rfl hG), (JX_c rfl rfl rfl rfl rfl hX), (JQ_c rfl rfl rfl rfl rfl hQ), (JO_c rfl rfl rfl rfl rfl rfl rfl rfl rfl rfl rfl hO)⟩
set_option maxHeartbeats 1000000 in
theorem t_handed {n : Int} {z : ZI} (hK : K z) (hN : JN n z) (hn : n ≤ 1000) (c k w : Int) : Both (F_X10_handed z c k w) (fun z1 => F_X11_handed z1 c k w) (fun z2 => K z2 ∧ JN (n + 1) z2) := by
  have hR := hN.R hn
  have hl := links hK
  have hK0 := hK
  obtain ⟨hD, hH, hP, hS, hL, hT, hE, hV, hA, hU, hC, hK, hW, hB, hG, hX, hQ, hO⟩ := hK
  by_cases c1 : ¬ (0 ≤ c ∧ c < z 68 34)
  · refine Both_ref hK0 hN (w := -1) hn (by omega) ?_ ?_
    · unfold F_X10_handed X10_handed_b77 X10_handed_b44
      grind (gen := 20) [Yb_some, Zgd_i, Zl_eq, bi, e_refuse, e_hasCard, e_isEnded, F_X8_note]
    · show F_X11_handed (zR z (-1)) c k w = _
      unfold F_X11_handed X11_handed_b67 X11_handed_b39 X11_handed_b73
      grind (gen := 20) [Yb_some, Zgd_i, Zl_eq, bi, zR_d, zR_k, e_no, e_isCard]
  have hq := hC.2.2.2 c (by omega) (by omega)
  by_cases c2 : 0 ≤ z 90 c
  · refine Both_ref hK0 hN (w := -3) hn (by omega) ?_ ?_
    · unfold F_X10_handed X10_handed_b77 X10_handed_b44
      grind (gen := 20) [Yb_some, Zgd_i, Zl_eq, bi, e_refuse, e_hasCard, e_isEnded, F_X8_note]
    · show F_X11_handed (zR z (-3)) c k w = _
      unfold F_X11_handed X11_handed_b67 X11_handed_b39 X11_handed_b73
      grind (gen := 20) [Yb_some, Zgd_i, Zl_eq, bi, zR_d, zR_k, e_no, e_isCard]
  by_cases c3 : k < 1 ∨ w < 0
  · refine Both_ref hK0 hN (w := -4) hn (by omega) ?_ ?_
    · unfold F_X10_handed X10_handed_b77 X10_handed_b44
      grind (gen := 20) [Yb_some, Zgd_i, Zl_eq, bi, e_refuse, e_hasCard, e_isEnded, F_X8_note]
    · show F_X11_handed (zR z (-4)) c k w = _
      unfold F_X11_handed X11_handed_b67 X11_handed_b39 X11_handed_b73
      grind (gen := 20) [Yb_some, Zgd_i, Zl_eq, bi, zR_d, zR_k, e_no, e_isCard]
  by_cases c4 : 9999 < k ∨ 9999 < w ∨ z 68 35 = 60
  · refine Both_ref hK0 hN (w := -6) hn (by omega) ?_ ?_
    · unfold F_X10_handed X10_handed_b77 X10_handed_b44
      grind (gen := 20) [Yb_some, Zgd_i, Zl_eq, bi, e_refuse, e_hasCard, e_isEnded, F_X8_note]
    · show F_X11_handed (zR z (-6)) c k w = _
      unfold F_X11_handed X11_handed_b67 X11_handed_b39 X11_handed_b73
      grind (gen := 20) [Yb_some, Zgd_i, Zl_eq, bi, zR_d, zR_k, e_no, e_isCard]
  refine ⟨z 68 35 + 1, (Zup (Zup (Zup (Zup z 38 (z 68 35) (z 68 11)) 39 (z 68 35) k) 40 (z 68 35) w) 37 0 (z 68 35 + 1)), (Zup (Zup (Zup (Zup (Zup (Zup (Zup (Zup z 38 (z 68 35) (z 68 11)) 39 (z 68 35) k) 40 (z 68 35) w) 37 0 (z 68 35 + 1)) 91 (z 68 35) (z 68 11)) 92 (z 68 35) k) 93 (z 68 35) w) 68 35 (z 68 35 + 1)), ?_, ?_, ?_, JN_up hN rfl rfl⟩
  · unfold F_X10_handed X10_handed_b77 X10_handed_b44
    grind (gen := 30) [Yb_some, Zgd_i, Zl_eq, bi, Zup_d, e_hasCard, e_isEnded, F_X8_note]
  · show F_X11_handed _ c k w = _
    unfold F_X11_handed X11_handed_b67 X11_handed_b39 X11_handed_b73
    grind (gen := 30) [Yb_some, Zgd_i, Zl_eq, bi, Zup_d, e_isCard]
  · exact ⟨(JD_c rfl rfl hD), (JH_c rfl rfl rfl rfl rfl rfl rfl hH), (JP_c rfl rfl rfl rfl rfl rfl rfl rfl rfl rfl rfl rfl hP), (JS_c rfl rfl rfl rfl rfl rfl rfl rfl rfl rfl rfl hS), (JL_c rfl rfl hL), (JT_c rfl rfl rfl rfl rfl hT), (JE_c rfl rfl rfl rfl hE), (JV_c rfl rfl rfl rfl hV), (JA_c rfl rfl rfl rfl hA), (JU_c rfl rfl rfl rfl rfl rfl rfl rfl rfl rfl hU), (JC_c rfl rfl rfl rfl rfl rfl rfl rfl rfl rfl hC), JK_push hK (k := k) (w := w) (by omega) (by omega) (by omega) (by omega) rfl rfl rfl (fun j => (Zup_ki : Zup z 38 (z 68 35) (z 68 11) 38 j = _)) (fun j => (Zup_ki : Zup z 91 (z 68 35) (z 68 11) 91 j = _)) (fun j => (Zup_ki : Zup z 39 (z 68 35) (k) 39 j = _)) (fun j => (Zup_ki : Zup z 92 (z 68 35) (k) 92 j = _)) (fun j => (Zup_ki : Zup z 40 (z 68 35) (w) 40 j = _)) (fun j => (Zup_ki : Zup z 93 (z 68 35) (w) 93 j = _)), (JW_c rfl rfl rfl rfl rfl rfl rfl rfl rfl rfl hW), (JB_c rfl rfl rfl rfl rfl rfl rfl rfl rfl rfl rfl rfl rfl rfl rfl rfl rfl rfl rfl rfl hB), (JG_c rfl rfl rfl rfl rfl hG), (JX_c rfl rfl rfl rfl rfl hX), (JQ_c rfl rfl rfl rfl rfl hQ), (JO_c rfl rfl rfl rfl rfl rfl rfl rfl rfl rfl rfl hO)⟩
