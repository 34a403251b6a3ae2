set_option maxHeartbeats 1000000 in
theorem t_house {n : Int} {z : ZI} (hK : K z) (hN : JN n z) (hn : n ≤ 1000) (c b : Int) : Both (F_X10_house z c b) (fun z1 => F_X11_house z1 c b) (fun z2 => K z2 ∧ JN (n + 1) z2) := by
  have hR := hN.R hn
  have hl := links hK
  have hK0 := hK
  obtain ⟨hD, hH, hP, hS, hL, hT, hE, hV, hA, hU, hC, hK, hW, hB, hG, hX, hQ, hO⟩ := hK
  have hm : JH (zR z (-3)) := (JH_c rfl rfl rfl rfl rfl rfl rfl hH)
  have hm6 : JH (zR z (-6)) := (JH_c rfl rfl rfl rfl rfl rfl rfl hH)
  by_cases c1 : ¬ (0 ≤ c ∧ c < 144)
  · refine Both_ref hK0 hN (w := -1) hn (by omega) ?_ ?_
    · unfold F_X10_house X10_house_b14 F_X3_houseAt
      grind (gen := 20) [Yb_some, Zgd_i, Zl_eq, bi, e_refuse, e_isCell, e_isBlock]
    · show F_X11_house (zR z (-1)) c b = _
      unfold F_X11_house X11_house_b19
      grind (gen := 20) [Yb_some, Zgd_i, Zl_eq, bi, zR_d, zR_k, e_no, e_mCell, e_isIn, m_houseAt]
  by_cases c2 : ¬ (0 ≤ b ∧ b ≤ 3)
  · refine Both_ref hK0 hN (w := -1) hn (by omega) ?_ ?_
    · unfold F_X10_house X10_house_b14 F_X3_houseAt
      grind (gen := 20) [Yb_some, Zgd_i, Zl_eq, bi, e_refuse, e_isCell, e_isBlock]
    · show F_X11_house (zR z (-1)) c b = _
      unfold F_X11_house X11_house_b19
      grind (gen := 20) [Yb_some, Zgd_i, Zl_eq, bi, zR_d, zR_k, e_no, e_mCell, e_isIn, m_houseAt]
  have hon := hH.2.2.2.2.2 c (by omega) (by omega)
  have hsr := srch_r (z 71) c (z 68 12).toNat 0 (Int.le_refl _)
  by_cases c3 : z 14 c ≠ -9
  · refine Both_ref hK0 hN (w := -3) hn (by omega) ?_ ?_
    · unfold F_X10_house X10_house_b14 F_X3_houseAt
      grind (gen := 20) [Yb_some, Zgd_i, Zl_eq, bi, e_refuse, e_isCell, e_isBlock]
    · show F_X11_house (zR z (-3)) c b = _
      unfold F_X11_house X11_house_b19
      grind (gen := 20) [Yb_some, Zgd_i, Zl_eq, bi, zR_d, zR_k, e_no, e_mCell, e_isIn, m_houseAt]
  by_cases c4 : z 68 12 = 30
  · refine Both_ref hK0 hN (w := -6) hn (by omega) ?_ ?_
    · unfold F_X10_house X10_house_b14 F_X3_houseAt
      grind (gen := 20) [Yb_some, Zgd_i, Zl_eq, bi, e_refuse, e_isCell, e_isBlock]
    · show F_X11_house (zR z (-6)) c b = _
      unfold F_X11_house X11_house_b19
      grind (gen := 20) [Yb_some, Zgd_i, Zl_eq, bi, zR_d, zR_k, e_no, e_mCell, e_isIn, m_houseAt]
  refine ⟨z 68 12, Zup (Zup (Zup (Zup (Zup z 41 14 0) 12 (z 68 12) c) 13 (z 68 12) b) 14 c (z 68 12)) 11 0 (z 68 12 + 1), Zup (Zup (Zup (Zup (Zup (Zup (Zup (Zup z 41 14 0) 12 (z 68 12) c) 13 (z 68 12) b) 14 c (z 68 12)) 11 0 (z 68 12 + 1)) 71 (z 68 12) c) 72 (z 68 12) b) 68 12 (z 68 12 + 1), ?_, ?_, ?_, JN_up hN rfl rfl⟩
  · unfold F_X10_house X10_house_b14 F_X3_houseAt F_X9_forgetBest F_X3_addHouse
    grind (gen := 30) [Yb_some, Zgd_i, Zl_eq, bi, Zup_d, e_isCell, e_isBlock]
  · show F_X11_house _ c b = _
    have hx := m_houseAt_L (z := Zup (Zup (Zup (Zup (Zup z 41 14 0) 12 (z 68 12) c) 13 (z 68 12) b) 14 c (z 68 12)) 11 0 (z 68 12 + 1)) (c := c) ⟨hH.1, hH.2.1⟩ (z 68 12).toNat 0 Zfuel (Nat.zero_add _) (by unfold Zfuel; omega)
    have e71 : ∀ q1 q2 q3 q4 q5 : Int, (Zup (Zup (Zup (Zup (Zup z 41 14 0) 12 q1 q2) 13 q3 b) 14 c q4) 11 0 q5) 71 = z 71 := fun _ _ _ _ _ => rfl
    rw [e71] at hx
    clear e71
    unfold F_X11_house X11_house_b19 F_X11_houseAt
    grind (gen := 30) [Yb_some, Zgd_i, Zl_eq, bi, Zup_d, e_mCell, e_isIn]
  · have hs9 : srch (z 71) c (z 68 12).toNat 0 = -9 := by omega
    have hno := srch_no (z 71) c (z 68 12).toNat 0 (Int.le_refl _) hs9
    exact ⟨(JD_c rfl rfl hD), JH_push hH (v := c) (b := b) (by omega) (by omega) (fun k q1 q2 => hno k q1 (by omega)) hs9 (fun j => (Zup_ki : Zup z 14 c (z 68 12) 14 j = _)) (by omega) rfl rfl (fun j => (Zup_ki : Zup z 71 (z 68 12) (c) 71 j = _)) (fun j => (Zup_ki : Zup z 12 (z 68 12) (c) 12 j = _)) (fun j => (Zup_ki : Zup z 72 (z 68 12) (b) 72 j = _)) (fun j => (Zup_ki : Zup z 13 (z 68 12) (b) 13 j = _)), JP_m (z := z) (show z 68 12 ≤ z 68 12 + 1 by omega) (Int.le_refl _) rfl rfl rfl rfl rfl rfl rfl rfl rfl rfl hP, (JS_c rfl rfl rfl rfl rfl rfl rfl rfl rfl rfl rfl hS), (JL_c rfl rfl hL), (JT_c rfl rfl rfl rfl rfl hT), (JE_c rfl rfl rfl rfl hE), (JV_c rfl rfl rfl rfl hV), (JA_c rfl rfl rfl rfl hA), (JU_c rfl rfl rfl rfl rfl rfl rfl rfl rfl rfl hU), JC_m (z := z) (show z 68 12 ≤ z 68 12 + 1 by omega) (Int.le_refl _) rfl rfl rfl rfl rfl rfl rfl rfl hC, (JK_c rfl rfl rfl rfl rfl rfl rfl rfl rfl hK), (JW_c rfl rfl rfl rfl rfl rfl rfl rfl rfl rfl hW), ⟨hB.1, Or.inl rfl⟩, (JG_c rfl rfl rfl rfl rfl hG), JX_m (z := z) (show z 68 12 ≤ z 68 12 + 1 by omega) rfl rfl rfl rfl hX, (JQ_c rfl rfl rfl rfl rfl hQ), (JO_c rfl rfl rfl rfl rfl rfl rfl rfl rfl rfl rfl hO)⟩
set_option maxHeartbeats 1000000 in
theorem t_person {n : Int} {z : ZI} (hK : K z) (hN : JN n z) (hn : n ≤ 1000) (h b t : Int) : Both (F_X10_person z h b t) (fun z1 => F_X11_person z1 h b t) (fun z2 => K z2 ∧ JN (n + 1) z2) := by
  have hR := hN.R hn
  have hl := links hK
  have hK0 := hK
  obtain ⟨hD, hH, hP, hS, hL, hT, hE, hV, hA, hU, hC, hK, hW, hB, hG, hX, hQ, hO⟩ := hK
  by_cases c1 : ¬ (0 ≤ h ∧ h < z 68 12)
  · refine Both_ref hK0 hN (w := -1) hn (by omega) ?_ ?_
    · unfold F_X10_person X10_person_b27 X10_person_b67
      grind (gen := 20) [Yb_some, Zgd_i, Zl_eq, bi, e_refuse, e_hasHouse]
    · show F_X11_person (zR z (-1)) h b t = _
      unfold F_X11_person X11_person_b66
      grind (gen := 20) [Yb_some, Zgd_i, Zl_eq, bi, zR_d, zR_k, e_no, e_isHouse, e_isIn, e_out, rng]
  by_cases c2 : ¬ (0 ≤ t ∧ t ≤ 5)
  · refine Both_ref hK0 hN (w := -2) hn (by omega) ?_ ?_
    · unfold F_X10_person X10_person_b27 X10_person_b67
      grind (gen := 20) [Yb_some, Zgd_i, Zl_eq, bi, e_refuse, e_hasHouse]
    · show F_X11_person (zR z (-2)) h b t = _
      unfold F_X11_person X11_person_b66
      grind (gen := 20) [Yb_some, Zgd_i, Zl_eq, bi, zR_d, zR_k, e_no, e_isHouse, e_isIn, e_out, rng]
  by_cases c3 : b < -36500
  · refine Both_ref hK0 hN (w := -4) hn (by omega) ?_ ?_
    · unfold F_X10_person X10_person_b27 X10_person_b67
      grind (gen := 20) [Yb_some, Zgd_i, Zl_eq, bi, e_refuse, e_hasHouse]
    · show F_X11_person (zR z (-4)) h b t = _
      unfold F_X11_person X11_person_b66
      grind (gen := 20) [Yb_some, Zgd_i, Zl_eq, bi, zR_d, zR_k, e_no, e_isHouse, e_isIn, e_out, rng]
  by_cases c4 : z 68 11 < b
  · refine Both_ref hK0 hN (w := -6) hn (by omega) ?_ ?_
    · unfold F_X10_person X10_person_b27 X10_person_b67
      grind (gen := 20) [Yb_some, Zgd_i, Zl_eq, bi, e_refuse, e_hasHouse]
    · show F_X11_person (zR z (-6)) h b t = _
      unfold F_X11_person X11_person_b66
      grind (gen := 20) [Yb_some, Zgd_i, Zl_eq, bi, zR_d, zR_k, e_no, e_isHouse, e_isIn, e_out, rng]
  by_cases c5 : z 68 13 = 60
  · refine Both_ref hK0 hN (w := -6) hn (by omega) ?_ ?_
    · unfold F_X10_person X10_person_b27 X10_person_b67
      grind (gen := 20) [Yb_some, Zgd_i, Zl_eq, bi, e_refuse, e_hasHouse]
    · show F_X11_person (zR z (-6)) h b t = _
      unfold F_X11_person X11_person_b66
      grind (gen := 20) [Yb_some, Zgd_i, Zl_eq, bi, zR_d, zR_k, e_no, e_isHouse, e_isIn, e_out, rng]
  refine ⟨z 68 13, Zup (Zup (Zup (Zup (Zup (Zup (Zup z 41 14 0) 15 (z 68 13) h) 16 (z 68 13) b) 17 (z 68 13) t) 18 (z 68 13) (z 68 11)) 19 (z 68 13) (-9)) 11 4 (z 68 13 + 1), Zup (Zup (Zup (Zup (Zup (Zup (Zup (Zup (Zup (Zup (Zup (Zup z 41 14 0) 15 (z 68 13) h) 16 (z 68 13) b) 17 (z 68 13) t) 18 (z 68 13) (z 68 11)) 19 (z 68 13) (-9)) 11 4 (z 68 13 + 1)) 73 (z 68 13) h) 74 (z 68 13) b) 75 (z 68 13) t) 76 (z 68 13) (z 68 11)) 68 13 (z 68 13 + 1), ?_, ?_, ?_, JN_up hN rfl rfl⟩
  · unfold F_X10_person X10_person_b27 X10_person_b67 F_X9_forgetBest F_X3_addPerson
    grind (gen := 30) [Yb_some, Zgd_i, Zl_eq, bi, Zup_d, e_hasHouse]
  · show F_X11_person _ h b t = _
    unfold F_X11_person X11_person_b66
    grind (gen := 30) [Yb_some, Zgd_i, Zl_eq, bi, Zup_d, e_isHouse, e_isIn, e_out, rng]
  · exact ⟨(JD_c rfl rfl hD), (JH_c rfl rfl rfl rfl rfl rfl rfl hH), JP_push hP (h := h) (b := b) (t := t) (by omega) (by omega) (by omega) (by omega) (by omega) rfl rfl rfl rfl (fun j => (Zup_ki : Zup z 15 (z 68 13) (h) 15 j = _)) (fun j => (Zup_ki : Zup z 73 (z 68 13) (h) 73 j = _)) (fun j => (Zup_ki : Zup z 16 (z 68 13) (b) 16 j = _)) (fun j => (Zup_ki : Zup z 74 (z 68 13) (b) 74 j = _)) (fun j => (Zup_ki : Zup z 17 (z 68 13) (t) 17 j = _)) (fun j => (Zup_ki : Zup z 75 (z 68 13) (t) 75 j = _)) (fun j => (Zup_ki : Zup z 18 (z 68 13) (z 68 11) 18 j = _)) (fun j => (Zup_ki : Zup z 76 (z 68 13) (z 68 11) 76 j = _)), JS_person hS hP.1 rfl rfl rfl rfl rfl rfl rfl rfl rfl (fun j => (Zup_ki : Zup z 19 (z 68 13) (-9) 19 j = _)) rfl, (JL_c rfl rfl hL), (JT_c rfl rfl rfl rfl rfl hT), (JE_c rfl rfl rfl rfl hE), (JV_c rfl rfl rfl rfl hV), (JA_c rfl rfl rfl rfl hA), (JU_c rfl rfl rfl rfl rfl rfl rfl rfl rfl rfl hU), (JC_c rfl rfl rfl rfl rfl rfl rfl rfl rfl rfl hC), (JK_c rfl rfl rfl rfl rfl rfl rfl rfl rfl hK), (JW_c rfl rfl rfl rfl rfl rfl rfl rfl rfl rfl hW), ⟨hB.1, Or.inl rfl⟩, (JG_c rfl rfl rfl rfl rfl hG), (JX_c rfl rfl rfl rfl rfl hX), JQ_m (z := z) (show z 68 13 ≤ z 68 13 + 1 by omega) rfl rfl rfl rfl hQ, (JO_c rfl rfl rfl rfl rfl rfl rfl rfl rfl rfl rfl hO)⟩
set_option maxHeartbeats 1000000 in
theorem t_days {n : Int} {z : ZI} (hK : K z) (hN : JN n z) (hn : n ≤ 1000) (x : Int) : Both (F_X10_days z x) (fun z1 => F_X11_days z1 x) (fun z2 => K z2 ∧ JN (n + 1) z2) := by
  have hR := hN.R hn
  have hl := links hK
  have hK0 := hK
  obtain ⟨hD, hH, hP, hS, hL, hT, hE, hV, hA, hU, hC, hK, hW, hB, hG, hX, hQ, hO⟩ := hK
  by_cases c1 : x < 1
  · refine Both_ref hK0 hN (w := -4) hn (by omega) ?_ ?_
    · unfold F_X10_days 
      grind (gen := 20) [Yb_some, Zgd_i, Zl_eq, bi, e_refuse, e_checkRange, rng]
    · show F_X11_days (zR z (-4)) x = _
      unfold F_X11_days 
      grind (gen := 20) [Yb_some, Zgd_i, Zl_eq, bi, zR_d, zR_k, e_no, e_out, rng]
  by_cases c2 : 999 - z 68 11 < x
  · refine Both_ref hK0 hN (w := -6) hn (by omega) ?_ ?_
    · unfold F_X10_days 
      grind (gen := 20) [Yb_some, Zgd_i, Zl_eq, bi, e_refuse, e_checkRange, rng]
    · show F_X11_days (zR z (-6)) x = _
      unfold F_X11_days 
      grind (gen := 20) [Yb_some, Zgd_i, Zl_eq, bi, zR_d, zR_k, e_no, e_out, rng]
  refine ⟨z 68 11 + x, Zup z 0 0 (z 68 11 + x), Zup (Zup z 0 0 (z 68 11 + x)) 68 11 (z 68 11 + x), ?_, ?_, ?_, JN_up hN rfl rfl⟩
  · unfold F_X10_days 
    grind (gen := 30) [Yb_some, Zgd_i, Zl_eq, bi, Zup_d, e_checkRange, rng]
  · show F_X11_days _ x = _
    unfold F_X11_days 
    grind (gen := 30) [Yb_some, Zgd_i, Zl_eq, bi, Zup_d, e_out, rng]
  · have hd : z 68 11 ≤ z 68 11 + x := by omega
    refine ⟨⟨rfl, (show 0 ≤ z 68 11 + x by omega), (show z 68 11 + x ≤ 999 by omega)⟩, (JH_c rfl rfl rfl rfl rfl rfl rfl hH), JP_m (z := z) (Int.le_refl _) hd rfl rfl rfl rfl rfl rfl rfl rfl rfl rfl hP, JS_day (z := z) hS hd rfl rfl rfl rfl rfl rfl rfl rfl rfl rfl, (JL_c rfl rfl hL), (JT_c rfl rfl rfl rfl rfl hT), (JE_c rfl rfl rfl rfl hE), (JV_c rfl rfl rfl rfl hV), (JA_c rfl rfl rfl rfl hA), (JU_c rfl rfl rfl rfl rfl rfl rfl rfl rfl rfl hU), JC_m (z := z) (Int.le_refl _) hd rfl rfl rfl rfl rfl rfl rfl rfl hC, JK_m (z := z) hd rfl rfl rfl rfl rfl rfl rfl rfl hK, (JW_c rfl rfl rfl rfl rfl rfl rfl rfl rfl rfl hW), ?_, (JG_c rfl rfl rfl rfl rfl hG), (JX_c rfl rfl rfl rfl rfl hX), (JQ_c rfl rfl rfl rfl rfl hQ), JO_m (z := z) hd rfl rfl rfl rfl rfl rfl rfl rfl rfl rfl hO⟩
    have ec : cost (Zup (Zup z 0 0 (z 68 11 + x)) 68 11 (z 68 11 + x)) = cost z := by
      have en : needF (Zup (Zup z 0 0 (z 68 11 + x)) 68 11 (z 68 11 + x)) = needF z := by
        funext h
        show 5 * hereH z h (z 68 11 + x) = 5 * hereH z h (z 68 11)
        rw [hereH_day hP hS hd]
      funext w
      unfold cost
      rw [en]
      rfl
    obtain ⟨b1, b2⟩ := hB
    refine ⟨b1, ?_⟩
    rw [ec]
    exact b2
theorem deadR_s (sp sa : Int → Int) (p : Int) (n : Nat) : deadR sp sa p (n + 1) = if deadR sp sa p n = 0 then (if sp n = p ∧ sa n = 4 then 1 else 0) else 1 := rfl
theorem deadR_b (sp sa : Int → Int) (p : Int) : ∀ n : Nat, (deadR sp sa p n = 0 ∧ ∀ k : Nat, k < n → sp k = p → sa k ≠ 4) ∨ (deadR sp sa p n = 1 ∧ ∃ k : Nat, k < n ∧ sp k = p ∧ sa k = 4)
  | 0 => Or.inl ⟨rfl, fun k h => by omega⟩
  | n + 1 => by
    rcases deadR_b sp sa p n with ⟨h, h2⟩ | ⟨h, k, h2, h3⟩
    · rw [deadR_s, if_pos h]
      by_cases e : sp n = p ∧ sa n = 4
      · rw [if_pos e]
        exact Or.inr ⟨rfl, n, by omega, e⟩
      · rw [if_neg e]
        refine Or.inl ⟨rfl, fun k hk hp => ?_⟩
        by_cases hn : k = n
        · subst hn
          exact fun h4 => e ⟨hp, h4⟩
        · exact h2 k (by omega) hp
    · rw [deadR_s, if_neg (by omega)]
      exact Or.inr ⟨rfl, k, by omega, h3⟩
theorem m_dead_L {z : ZI} {p s : Int} (h4 : 0 ≤ z 68 14 ∧ z 68 14 ≤ 150) : ∀ (n k f : Nat), k + n = (z 68 14).toNat → n < f → X11_state_L38 f z p s (deadR (z 77) (z 78) p k) (k : Int) = X11_state_b85 z p s (deadR (z 77) (z 78) p (z 68 14).toNat) := by
  intro n
  induction n with
  | zero =>
    intro k f hk hf
    obtain ⟨f, rfl⟩ : ∃ g, f = g + 1 := ⟨f - 1, by omega⟩
    show X11_state_L38b (X11_state_L38 f) z p s (deadR (z 77) (z 78) p k) (k : Int) = _
    unfold X11_state_L38b X11_state_b77 X11_state_b73 X11_state_b78
    have hs := deadR_s (z 77) (z 78) p k
    grind [Zgd_i]
  | succ n ih =>
    intro k f hk hf
    obtain ⟨f, rfl⟩ : ∃ g, f = g + 1 := ⟨f - 1, by omega⟩
    have e := ih (k + 1) f (by omega) (by omega)
    clear ih
    show X11_state_L38b (X11_state_L38 f) z p s (deadR (z 77) (z 78) p k) (k : Int) = _
    unfold X11_state_L38b X11_state_b77 X11_state_b73 X11_state_b78
    have hs := deadR_s (z 77) (z 78) p k
    grind [Zgd_i]
theorem dead_iff {z : ZI} (hP : JP z) (hS : JS z) {p : Int} (hp : 0 ≤ p ∧ p < z 68 13) : (deadR (z 77) (z 78) p (z 68 14).toNat = 1) ↔ stF z p (z 68 11) = 4 := by
  have q := hP.2.2.2 p hp.1 hp.2
  obtain ⟨a0, a1, a2, a3, a4, a5, a6⟩ := hS
  have key : ∀ n : Nat, (n : Int) ≤ z 68 14 → ((deadR (z 77) (z 78) p n = 1) ↔ stR (z 77) (z 79) (z 78) p (z 68 11) n = 4) := by
    intro n
    induction n with
    | zero => intro _; simp [deadR, stR]
    | succ n ih =>
      intro h
      have i := ih (by omega)
      have c := a3 n (by omega) (by omega)
      have u : stR (z 77) (z 79) (z 78) p (z 68 11) (n + 1) = if z 77 n = p ∧ z 79 n ≤ z 68 11 then z 78 n else stR (z 77) (z 79) (z 78) p (z 68 11) n := rfl
      rw [u, deadR_s]
      rcases deadR_b (z 77) (z 78) p n with ⟨h1, h2⟩ | ⟨h1, k, h2, h3, h4⟩
      · clear ih a3 a4 a5 a6 h2 u
        grind
      · have a := a6 k n (by omega) (by omega) (by omega) h4
        clear ih a3 a4 a5 a6 u
        grind
  rw [stF_d, if_neg (by omega), key _ (by omega)]
set_option maxHeartbeats 1000000 in
theorem t_state {n : Int} {z : ZI} (hK : K z) (hN : JN n z) (hn : n ≤ 1000) (p s : Int) : Both (F_X10_state z p s) (fun z1 => F_X11_state z1 p s) (fun z2 => K z2 ∧ JN (n + 1) z2) := by
  have hR := hN.R hn
  have hl := links hK
  have hK0 := hK
  obtain ⟨hD, hH, hP, hS, hL, hT, hE, hV, hA, hU, hC, hK, hW, hB, hG, hX, hQ, hO⟩ := hK
  by_cases c1 : ¬ (0 ≤ p ∧ p < z 68 13)
  · refine Both_ref hK0 hN (w := -1) hn (by omega) ?_ ?_
    · unfold F_X10_state X10_state_b26
      grind (gen := 20) [Yb_some, Zgd_i, Zl_eq, bi, e_refuse, e_hasPerson, x_stateOn]
    · show F_X11_state (zR z (-1)) p s = _
      unfold F_X11_state 
      grind (gen := 20) [Yb_some, Zgd_i, Zl_eq, bi, zR_d, zR_k, e_no, e_isPerson, e_isIn, X11_state_b85]
  by_cases c2 : ¬ (0 ≤ s ∧ s ≤ 4)
  · refine Both_ref hK0 hN (w := -2) hn (by omega) ?_ ?_
    · unfold F_X10_state X10_state_b26
      grind (gen := 20) [Yb_some, Zgd_i, Zl_eq, bi, e_refuse, e_hasPerson, x_stateOn]
    · show F_X11_state (zR z (-2)) p s = _
      unfold F_X11_state 
      grind (gen := 20) [Yb_some, Zgd_i, Zl_eq, bi, zR_d, zR_k, e_no, e_isPerson, e_isIn, X11_state_b85]
  have hp : 0 ≤ p ∧ p < z 68 13 := by omega
  have hdi := dead_iff hP hS hp
  have hdb := deadR_b (z 77) (z 78) p (z 68 14).toNat
  have hlk := fun (zz : ZI) (h77 : zz 77 = z 77) (h78 : zz 78 = z 78) (h14 : zz 68 14 = z 68 14) => m_dead_L (z := zz) (p := p) (s := s) (by rw [h14]; exact ⟨hS.1, hS.2.1⟩) (z 68 14).toNat 0 Zfuel (by rw [h14]; omega) (by have := hS.2.1; unfold Zfuel; omega)
  have hl3 := hlk (zR z (-3)) rfl rfl rfl
  have hl6 := hlk (zR z (-6)) rfl rfl rfl
  have ex := x_stateOn (d := z 68 11) hP hS hp
  have z0 : ∀ a b : Int → Int, deadR a b p 0 = 0 := fun _ _ => rfl
  rw [z0] at hl3 hl6
  by_cases c3 : stF z p (z 68 11) = 4
  · refine Both_ref hK0 hN (w := -3) hn (by omega) ?_ ?_
    · unfold F_X10_state X10_state_b26
      grind (gen := 20) [Yb_some, Zgd_i, Zl_eq, bi, e_refuse, e_hasPerson, x_stateOn]
    · show F_X11_state (zR z (-3)) p s = _
      unfold F_X11_state 
      grind (gen := 20) [Yb_some, Zgd_i, Zl_eq, bi, zR_d, zR_k, e_no, e_isPerson, e_isIn, X11_state_b85]
  by_cases c4 : z 68 14 = 150
  · refine Both_ref hK0 hN (w := -6) hn (by omega) ?_ ?_
    · unfold F_X10_state X10_state_b26
      grind (gen := 20) [Yb_some, Zgd_i, Zl_eq, bi, e_refuse, e_hasPerson, x_stateOn]
    · show F_X11_state (zR z (-6)) p s = _
      unfold F_X11_state 
      grind (gen := 20) [Yb_some, Zgd_i, Zl_eq, bi, zR_d, zR_k, e_no, e_isPerson, e_isIn, X11_state_b85]
  have hno : ∀ k, 0 ≤ k → k < z 68 14 → z 77 k = p → z 78 k ≠ 4 := by
    rcases hdb with ⟨h1, h2⟩ | ⟨h1, h2⟩
    · intro k k1 k2 k3
      obtain ⟨j, rfl⟩ := Int.eq_ofNat_of_zero_le k1
      exact h2 j (by omega) k3
    · exact absurd (hdi.mp h1) (by assumption)
  have h0 : deadR (z 77) (z 78) p (z 68 14).toNat = 0 := by
    rcases hdb with ⟨h1, h2⟩ | ⟨h1, h2⟩
    · exact h1
    · exact absurd (hdi.mp h1) (by assumption)
  clear hdi hdb
  refine ⟨z 68 14 + 1, Zup (Zup (Zup (Zup (Zup (Zup z 41 14 0) 20 (z 68 14) (z 68 11)) 21 (z 68 14) s) 22 (z 68 14) (z 19 p)) 19 p (z 68 14)) 11 10 (z 68 14 + 1), Zup (Zup (Zup (Zup (Zup (Zup (Zup (Zup (Zup (Zup z 41 14 0) 20 (z 68 14) (z 68 11)) 21 (z 68 14) s) 22 (z 68 14) (z 19 p)) 19 p (z 68 14)) 11 10 (z 68 14 + 1)) 77 (z 68 14) p) 78 (z 68 14) s) 79 (z 68 14) (z 68 11)) 68 14 (z 68 14 + 1), ?_, ?_, ?_, JN_up hN rfl rfl⟩
  · unfold F_X10_state X10_state_b26 F_X9_forgetBest F_X3_tell
    grind (gen := 30) [Yb_some, Zgd_i, Zl_eq, bi, Zup_d, e_hasPerson]
  · show F_X11_state _ p s = _
    have hl7 := hlk (Zup (Zup (Zup (Zup (Zup (Zup z 41 14 0) 20 (z 68 14) (z 68 11)) 21 (z 68 14) s) 22 (z 68 14) (z 19 p)) 19 p (z 68 14)) 11 10 (z 68 14 + 1)) rfl rfl rfl
    rw [z0] at hl7
    have h77 : deadR ((Zup (Zup (Zup (Zup (Zup (Zup z 41 14 0) 20 (z 68 14) (z 68 11)) 21 (z 68 14) s) 22 (z 68 14) (z 19 p)) 19 p (z 68 14)) 11 10 (z 68 14 + 1)) 77) ((Zup (Zup (Zup (Zup (Zup (Zup z 41 14 0) 20 (z 68 14) (z 68 11)) 21 (z 68 14) s) 22 (z 68 14) (z 19 p)) 19 p (z 68 14)) 11 10 (z 68 14 + 1)) 78) p ((Zup (Zup (Zup (Zup (Zup (Zup z 41 14 0) 20 (z 68 14) (z 68 11)) 21 (z 68 14) s) 22 (z 68 14) (z 19 p)) 19 p (z 68 14)) 11 10 (z 68 14 + 1)) 68 14).toNat = 0 := h0
    rw [h77] at hl7
    clear hlk hl3 hl6 z0 h77
    unfold F_X11_state 
    unfold X11_state_b85 F_X11_becomes at hl7
    grind (gen := 30) [Yb_some, Zgd_i, Zl_eq, bi, Zup_d, e_isPerson, e_isIn]
  · exact ⟨(JD_c rfl rfl hD), (JH_c rfl rfl rfl rfl rfl rfl rfl hH), (JP_c rfl rfl rfl rfl rfl rfl rfl rfl rfl rfl rfl rfl hP), JS_tell hS (p := p) (s := s) hp (by omega) (by omega) (by omega) hno rfl rfl rfl rfl (fun j => (Zup_ki : Zup z 77 (z 68 14) (p) 77 j = _)) (fun j => (Zup_ki : Zup z 21 (z 68 14) (s) 21 j = _)) (fun j => (Zup_ki : Zup z 78 (z 68 14) (s) 78 j = _)) (fun j => (Zup_ki : Zup z 20 (z 68 14) (z 68 11) 20 j = _)) (fun j => (Zup_ki : Zup z 79 (z 68 14) (z 68 11) 79 j = _)) (fun j => (Zup_ki : Zup z 22 (z 68 14) (z 19 p) 22 j = _)) (fun j => (Zup_ki : Zup z 19 p (z 68 14) 19 j = _)), (JL_c rfl rfl hL), (JT_c rfl rfl rfl rfl rfl hT), (JE_c rfl rfl rfl rfl hE), (JV_c rfl rfl rfl rfl hV), (JA_c rfl rfl rfl rfl hA), (JU_c rfl rfl rfl rfl rfl rfl rfl rfl rfl rfl hU), (JC_c rfl rfl rfl rfl rfl rfl rfl rfl rfl rfl hC), (JK_c rfl rfl rfl rfl rfl rfl rfl rfl rfl hK), (JW_c rfl rfl rfl rfl rfl rfl rfl rfl rfl rfl hW), ⟨hB.1, Or.inl rfl⟩, (JG_c rfl rfl rfl rfl rfl hG), (JX_c rfl rfl rfl rfl rfl hX), (JQ_c rfl rfl rfl rfl rfl hQ), (JO_c rfl rfl rfl rfl rfl rfl rfl rfl rfl rfl rfl hO)⟩
