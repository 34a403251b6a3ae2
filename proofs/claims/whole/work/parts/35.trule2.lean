/-! texts: rule -/
set_option maxHeartbeats 400000 in
theorem t_rule {n : Int} {z : ZI} (hK : K z) (hN : JN n z) (hn : n ≤ 1000) (p q : Int) (hLT : LT z) : Both (F_X10_rule z p q) (fun z1 => F_X11_rule z1 p q) (fun z2 => K z2 ∧ JN (n + 1) z2) := by
  have hR := hN.R hn
  have hl := links hK
  have hK0 := hK
  obtain ⟨hD, hH, hP, hS, hL, hT, hE, hV, hA, hU, hC, hK, hW, hB, hG, hX, hQ, hO⟩ := hK
  by_cases c1 : ¬ (0 ≤ p ∧ p ≤ 1)
  · refine Both_ref hK0 hN (w := -2) hn (by omega) ?_ ?_
    · unfold F_X10_rule X10_rule_b9
      grind [e_refuse, Yb_some]
    · unfold F_X11_rule
      rw [e_isIn, Yb_some, bi_f c1, if_pos rfl, e_no hR (by omega), Yb_some]
  have d0 : (0 ≤ p ∧ p ≤ 1) := by omega
  by_cases c2 : q < z 68 11
  · refine Both_ref hK0 hN (w := -4) hn (by omega) ?_ ?_
    · unfold F_X10_rule
      rw [if_neg (by omega), if_pos (by omega), if_neg (by omega), e_refuse hR (by omega), Yb_some]
    · have e : (zR z (-4)) 68 11 = z 68 11 := rfl
      unfold F_X11_rule
      rw [e_isIn, Yb_some, bi_t d0, if_neg (by decide), e, if_neg (by omega)]
      unfold X11_rule_b52
      rw [if_neg (by decide), e_no hR (by omega), Yb_some]
  by_cases c3 : 999 < q ∨ z 68 22 = 30
  · refine Both_ref hK0 hN (w := -6) hn (by omega) ?_ ?_
    · unfold F_X10_rule X10_rule_b50
      rw [if_neg (by omega), if_pos (by omega), if_pos (by omega)]
      by_cases c4 : 999 < q
      · rw [if_pos c4, e_refuse hR (by omega), Yb_some]
      · rw [if_neg c4, if_neg (by omega), e_refuse hR (by omega), Yb_some]
    · have e : (zR z (-6)) 68 11 = z 68 11 := rfl
      have e2 : (zR z (-6)) 68 22 = z 68 22 := rfl
      have e3 : X11_rule_b52 (zR z (-6)) p q (-6) = some (-6, mR (zR z (-6)) (-6)) := by
        unfold X11_rule_b52
        rw [if_neg (by decide), e_no hR (by omega), Yb_some]
      unfold F_X11_rule X11_rule_b46
      rw [e_isIn, Yb_some, bi_t d0, if_neg (by decide), e, if_pos (by omega), e3, e2]
      by_cases c4 : 999 < q
      · rw [if_pos c4]
      · rw [if_neg c4, if_pos (by omega)]
  have hx : F_X10_rule z p q = F_X7_makeOfTape z p q := by
    unfold F_X10_rule
    rw [if_neg (by omega), if_pos (by omega), if_pos (by omega), if_neg (by omega), if_pos (by omega)]
    cases F_X7_makeOfTape z p q <;> rfl
  have hr : 0 ≤ z 68 22 ∧ z 68 22 < 30 := by omega
  have ha1 : z 24 1 = z 68 21 := hA.1
  have hu1 : z 24 2 = z 68 22 := hU.1
  obtain ⟨N, hN'⟩ : ∃ N : Nat, z 68 21 = N := ⟨(z 68 21).toNat, by have := hA.2.1; omega⟩
  have hn60 : 0 ≤ z 68 21 ∧ z 68 21 ≤ 60 := ⟨hA.2.1, hA.2.2.1⟩
  have hTX := TX_rd (z := z) (k0 := 25) (s := 0) (len := z 68 21) (a := z 80) hn60 (fun t h1 h2 => by
    rw [show (0 : Int) + t = t by omega]
    exact hA.2.2.2 t h1 h2)
  have ok := pS_ok hTX (show LT (Zrd z 25 0 (z 68 21)) from hLT) 6 (by omega) 0 (Int.le_refl _) hn60.1
  rw [show ltZ (Zrd z 25 0 (z 68 21)) = ltZ z from rfl] at ok
  have hpe := par_eq (z 80) (ltZ z) hn60 (fun t h1 h2 => (hA.2.2.2 t h1 h2).1)
  generalize hr0 : pS (z 80) (z 68 21) (ltZ z) 6 0 = r at ok hpe
  have hf := fauS_ok ok
  have hm := x_make (p := p) (f := q) (r := r) (by rw [ha1]; exact hr0.symm) hA hLT (by omega) (by rw [ha1]; exact hf)
  rw [ha1] at hm
  generalize fauS (z 68 21) r = fa at hm hpe hf
  have hy : ∀ y : ZI, (y 68 = z 68) → (y 80 = z 80) → F_X11_rule y p q = if fa = -9 then some (z 68 22 + 1, Zmm (Zmw y (z 68 21)) (z 68 21) p q) else some (-20 - fa, Zmw y fa) := by
    intro y y1 y2
    have hTM : TM y N := by
      refine ⟨by rw [y1]; exact hN', by omega, by omega, fun t h1 h2 => ?_⟩
      rw [y2]
      have := hA.2.2.2 t h1 (by omega)
      omega
    have e := m_rule (y := y) (p := p) (q := q) (fa := fa) (N := N) (by rw [y1]; exact hr) d0 (by rw [y1]; omega) hTM (by rw [y2, ← hN']; exact hpe) (by omega)
    rw [e, y1, hN']
  by_cases cf : fa = -9
  · rw [if_pos cf] at hm
    rw [if_pos cf] at hpe
    refine ⟨z 68 22 + 1, Zmk (Zaf (Zrd (Zup z 24 1 0) 25 0 (z 68 21)) r.2.1 fa) (z 68 21) p q, Zmm (Zmw (Zmk (Zaf (Zrd (Zup z 24 1 0) 25 0 (z 68 21)) r.2.1 fa) (z 68 21) p q) (z 68 21)) (z 68 21) p q, ?_, ?_, ?_, ?_⟩
    · rw [hx, hm, hu1]
    · exact (hy (Zmk (Zaf (Zrd (Zup z 24 1 0) 25 0 (z 68 21)) r.2.1 fa) (z 68 21) p q) rfl rfl).trans (if_pos cf)
    · exact K_rule (by rw [hpe]) hr.2 hK0
    · exact JN_up hN rfl rfl
  · rw [if_neg cf] at hm
    rw [← ha1] at hm hy
    refine ⟨-20 - fa, Zaf (Zrd (Zup z 24 1 0) 25 0 (z 24 1)) r.2.1 fa, Zmw (Zaf (Zrd (Zup z 24 1 0) 25 0 (z 24 1)) r.2.1 fa) fa, ?_, ?_, ?_, ?_⟩
    · rw [hx, hm]
    · exact (hy (Zaf (Zrd (Zup z 24 1 0) 25 0 (z 24 1)) r.2.1 fa) rfl rfl).trans (if_neg cf)
    · exact K_bad hK0
    · exact JN_up hN rfl rfl
