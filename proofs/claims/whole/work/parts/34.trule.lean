/-! texts: rule, the reference's part and both -/
theorem Zcp_s {z : ZI} {k0 k1 : Nat} {d : Int} {m : Nat} : Zup (Zcp z k0 k1 0 d m) k1 (d + m) (z k0 m) = Zcp z k0 k1 0 d (m + 1 : Nat) := by
  funext k i
  unfold Zup Zcp
  by_cases h2 : k = k1 ∧ i = d + m
  · rw [if_pos h2, if_pos (by omega), show 0 + (i - d) = (m : Int) by omega]
  · rw [if_neg h2]
    by_cases h3 : k = k1 ∧ d ≤ i ∧ i < d + m
    · rw [if_pos h3, if_pos (by omega)]
    · rw [if_neg h3, if_neg (by omega)]
theorem Zcp_0 {z : ZI} {k0 k1 : Nat} {d : Int} : Zcp z k0 k1 0 d (0 : Nat) = z := by
  funext k i
  unfold Zcp
  rw [if_neg (by omega)]
theorem Zcp_i (z : ZI) (k0 k1 : Nat) (s d n : Int) (i : Int) : Zcp z k0 k1 s d n k1 i = if d ≤ i ∧ i < d + n then z k0 (s + (i - d)) else z k1 i := by
  unfold Zcp
  by_cases q : d ≤ i ∧ i < d + n
  · rw [if_pos q, if_pos ⟨rfl, q⟩]
  · rw [if_neg q, if_neg (fun r => q r.2)]
theorem m_copy_L {z : ZI} {p q : Int} {N : Nat} (h : 0 ≤ z 68 22 ∧ z 68 22 < 30 ∧ N ≤ 60) : ∀ (n k f : Nat), k + n = N → n < f → X11_rule_L96 f (Zcp z 80 81 0 (60 * z 68 22) k) p q N k = X11_rule_b131 (Zcp z 80 81 0 (60 * z 68 22) N) p q N := by
  intro n
  induction n with
  | zero =>
    intro k f hk hf
    obtain ⟨f, rfl⟩ : ∃ g, f = g + 1 := ⟨f - 1, by omega⟩
    show X11_rule_L96b (X11_rule_L96 f) _ _ _ _ _ = _
    unfold X11_rule_L96b
    obtain rfl : k = N := by omega
    rw [if_pos (by omega)]
  | succ n ih =>
    intro k f hk hf
    obtain ⟨f, rfl⟩ : ∃ g, f = g + 1 := ⟨f - 1, by omega⟩
    have e1 : Zcp z 80 81 0 (60 * z 68 22) k 68 22 = z 68 22 := rfl
    have e2 : Zcp z 80 81 0 (60 * z 68 22) k 80 k = z 80 k := rfl
    show X11_rule_L96b (X11_rule_L96 f) _ _ _ _ _ = _
    unfold X11_rule_L96b
    rw [if_neg (by omega), e1, e2, Zgd_t (by omega), Zgd_t (by omega), Zgd_t (by omega), Zgd_t (by omega), Zl_eq, Zgd_t (by omega), Zcp_s]
    exact ih (k + 1) f (by omega) (by omega)
def Zmw (y : ZI) (t : Int) : ZI := Zup (Zat y t) 68 21 0
def Zmm (w : ZI) (N p q : Int) : ZI := Zup (Zup (Zup (Zup (Zcp w 80 81 0 (60 * w 68 22) N) 82 (w 68 22) N) 83 (w 68 22) p) 84 (w 68 22) q) 68 22 (w 68 22 + 1)
theorem m_b131 {w : ZI} {N p q : Int} (h : 0 ≤ w 68 22 ∧ w 68 22 < 30) : X11_rule_b131 (Zcp w 80 81 0 (60 * w 68 22) N) p q N = some (w 68 22 + 1, Zmm w N p q) := by
  have e1 : Zcp w 80 81 0 (60 * w 68 22) N 68 22 = w 68 22 := rfl
  have e2 : ∀ a, (Zup (Zcp w 80 81 0 (60 * w 68 22) N) 82 (w 68 22) a) 68 22 = w 68 22 := fun _ => rfl
  have e3 : ∀ a b, (Zup (Zup (Zcp w 80 81 0 (60 * w 68 22) N) 82 (w 68 22) a) 83 (w 68 22) b) 68 22 = w 68 22 := fun _ _ => rfl
  have e4 : ∀ a b c, (Zup (Zup (Zup (Zcp w 80 81 0 (60 * w 68 22) N) 82 (w 68 22) a) 83 (w 68 22) b) 84 (w 68 22) c) 68 22 = w 68 22 := fun _ _ _ => rfl
  unfold X11_rule_b131 Zmm
  rw [e1, Zgd_t (by omega), Zl_eq, e2, Zgd_t (by omega), Zl_eq, e3, Zgd_t (by omega), Zl_eq, e4, Zgd_t (by omega), Zl_eq, Zup_s]
theorem m_rule {y : ZI} {p q fa : Int} {N : Nat} (h : 0 ≤ y 68 22 ∧ y 68 22 < 30) (hp : 0 ≤ p ∧ p ≤ 1) (hq : y 68 11 ≤ q ∧ q ≤ 999) (hT : TM y N) (hpa : paM (y 80) N 200 0 0 0 0 = if fa = -9 then (1, (N : Int)) else (0, fa)) (hfa : fa = -9 ∨ (0 ≤ fa ∧ fa ≤ N)) :
    F_X11_rule y p q = if fa = -9 then some (y 68 22 + 1, Zmm (Zmw y N) N p q) else some (-20 - fa, Zmw y fa) := by
  have hN : N ≤ 60 := by have := hT.2.2.1; omega
  unfold F_X11_rule X11_rule_b52
  rw [e_isIn, Yb_some, bi_t hp, if_neg (by decide), if_pos hq.1, if_neg (by omega), if_neg (by omega), if_pos rfl, m_parses hT, hpa]
  by_cases c : fa = -9
  · rw [if_pos c, if_pos c, Yb_some, Zl_eq]
    rw [if_neg (show ¬ ((1 : Int), (N : Int)).1 = 0 from (by decide : ¬ (1 : Int) = 0))]
    have e := m_copy_L (z := Zmw y N) (p := p) (q := q) (N := N) ⟨h.1, h.2, hN⟩ N 0 Zfuel (by omega) (by unfold Zfuel; omega)
    have z0 : ((0 : Nat) : Int) = 0 := rfl
    rw [Zcp_0, z0, m_b131 (w := Zmw y N) ⟨h.1, h.2⟩] at e
    have e1 : (Zat y N) 68 21 = N := hT.1
    dsimp only
    rw [e1]
    exact e
  · rw [if_neg c, if_neg c, Yb_some, Zl_eq, if_pos rfl]
    have e1 : (Zup (Zat y fa) 68 21 0) 68 23 = fa := (Zup_s : Zup y 68 23 fa 68 23 = fa)
    dsimp only
    rw [e1, Zgd_t (by omega)]
    rfl
theorem JU_push {z z2 : ZI} {p q N : Int} (hU : JU z) (hA : JA z) (hN : N = z 68 21) (hr : z 68 22 < 30) (hpa : (paM (z 80) N 200 0 0 0 0).1 = 1) (e1 : z2 24 2 = z 68 22 + 1) (e2 : z2 68 22 = z 68 22 + 1)
    (e3 : ∀ j, z2 27 j = if j = z 68 22 then N else z 27 j) (e4 : ∀ j, z2 82 j = if j = z 68 22 then N else z 82 j)
    (e5 : ∀ j, z2 28 j = if j = z 68 22 then p else z 28 j) (e6 : ∀ j, z2 83 j = if j = z 68 22 then p else z 83 j)
    (e7 : ∀ j, z2 29 j = if j = z 68 22 then q else z 29 j) (e8 : ∀ j, z2 84 j = if j = z 68 22 then q else z 84 j)
    (e9 : ∀ j, z2 26 j = if 60 * z 68 22 ≤ j ∧ j < 60 * z 68 22 + N then z 25 (0 + (j - 60 * z 68 22)) else z 26 j)
    (e10 : ∀ j, z2 81 j = if 60 * z 68 22 ≤ j ∧ j < 60 * z 68 22 + N then z 80 (0 + (j - 60 * z 68 22)) else z 81 j) : JU z2 := by
  obtain ⟨u1, u2, u3, u4⟩ := hU
  obtain ⟨a1, a2, a3, a4⟩ := hA
  refine ⟨by omega, by omega, by omega, fun r h1 h2 => ?_⟩
  rw [e3, e4, e5, e6, e7, e8]
  by_cases h : r = z 68 22
  · simp only [if_pos h]
    refine ⟨trivial, trivial, trivial, by omega, by omega, fun i g1 g2 => ?_, ?_⟩
    · have q := a4 i g1 (by omega)
      rw [e9, e10, if_pos (by omega), if_pos (by omega), show 0 + (60 * r + i - 60 * z 68 22) = i by omega]
      exact q
    · rw [paM_cc (b := z 80) (fun t g1 g2 => ?_)]
      · exact hpa
      · rw [e10, if_pos (by omega), show 0 + (60 * r + t - 60 * z 68 22) = t by omega]
  · simp only [if_neg h]
    obtain ⟨v1, v2, v3, v4, v5, v6, v7⟩ := u4 r h1 (by omega)
    refine ⟨v1, v2, v3, v4, v5, fun i g1 g2 => ?_, ?_⟩
    · rw [e9, e10, if_neg (by omega), if_neg (by omega)]
      exact v6 i g1 g2
    · rw [paM_cc (b := fun i => z 81 (60 * r + i)) (fun t g1 g2 => ?_)]
      · exact v7
      · rw [e10, if_neg (by omega)]
theorem K_bad {z : ZI} {s t e fa : Int} {k0 : Nat} (hK : K z) : K (Zmw (Zaf (Zrd (Zup z 24 1 0) k0 s (z 24 1)) t e) fa) := by
  obtain ⟨hD, hH, hP, hS, hL, hT, hE, hV, hA, hU, hC, hK, hW, hB, hG, hX, hQ, hO⟩ := hK
  exact ⟨(JD_c rfl rfl hD), (JH_c rfl rfl rfl rfl rfl rfl rfl hH), (JP_c rfl rfl rfl rfl rfl rfl rfl rfl rfl rfl rfl rfl hP), (JS_c rfl rfl rfl rfl rfl rfl rfl rfl rfl rfl rfl hS), (JL_c rfl rfl hL), (JT_c rfl rfl rfl rfl rfl hT), (JE_c rfl rfl rfl rfl hE), (JV_c rfl rfl rfl rfl hV), ⟨rfl, Int.le_refl _, (by show (0 : Int) ≤ 60; decide), fun i h1 h2 => absurd h2 (by show ¬ i < 0; omega)⟩, (JU_c rfl rfl rfl rfl rfl rfl rfl rfl rfl rfl hU), (JC_c rfl rfl rfl rfl rfl rfl rfl rfl rfl rfl hC), (JK_c rfl rfl rfl rfl rfl rfl rfl rfl rfl hK), (JW_c rfl rfl rfl rfl rfl rfl rfl rfl rfl rfl hW), (JB_c rfl rfl rfl rfl rfl rfl rfl rfl rfl rfl rfl rfl rfl rfl rfl rfl rfl rfl rfl rfl hB), (JG_c rfl rfl rfl rfl rfl hG), (JX_c rfl rfl rfl rfl rfl hX), (JQ_c rfl rfl rfl rfl rfl hQ), (JO_c rfl rfl rfl rfl rfl rfl rfl rfl rfl rfl rfl hO)⟩
theorem K_rule {z : ZI} {t e p q fa : Int} (hpa : (paM (z 80) (z 68 21) 200 0 0 0 0).1 = 1) (hr : z 68 22 < 30) (hK : K z) : K (Zmm (Zmw (Zmk (Zaf (Zrd (Zup z 24 1 0) 25 0 (z 68 21)) t e) (z 68 21) p q) fa) (z 68 21) p q) := by
  obtain ⟨hD, hH, hP, hS, hL, hT, hE, hV, hA, hU, hC, hK, hW, hB, hG, hX, hQ, hO⟩ := hK
  have ht : z 24 2 = z 68 22 := hU.1
  refine ⟨(JD_c rfl rfl hD), (JH_c rfl rfl rfl rfl rfl rfl rfl hH), (JP_c rfl rfl rfl rfl rfl rfl rfl rfl rfl rfl rfl rfl hP), (JS_c rfl rfl rfl rfl rfl rfl rfl rfl rfl rfl rfl hS), (JL_c rfl rfl hL), (JT_c rfl rfl rfl rfl rfl hT), (JE_c rfl rfl rfl rfl hE), (JV_c rfl rfl rfl rfl hV), ⟨rfl, Int.le_refl _, (by show (0 : Int) ≤ 60; decide), fun i h1 h2 => absurd h2 (by show ¬ i < 0; omega)⟩, ?_, (JC_c rfl rfl rfl rfl rfl rfl rfl rfl rfl rfl hC), (JK_c rfl rfl rfl rfl rfl rfl rfl rfl rfl hK), (JW_c rfl rfl rfl rfl rfl rfl rfl rfl rfl rfl hW), (JB_c rfl rfl rfl rfl rfl rfl rfl rfl rfl rfl rfl rfl rfl rfl rfl rfl rfl rfl rfl rfl hB), (JG_c rfl rfl rfl rfl rfl hG), (JX_c rfl rfl rfl rfl rfl hX), (JQ_c rfl rfl rfl rfl rfl hQ), (JO_c rfl rfl rfl rfl rfl rfl rfl rfl rfl rfl rfl hO)⟩
  refine JU_push (z := z) (p := p) (q := q) hU hA rfl hr hpa ?_ rfl ?_ ?_ ?_ ?_ ?_ ?_ ?_ ?_
  · show z 24 2 + 1 = _
    omega
  · intro j
    rw [← ht]
    exact (Zup_ki : Zup z 27 (z 24 2) (z 68 21) 27 j = _)
  · exact fun j => (Zup_ki : Zup z 82 (z 68 22) (z 68 21) 82 j = _)
  · intro j
    rw [← ht]
    exact (Zup_ki : Zup z 28 (z 24 2) p 28 j = _)
  · exact fun j => (Zup_ki : Zup z 83 (z 68 22) p 83 j = _)
  · intro j
    rw [← ht]
    exact (Zup_ki : Zup z 29 (z 24 2) q 29 j = _)
  · exact fun j => (Zup_ki : Zup z 84 (z 68 22) q 84 j = _)
  · intro j
    rw [← ht, Int.mul_comm 60]
    exact Zcp_i z 25 26 0 (z 24 2 * 60) (z 68 21) j
  · exact fun j => Zcp_i z 80 81 0 (60 * z 68 22) (z 68 21) j
