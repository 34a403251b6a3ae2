/-! leave: list -/
def Zfl (z : ZI) (n : Int) (A B C D E : Int → Int) : ZI := fun k i => if k = 59 ∧ i = 2 then n else if k = 30 then A i else if k = 31 then B i else if k = 32 then C i else if k = 61 then D i else if k = 62 then E i else z k i
def FrL (z z2 : ZI) : Prop := ∀ k i, (z2 k i = z k i) ∨ (k = 59 ∧ i = 2) ∨ k = 30 ∨ k = 31 ∨ k = 32 ∨ k = 61 ∨ k = 62
theorem FrL.eq {z z2 : ZI} (h : FrL z z2) : z2 = Zfl z (z2 59 2) (z2 30) (z2 31) (z2 32) (z2 61) (z2 62) := by
  funext k i
  unfold Zfl
  by_cases h1 : k = 59 ∧ i = 2
  · rw [if_pos h1, h1.1, h1.2]
  · rw [if_neg h1]
    by_cases h2 : k = 30
    · rw [if_pos h2, h2]
    · rw [if_neg h2]
      by_cases h3 : k = 31
      · rw [if_pos h3, h3]
      · rw [if_neg h3]
        by_cases h4 : k = 32
        · rw [if_pos h4, h4]
        · rw [if_neg h4]
          by_cases h5 : k = 61
          · rw [if_pos h5, h5]
          · rw [if_neg h5]
            by_cases h6 : k = 62
            · rw [if_pos h6, h6]
            · rw [if_neg h6]
              rcases h k i with q | q | q | q | q | q | q
              · exact q
              all_goals omega
theorem FrL.rf (z : ZI) : FrL z z := fun _ _ => Or.inl rfl
theorem FrL.tr {z z2 z3 : ZI} (h : FrL z z2) (g : FrL z2 z3) : FrL z z3 := by
  intro k i
  rcases h k i with q | q
  · rcases g k i with r | r
    · exact Or.inl (r.trans q)
    · exact Or.inr r
  · exact Or.inr q
theorem FrL.k {z z2 : ZI} (h : FrL z z2) {k : Nat} (h1 : k ≠ 59) (h2 : k ≠ 30) (h3 : k ≠ 31) (h4 : k ≠ 32) (h5 : k ≠ 61) (h6 : k ≠ 62) : z2 k = z k := by
  funext i
  rcases h k i with q | q | q | q | q | q | q
  · exact q
  all_goals omega
theorem FrL.q {z z2 : ZI} (h : FrL z z2) {i : Int} (hi : i ≠ 2) : z2 59 i = z 59 i := by
  rcases h 59 i with q | q | q | q | q | q | q
  · exact q
  · exact absurd q.2 hi
  all_goals exact absurd q (by decide)
theorem FrL_X {z z2 : ZI} (h : FrX z z2) : FrL z z2 := by
  intro k i
  by_cases h2 : k = 30
  · exact Or.inr (Or.inr (Or.inl h2))
  · by_cases h3 : k = 31
    · exact Or.inr (Or.inr (Or.inr (Or.inl h3)))
    · by_cases h4 : k = 32
      · exact Or.inr (Or.inr (Or.inr (Or.inr (Or.inl h4))))
      · exact Or.inl (by rw [h k h2 h3 h4])
theorem FrL_2 (z : ZI) (A B : Int → Int) : FrL z (Ztwo z 61 62 A B) := by
  intro k i
  by_cases h5 : k = 61
  · exact Or.inr (Or.inr (Or.inr (Or.inr (Or.inr (Or.inl h5)))))
  · by_cases h6 : k = 62
    · exact Or.inr (Or.inr (Or.inr (Or.inr (Or.inr (Or.inr h6)))))
    · exact Or.inl (by rw [Ztwo_k h5 h6])
theorem FrL_u (z : ZI) (v : Int) : FrL z (Zup z 59 2 v) := by
  intro k i
  by_cases h : k = 59 ∧ i = 2
  · exact Or.inr (Or.inl h)
  · exact Or.inl (if_neg h)
theorem K_fl {z : ZI} {n : Int} {A B C D E : Int → Int} (h : K z) : K (Zfl z n A B C D E) := by
  obtain ⟨hD, hH, hP, hS, hL, hT, hE, hV, hA, hU, hC, hK, hW, hB, hG, hX, hQ, hO⟩ := h
  exact ⟨(JD_c rfl rfl hD), (JH_c rfl rfl rfl rfl rfl rfl rfl hH), (JP_c rfl rfl rfl rfl rfl rfl rfl rfl rfl rfl rfl rfl hP), (JS_c rfl rfl rfl rfl rfl rfl rfl rfl rfl rfl rfl hS), (JL_c rfl rfl hL), (JT_c rfl rfl rfl rfl rfl hT), (JE_c rfl rfl rfl rfl hE), (JV_c rfl rfl rfl rfl hV), (JA_c rfl rfl rfl rfl hA), (JU_c rfl rfl rfl rfl rfl rfl rfl rfl rfl rfl hU), (JC_c rfl rfl rfl rfl rfl rfl rfl rfl rfl rfl hC), (JK_c rfl rfl rfl rfl rfl rfl rfl rfl rfl hK), (JW_c rfl rfl rfl rfl rfl rfl rfl rfl rfl rfl hW), (JB_c rfl rfl rfl rfl rfl rfl rfl rfl rfl rfl rfl rfl rfl rfl rfl rfl rfl rfl rfl rfl hB), (JG_c rfl rfl rfl rfl rfl hG), (JX_c rfl rfl rfl rfl rfl hX), (JQ_c rfl rfl rfl rfl rfl hQ), (JO_c rfl rfl rfl rfl rfl rfl rfl rfl rfl rfl rfl hO)⟩
theorem FrL_K {z z2 : ZI} (h : FrL z z2) (hK : K z) : K z2 := by
  rw [h.eq]
  exact K_fl hK
theorem FrL_st {z z2 : ZI} (h : FrL z z2) : stF z2 = stF z := by
  rw [h.eq]
  rfl
theorem FrL_pt {z z2 : ZI} (h : FrL z z2) : ptS z2 = ptS z := by
  rw [h.eq]
  rfl
def Zfn (z : ZI) (w v : Int) (A B C D E : Int → Int) : ZI := fun k i => if k = 68 ∧ i = 26 then w else if k = 68 ∧ i = 27 then v else if k = 85 then A i else if k = 86 then B i else if k = 87 + 1000 then C i else if k = 123 then D i else if k = 124 then E i else z k i
def FrN (z z2 : ZI) : Prop := ∀ k i, (z2 k i = z k i) ∨ (k = 68 ∧ (i = 26 ∨ i = 27)) ∨ k = 85 ∨ k = 86 ∨ k = 87 + 1000 ∨ k = 123 ∨ k = 124
theorem FrN.eq {z z2 : ZI} (h : FrN z z2) : z2 = Zfn z (z2 68 26) (z2 68 27) (z2 85) (z2 86) (z2 (87 + 1000)) (z2 123) (z2 124) := by
  funext k i
  unfold Zfn
  by_cases h1 : k = 68 ∧ i = 26
  · rw [if_pos h1, h1.1, h1.2]
  · rw [if_neg h1]
    by_cases h2 : k = 68 ∧ i = 27
    · rw [if_pos h2, h2.1, h2.2]
    · rw [if_neg h2]
      by_cases h5 : k = 85
      · rw [if_pos h5, h5]
      · rw [if_neg h5]
        by_cases h3 : k = 86
        · rw [if_pos h3, h3]
        · rw [if_neg h3]
          by_cases h4 : k = 87 + 1000
          · rw [if_pos h4, h4]
          · rw [if_neg h4]
            by_cases h6 : k = 123
            · rw [if_pos h6, h6]
            · rw [if_neg h6]
              by_cases h7 : k = 124
              · rw [if_pos h7, h7]
              · rw [if_neg h7]
                rcases h k i with q | q | q | q | q | q | q
                · exact q
                all_goals omega
theorem FrN.rf (z : ZI) : FrN z z := fun _ _ => Or.inl rfl
theorem FrN.tr {z z2 z3 : ZI} (h : FrN z z2) (g : FrN z2 z3) : FrN z z3 := by
  intro k i
  rcases h k i with q | q
  · rcases g k i with r | r
    · exact Or.inl (r.trans q)
    · exact Or.inr r
  · exact Or.inr q
theorem FrN.k {z z2 : ZI} (h : FrN z z2) {k : Nat} (h1 : k ≠ 68) (h2 : k ≠ 85) (h3 : k ≠ 86) (h4 : k ≠ 87 + 1000) (h5 : k ≠ 123) (h6 : k ≠ 124) : z2 k = z k := by
  funext i
  rcases h k i with q | q | q | q | q | q | q
  · exact q
  all_goals omega
theorem FrN.l {z z2 : ZI} (h : FrN z z2) {i : Int} (h1 : i ≠ 26) (h2 : i ≠ 27) : z2 68 i = z 68 i := by
  rcases h 68 i with q | q | q | q | q | q | q
  · exact q
  · omega
  all_goals exact absurd q (by decide)
theorem FrN_M {z z2 : ZI} (h : FrM z z2) : FrN z z2 := by
  intro k i
  rcases h k i with q | q | q | q | q
  · exact Or.inl q
  · exact Or.inr (Or.inl q)
  · exact Or.inr (Or.inr (Or.inl q))
  · exact Or.inr (Or.inr (Or.inr (Or.inl q)))
  · exact Or.inr (Or.inr (Or.inr (Or.inr (Or.inl q))))
theorem FrN_2 (z : ZI) (A B : Int → Int) : FrN z (Ztwo z 123 124 A B) := by
  intro k i
  by_cases h5 : k = 123
  · exact Or.inr (Or.inr (Or.inr (Or.inr (Or.inr (Or.inl h5)))))
  · by_cases h6 : k = 124
    · exact Or.inr (Or.inr (Or.inr (Or.inr (Or.inr (Or.inr h6)))))
    · exact Or.inl (by rw [Ztwo_k h5 h6])
theorem K_fn {z : ZI} {w v : Int} {A B C D E : Int → Int} (h : K z) : K (Zfn z w v A B C D E) := by
  obtain ⟨hD, hH, hP, hS, hL, hT, hE, hV, hA, hU, hC, hK, hW, hB, hG, hX, hQ, hO⟩ := h
  exact ⟨(JD_c rfl rfl hD), (JH_c rfl rfl rfl rfl rfl rfl rfl hH), (JP_c rfl rfl rfl rfl rfl rfl rfl rfl rfl rfl rfl rfl hP), (JS_c rfl rfl rfl rfl rfl rfl rfl rfl rfl rfl rfl hS), (JL_c rfl rfl hL), (JT_c rfl rfl rfl rfl rfl hT), (JE_c rfl rfl rfl rfl hE), (JV_c rfl rfl rfl rfl hV), (JA_c rfl rfl rfl rfl hA), (JU_c rfl rfl rfl rfl rfl rfl rfl rfl rfl rfl hU), (JC_c rfl rfl rfl rfl rfl rfl rfl rfl rfl rfl hC), (JK_c rfl rfl rfl rfl rfl rfl rfl rfl rfl hK), (JW_c rfl rfl rfl rfl rfl rfl rfl rfl rfl rfl hW), (JB_c rfl rfl rfl rfl rfl rfl rfl rfl rfl rfl rfl rfl rfl rfl rfl rfl rfl rfl rfl rfl hB), (JG_c rfl rfl rfl rfl rfl hG), (JX_c rfl rfl rfl rfl rfl hX), (JQ_c rfl rfl rfl rfl rfl hQ), (JO_c rfl rfl rfl rfl rfl rfl rfl rfl rfl rfl rfl hO)⟩
theorem FrN_K {z z2 : ZI} (h : FrN z z2) (hK : K z) : K z2 := by
  rw [h.eq]
  exact K_fn hK
theorem FrN_st {z z2 : ZI} (h : FrN z z2) : stF z2 = stF z := by
  rw [h.eq]
  rfl
theorem FrN_pt {z z2 : ZI} (h : FrN z z2) : ptS z2 = ptS z := by
  rw [h.eq]
  rfl
theorem JN_fl {n : Int} {z z2 : ZI} (h : JN n z) (f : FrL z z2) : JN n z2 := by
  intro i a b
  rw [f.k (k := 1) (by decide) (by decide) (by decide) (by decide) (by decide) (by decide), f.k (k := 69) (by decide) (by decide) (by decide) (by decide) (by decide) (by decide)]
  exact h i a b
theorem JN_fn {n : Int} {z z2 : ZI} (h : JN n z) (f : FrN z z2) : JN n z2 := by
  intro i a b
  rw [f.k (k := 1) (by decide) (by decide) (by decide) (by decide) (by decide) (by decide), f.k (k := 69) (by decide) (by decide) (by decide) (by decide) (by decide) (by decide)]
  exact h i a b
theorem K_Q {z : ZI} (h : K z) : JQ z := by
  obtain ⟨hD, hH, hP, hS, hL, hT, hE, hV, hA, hU, hC, hK, hW, hB, hG, hX, hQ, hO⟩ := h
  exact hQ
def lsX (z : ZI) (d : Int) : Nat → Nat × (Int → Int) × (Int → Int) := lsR (z 122) (stF z) (ptS z) d (z 61) (z 62)
def lsM (z : ZI) (d : Int) : Nat → Nat × (Int → Int) × (Int → Int) := lsR (z 122) (stF z) (ptS z) d (z 123) (z 124)
theorem x_rank_L {z : ZI} {d : Int} (hK : K z) (hd : 0 ≤ d ∧ d ≤ 999) : ∀ (n k fu : Nat) (y : ZI), k + n = (z 68 78).toNat → n < fu → FrL z y → y 59 2 = (lsX z d k).1 → y 61 = (lsX z d k).2.1 → y 62 = (lsX z d k).2.2 → ∃ y2, X5_rank_L8 fu y d k = some ((((lsX z d (z 68 78).toNat).1 : Nat) : Int), y2) ∧ FrL z y2 ∧ y2 59 2 = (lsX z d (z 68 78).toNat).1 ∧ y2 61 = (lsX z d (z 68 78).toNat).2.1 := by
  have hQ := K_Q hK
  intro n
  induction n with
  | zero =>
    intro k fu y hk hf fr e1 e2 e3
    obtain ⟨fu, rfl⟩ : ∃ g, fu = g + 1 := ⟨fu - 1, by omega⟩
    obtain rfl : k = (z 68 78).toNat := by omega
    refine ⟨y, ?_, fr, e1, e2⟩
    show X5_rank_L8b (X5_rank_L8 fu) y d _ = _
    have q0 : y 59 0 = z 68 78 := by rw [fr.q (by decide)]; exact hQ.1
    have := hQ.2.1
    unfold X5_rank_L8b
    rw [q0, if_pos (by omega), e1]
  | succ n ih =>
    intro k fu y hk hf fr e1 e2 e3
    obtain ⟨fu, rfl⟩ : ∃ g, fu = g + 1 := ⟨fu - 1, by omega⟩
    have q0 : y 59 0 = z 68 78 := by rw [fr.q (by decide)]; exact hQ.1
    have b1 := hQ.2.1
    have b2 := hQ.2.2.1
    have hq := hQ.2.2.2.1 k (by omega) (by omega)
    have a60 : y 60 k = z 122 k := by rw [fr.k (k := 60) (by decide) (by decide) (by decide) (by decide) (by decide) (by decide)]; exact hq.1
    have hKy := FrL_K fr hK
    have np : y 68 13 = z 68 13 := by rw [fr.k (k := 68) (by decide) (by decide) (by decide) (by decide) (by decide) (by decide)]
    have eh := x_isHere (d := d) (p := z 122 k) (K_P hKy) (K_S hKy) (by omega)
    have le := lsR_le (ln := z 122) (st := stF z) (pt := ptS z) (d := d) (A0 := z 61) (B0 := z 62) k
    have le : (lsX z d k).1 ≤ k := le
    rw [FrL_st fr] at eh
    have e0 : X5_rank_L8 (fu + 1) y d k = X5_rank_L8b (X5_rank_L8 fu) y d k := rfl
    rw [e0]
    unfold X5_rank_L8b
    rw [q0, if_neg (by omega), Zgd_t (by omega), a60, eh, Yb_some]
    by_cases c : stF z (z 122 k) d = 0 ∨ stF z (z 122 k) d = 2
    · obtain ⟨y1, x1, x2⟩ := x_pointsOf (z := y) (p := z 122 k) (d := d) (K_U hKy) (K_D hKy) (K_P hKy) (K_S hKy) (by omega) hd
      rw [FrL_pt fr] at x1
      have s1 : y1 59 2 = (lsX z d k).1 := by rw [x2 59 (by decide) (by decide) (by decide)]; exact e1
      have s2 : y1 61 = (lsX z d k).2.1 := by rw [x2 61 (by decide) (by decide) (by decide)]; exact e2
      have s3 : y1 62 = (lsX z d k).2.2 := by rw [x2 62 (by decide) (by decide) (by decide)]; exact e3
      have pl := x_place1 (z := y1) (p := z 122 k) (v := ptS z (z 122 k) d) (m := (lsX z d k).1) (by omega) s1
      have ut : lsX z d (k + 1) = _ := lsR_t (ln := z 122) (st := stF z) (pt := ptS z) (d := d) (A0 := z 61) (B0 := z 62) (k := k) c
      rw [bi_t c, if_neg (by decide), x1, Yb_some, pl, Yb_some]
      unfold X5_rank_b50
      rw [Zgd_t (by omega), show (k : Int) + 1 = ((k + 1 : Nat) : Int) by omega]
      refine ih (k + 1) fu _ (by omega) (by omega) (((fr.tr (FrL_X x2)).tr (FrL_2 _ _ _)).tr (FrL_u _ _)) ?_ ?_ ?_
      · rw [Zup_s, ut]
        show (((lsX z d k).1 : Nat) : Int) + 1 = (((lsX z d k).1 + 1 : Nat) : Int)
        omega
      · rw [Zup_k (by decide), Ztwo_a, ut, s2, s3]
        rfl
      · rw [Zup_k (by decide), Ztwo_b (by decide), ut, s3]
        rfl
    · have ut : lsX z d (k + 1) = lsX z d k := lsR_f c
      rw [bi_f c, if_pos rfl]
      unfold X5_rank_b50
      rw [Zgd_t (by omega), show (k : Int) + 1 = ((k + 1 : Nat) : Int) by omega]
      exact ih (k + 1) fu y (by omega) (by omega) fr (by rw [ut]; exact e1) (by rw [ut]; exact e2) (by rw [ut]; exact e3)
theorem x_rank {z : ZI} {d : Int} (hK : K z) (hd : 0 ≤ d ∧ d ≤ 999) : ∃ y2, F_X5_rank z d = some ((((lsX z d (z 68 78).toNat).1 : Nat) : Int), y2) ∧ FrL z y2 ∧ y2 59 2 = (lsX z d (z 68 78).toNat).1 ∧ y2 61 = (lsX z d (z 68 78).toNat).2.1 := by
  have hQ := K_Q hK
  have b2 := hQ.2.2.1
  obtain ⟨y2, h1, h2, h3⟩ := x_rank_L hK hd (z 68 78).toNat 0 Zfuel (Zup z 59 2 0) (by omega) (by unfold Zfuel; omega) (FrL_u z 0) Zup_s (Zup_k (by decide)) (Zup_k (by decide))
  exact ⟨y2, h1, h2, h3⟩
theorem m_list_L {z : ZI} {d : Int} (hK : K z) (hd : 0 ≤ d ∧ d ≤ 999) : ∀ (n k fu : Nat) (y : ZI), k + n = (z 68 78).toNat → n < fu → FrN z y → y 123 = (lsM z d k).2.1 → y 124 = (lsM z d k).2.2 → ∃ y2, X11_findList_L4 fu y d (lsM z d k).1 k = some ((((lsM z d (z 68 78).toNat).1 : Nat) : Int), y2) ∧ FrN z y2 ∧ y2 123 = (lsM z d (z 68 78).toNat).2.1 := by
  have hQ := K_Q hK
  intro n
  induction n with
  | zero =>
    intro k fu y hk hf fr e2 e3
    obtain ⟨fu, rfl⟩ : ∃ g, fu = g + 1 := ⟨fu - 1, by omega⟩
    obtain rfl : k = (z 68 78).toNat := by omega
    refine ⟨y, ?_, fr, e2⟩
    show X11_findList_L4b (X11_findList_L4 fu) y d _ _ = _
    have q0 : y 68 78 = z 68 78 := fr.l (by decide) (by decide)
    have := hQ.2.1
    unfold X11_findList_L4b
    rw [q0, if_pos (by omega)]
  | succ n ih =>
    intro k fu y hk hf fr e2 e3
    obtain ⟨fu, rfl⟩ : ∃ g, fu = g + 1 := ⟨fu - 1, by omega⟩
    have q0 : y 68 78 = z 68 78 := fr.l (by decide) (by decide)
    have b1 := hQ.2.1
    have b2 := hQ.2.2.1
    have hq := hQ.2.2.2.1 k (by omega) (by omega)
    have a60 : y 122 k = z 122 k := by rw [fr.k (k := 122) (by decide) (by decide) (by decide) (by decide) (by decide) (by decide)]
    have hKy := FrN_K fr hK
    have np : y 68 13 = z 68 13 := fr.l (by decide) (by decide)
    have eh := m_isHere (d := d) (p := z 122 k) (K_P hKy) (K_S hKy) (by omega)
    have le := lsR_le (ln := z 122) (st := stF z) (pt := ptS z) (d := d) (A0 := z 123) (B0 := z 124) k
    have le : (lsM z d k).1 ≤ k := le
    rw [FrN_st fr] at eh
    have e0 : X11_findList_L4 (fu + 1) y d (lsM z d k).1 k = X11_findList_L4b (X11_findList_L4 fu) y d (lsM z d k).1 k := rfl
    rw [e0]
    unfold X11_findList_L4b
    rw [q0, if_neg (by omega), Zgd_t (by omega), a60, eh, Yb_some]
    by_cases c : stF z (z 122 k) d = 0 ∨ stF z (z 122 k) d = 2
    · obtain ⟨y1, x1, x2⟩ := m_pointsOf (z := y) (p := z 122 k) (d := d) (K_U hKy) (K_D hKy) (K_P hKy) (K_S hKy) (by omega) hd
      rw [FrN_pt fr] at x1
      have s2 : y1 123 = (lsM z d k).2.1 := by rw [x2.k (k := 123) (by decide) (by decide) (by decide) (by decide)]; exact e2
      have s3 : y1 124 = (lsM z d k).2.2 := by rw [x2.k (k := 124) (by decide) (by decide) (by decide) (by decide)]; exact e3
      have s4 : y1 122 k = z 122 k := by rw [x2.k (k := 122) (by decide) (by decide) (by decide) (by decide)]; exact a60
      have pl := m_ins_L (k4 := X11_findList_L4 fu) (z := y1) (d := d) (v := ptS z (z 122 k) d) (x3 := k) (A := y1 123) (B := y1 124) (m := (lsM z d k).1) (by omega) (by omega) (lsM z d k).1 Zfuel (Nat.le_refl _) (by unfold Zfuel; omega)
      rw [shf_m, shf_m, Ztwo_z] at pl
      have ut : lsM z d (k + 1) = _ := lsR_t (ln := z 122) (st := stF z) (pt := ptS z) (d := d) (A0 := z 123) (B0 := z 124) (k := k) c
      have u1 : (((lsM z d k).1 : Nat) : Int) + 1 = ((lsM z d (k + 1)).1 : Nat) := by
        rw [ut]
        show (((lsM z d k).1 : Nat) : Int) + 1 = (((lsM z d k).1 + 1 : Nat) : Int)
        omega
      rw [bi_t c, if_neg (by decide), Zgd_t (by omega), a60, x1, Yb_some, pl]
      unfold X11_findList_b127
      rw [Zgd_t (by omega), show (k : Int) + 1 = ((k + 1 : Nat) : Int) by omega, u1]
      refine ih (k + 1) fu _ (by omega) (by omega) ((fr.tr (FrN_M x2)).tr (FrN_2 _ _ _)) ?_ ?_
      · rw [Ztwo_a, ut, s2, s3, s4]
        rfl
      · rw [Ztwo_b (by decide), ut, s3]
        rfl
    · have ut : lsM z d (k + 1) = lsM z d k := lsR_f c
      have i := ih (k + 1) fu y (by omega) (by omega) fr (by rw [ut]; exact e2) (by rw [ut]; exact e3)
      rw [ut] at i
      rw [bi_f c, if_pos rfl]
      unfold X11_findList_b127
      rw [Zgd_t (by omega), show (k : Int) + 1 = ((k + 1 : Nat) : Int) by omega]
      exact i
theorem m_list {z : ZI} {d : Int} (hK : K z) (hd : 0 ≤ d ∧ d ≤ 999) : ∃ y2, F_X11_findList z d = some ((((lsM z d (z 68 78).toNat).1 : Nat) : Int), y2) ∧ FrN z y2 ∧ y2 123 = (lsM z d (z 68 78).toNat).2.1 := by
  have hQ := K_Q hK
  have b2 := hQ.2.2.1
  exact m_list_L hK hd (z 68 78).toNat 0 Zfuel z (by omega) (by unfold Zfuel; omega) (FrN.rf z) rfl rfl
/-- the class' list first, then the reference's -/
theorem both_list {z : ZI} {d : Int} (hK : K z) (hd : 0 ≤ d ∧ d ≤ 999) : ∃ (y1 y2 : ZI) (m : Nat), F_X5_rank z d = some ((m : Int), y1) ∧ FrL z y1 ∧ y1 59 2 = m ∧ F_X11_findList y1 d = some ((m : Int), y2) ∧ FrN y1 y2 ∧ m ≤ (z 68 78).toNat ∧
    (∀ i : Int, 0 ≤ i → i < m → y1 61 i = y2 123 i) ∧
    (∀ i : Int, 0 ≤ i → i < m → ∃ j : Nat, j < (z 68 78).toNat ∧ y1 61 i = z 122 j ∧ (stF z (z 122 j) d = 0 ∨ stF z (z 122 j) d = 2)) ∧
    (∀ i j : Int, 0 ≤ i → i < m → 0 ≤ j → j < m → y1 61 i = y1 61 j → i = j) := by
  have hQ := K_Q hK
  have b1 := hQ.2.1
  obtain ⟨y1, h1, h2, h3, h4⟩ := x_rank hK hd
  have hK1 := FrL_K h2 hK
  obtain ⟨y2, g1, g2, g3⟩ := m_list hK1 hd
  have ln : y1 122 = z 122 := h2.k (by decide) (by decide) (by decide) (by decide) (by decide) (by decide)
  have nq : y1 68 78 = z 68 78 := by rw [h2.k (k := 68) (by decide) (by decide) (by decide) (by decide) (by decide) (by decide)]
  have co := lsR_c (ln := z 122) (st := stF z) (pt := ptS z) (d := d) (A0 := z 61) (B0 := z 62) (A1 := y1 123) (B1 := y1 124) (z 68 78).toNat
  have em : lsM y1 d (y1 68 78).toNat = lsR (z 122) (stF z) (ptS z) d (y1 123) (y1 124) (z 68 78).toNat := by
    unfold lsM
    rw [ln, nq, FrL_st h2, FrL_pt h2]
  rw [em] at g1 g3
  rw [← co.1] at g1
  refine ⟨y1, y2, _, h1, h2, h3, g1, g2, lsR_le _, fun i i1 i2 => ?_, fun i i1 i2 => ?_, fun i j i1 i2 j1 j2 e => ?_⟩
  · rw [h4, g3]
    exact (co.2 i i1 i2).1
  · obtain ⟨j, q1, q2, q3⟩ := lsR_in (ln := z 122) (st := stF z) (pt := ptS z) (d := d) (A0 := z 61) (B0 := z 62) (z 68 78).toNat i i1 i2
    exact ⟨j, q1, by rw [h4]; exact q2, q3⟩
  · rw [h4] at e
    exact lsR_inj (N := (z 68 78).toNat) (fun k l k1 k2 l1 l2 q => hQ.2.2.2.2 k l k1 (by omega) l1 (by omega) q) _ (Nat.le_refl _) i j i1 i2 j1 j2 e
theorem t_list {n : Int} {z : ZI} (hK : K z) (hN : JN n z) (hn : n ≤ 1000) (d i : Int) (hi : InR i) : Both (F_X10_list z d i) (fun z1 => F_X11_list z1 d i) (fun z2 => K z2 ∧ JN (n + 1) z2) := by
  have hR := hN.R hn
  have hl := links hK
  have hK0 := hK
  obtain ⟨hD, hH, hP, hS, hL, hT, hE, hV, hA, hU, hC, hK, hW, hB, hG, hX, hQ, hO⟩ := hK
  by_cases c1 : d < 0
  · refine Both_ref hK0 hN (w := -4) hn (by omega) ?_ ?_
    · unfold F_X10_list 
      grind (gen := 20) [Yb_some, Zgd_i, Zl_eq, bi, e_refuse, e_checkRange, rng]
    · show F_X11_list (zR z (-4)) d i = _
      unfold F_X11_list X11_list_b48
      grind (gen := 20) [Yb_some, Zgd_i, Zl_eq, bi, zR_d, zR_k, e_no, e_out, rng]
  by_cases c2 : 999 < d
  · refine Both_ref hK0 hN (w := -6) hn (by omega) ?_ ?_
    · unfold F_X10_list 
      grind (gen := 20) [Yb_some, Zgd_i, Zl_eq, bi, e_refuse, e_checkRange, rng]
    · show F_X11_list (zR z (-6)) d i = _
      unfold F_X11_list X11_list_b48
      grind (gen := 20) [Yb_some, Zgd_i, Zl_eq, bi, zR_d, zR_k, e_no, e_out, rng]
  have r0 : rng d 0 999 = 0 := by unfold rng; rw [if_neg (by omega), if_neg (by omega)]
  obtain ⟨y1, y2, m, h1, h2, h3, h4, h5, h6, h7, -, -⟩ := both_list (d := d) hK0 (by omega)
  have b2 := hQ.2.2.1
  refine ⟨if 0 ≤ i ∧ i < m then y1 61 i else -9, y1, y2, ?_, ?_, FrN_K h5 (FrL_K h2 hK0), JN_1 (JN_fn (JN_fl hN h2) h5)⟩
  · unfold F_X10_list F_X5_rankedAt X5_rankedAt_b21 X5_rankedAt_b23
    rw [e_checkRange, Yb_some, r0, if_pos rfl, h1, Yb_some, h3]
    by_cases c : i < 0
    · rw [if_pos c, Yb_some, if_neg (by omega)]
    · rw [if_neg c]
      by_cases c2 : (m : Int) ≤ i
      · rw [if_pos c2, Yb_some, if_neg (by omega)]
      · rw [if_neg c2, Zgd_t (by omega), Yb_some, if_pos (by omega)]
  · show F_X11_list y1 d i = _
    unfold F_X11_list X11_list_b48
    rw [e_out, Yb_some, r0, if_pos rfl, h4, Yb_some, Zgd_t (by omega), e_isIn, Yb_some]
    by_cases c : 0 ≤ i ∧ i < m
    · rw [bi_t (by omega), if_neg (by decide), Zgd_t (by omega), if_pos c, h7 i c.1 c.2]
    · rw [bi_f (by omega), if_pos rfl, if_neg c]
