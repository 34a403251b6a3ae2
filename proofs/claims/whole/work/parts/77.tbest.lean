/-! wells: best, once the class knows its best way, and the first call's rows made -/
def bstOf (z : ZI) (x : Int) : Int := if x = 5 then cost z (z 41 15) % 1000 else if x = 4 then cost z (z 41 15) / 1000 else hrW (z 41 15) x
noncomputable def bstX (z3 : ZI) (x : Int) : Option (Int × ZI) := if x = 5 then (Yb (F_X9_bestSum z3) fun r16_ z14_ => some (r16_, z14_)) else (if x = 4 then (Yb (F_X9_bestUnserved z3) fun r13_ z11_ => X10_best_b67 z11_ r13_) else (Yb (F_X9_bestBegin z3 x) fun r10_ z8_ => X10_best_b67 z8_ r10_))
theorem cost_b {z : ZI} (hK : K z) {w : Int} (hw : 0 ≤ w) : 0 ≤ cost z w ∧ cost z w ≤ 30000 := by
  rw [← pcS_end (K_W hK) w]
  exact pcS_b (K_H hK) _ hw
theorem K_B {z : ZI} (h : K z) : JB z := by
  obtain ⟨hD, hH, hP, hS, hL, hT, hE, hV, hA, hU, hC, hK, hW, hB, hG, hX, hQ, hO⟩ := h
  exact hB
theorem x_bst {z : ZI} {x : Int} (hK : K z) (hk : z 41 14 = 1) (hx : 0 ≤ x ∧ x ≤ 5) : bstX z x = some (bstOf z x, z) := by
  have hB := K_B hK
  rcases hB.2 with q | ⟨_, q2, q3, q4⟩
  · omega
  · have w0 := q3.1
    have w1 := q3.2.1
    have cb := cost_b hK w0
    have q4 : z 52 (z 41 15) = cost z (z 41 15) := q4
    have w0 : 0 ≤ z 41 15 := w0
    have w1 : z 41 15 < 4096 := w1
    have cb : 0 ≤ cost z (z 41 15) ∧ cost z (z 41 15) ≤ 30000 := cb
    unfold bstX bstOf
    by_cases c5 : x = 5
    · rw [if_pos c5, if_pos c5]
      unfold F_X9_bestSum X9_bestSum_b29
      rw [q2, Zgd_t (by omega), if_neg (by omega), Zgd_t (by omega), Yb_some, q4, Int.tmod_eq_emod_of_nonneg cb.1]
    · rw [if_neg c5, if_neg c5]
      by_cases c4 : x = 4
      · rw [if_pos c4, if_pos c4]
        unfold F_X9_bestUnserved X9_bestUnserved_b29 X10_best_b67
        rw [q2, Zgd_t (by omega), if_neg (by omega), Zgd_t (by omega), Yb_some, q4, Int.tdiv_eq_ediv_of_nonneg cb.1]
      · rw [if_neg c4, if_neg c4]
        unfold F_X9_bestBegin X10_best_b67
        rw [x_beginIn ⟨w0, w1⟩ (by omega), Yb_some, Yb_some]
theorem m_bst {n : Int} {z : ZI} {x : Int} (hK : K z) (hN : JN n z) (hk : z 41 14 = 1) (hx : 0 ≤ x ∧ x ≤ 5) : ∃ z2, F_X11_best z x = some (bstOf z x, z2) ∧ K z2 ∧ JN (n + 1) z2 := by
  obtain ⟨y, bw, a1, a2, a3, a4, a5, a6, a7⟩ := m_findBest hK
  have hB := K_B hK
  rcases hB.2 with q | ⟨_, q2, q3, q4⟩
  · omega
  · have e := isBest_u a4 q3 (fun v _ _ => rfl)
    refine ⟨y, ?_, a3, JN_1 (JN_fg hN a2)⟩
    have r := hrW_r q3.1
    have a5 : y 68 48 = cost z bw / 1000 := a5
    have a6 : y 68 49 = cost z bw % 1000 := a6
    have a7 : ∀ b : Int, 0 ≤ b → b ≤ 3 → y 104 b = hrW bw b := a7
    unfold F_X11_best X11_best_b53 bstOf
    rw [e_isIn, Yb_some, bi_t (by omega), if_neg (by decide), a1, Yb_some, ← e]
    by_cases c5 : x = 5
    · rw [if_pos (by omega), if_neg (by omega), if_pos c5, a6]
    · rw [if_neg c5]
      by_cases c4 : x = 4
      · rw [if_pos (by omega), if_pos c4, if_pos c4, a5]
      · rw [if_neg (by omega), if_neg c4, Zgd_t (by omega), a7 x (by omega) (by omega)]
theorem x_find {n : Int} {z : ZI} (hK : K z) (hN : JN n z) (hz : z 41 14 = 0 → z 200 52 = 4096 ∧ z 200 53 = 4096) : ∃ z3, F_X9_findBest z (z 68 11) = some ((), z3) ∧ K z3 ∧ JN n z3 ∧ z3 41 14 = 1 := by
  have hB := K_B hK
  rcases hB.2 with q | q
  · obtain ⟨l1, l2⟩ := hz q
    obtain ⟨y, bw, a1, a2, a3, a4⟩ := x_b34 hK q ⟨l1, l2⟩
    refine ⟨_, ?_, K_known hK q ⟨l1, l2⟩ a2 a3 a4, ?_, rfl⟩
    · unfold F_X9_findBest
      have q : z 41 14 = 0 := q
      rw [if_pos q, l1, Zgd_t (by omega), if_neg (by decide), a1]
    · exact fun i p q => JN_fb hN a2 i p q
  · refine ⟨z, ?_, hK, hN, q.1⟩
    unfold F_X9_findBest
    have q : z 41 14 = 1 := q.1
    rw [q, if_neg (by decide)]
set_option maxHeartbeats 400000 in
theorem t_best {n : Int} {z : ZI} (hK : K z) (hN : JN n z) (hn : n ≤ 1000) (x : Int) (hz : z 41 14 = 0 → z 200 52 = 4096 ∧ z 200 53 = 4096) : Both (F_X10_best z x) (fun z1 => F_X11_best z1 x) (fun z2 => K z2 ∧ JN (n + 1) z2) := by
  have hR := hN.R hn
  have hl := links hK
  have hK0 := hK
  obtain ⟨hD, hH, hP, hS, hL, hT, hE, hV, hA, hU, hC, hK, hW, hB, hG, hX, hQ, hO⟩ := hK
  by_cases c1 : ¬ (0 ≤ x ∧ x ≤ 5)
  · refine Both_ref hK0 hN (w := -2) hn (by omega) ?_ ?_
    · unfold F_X10_best X10_best_b9
      grind (gen := 20) [Yb_some, Zgd_i, Zl_eq, bi, e_refuse, e_refuse]
    · show F_X11_best (zR z (-2)) x = _
      unfold F_X11_best 
      grind (gen := 20) [Yb_some, Zgd_i, Zl_eq, bi, zR_d, zR_k, e_no, e_isIn]
  obtain ⟨z3, a1, a2, a3, a4⟩ := x_find hK0 hN hz
  obtain ⟨z4, b1, b2, b3⟩ := m_bst (x := x) a2 a3 a4 (by omega)
  refine ⟨bstOf z3 x, z3, z4, ?_, b1, b2, b3⟩
  have h := x_bst (x := x) a2 a4 (by omega)
  unfold bstX at h
  unfold F_X10_best
  have a1 : F_X9_findBest z (z 0 0) = some ((), z3) := by
    rw [show z 0 0 = z 68 11 from hD.1]
    exact a1
  rw [if_neg (by omega), if_pos (by omega), a1, Yb_some]
  exact h
