/-! one row more behind the others, group by group -/
set_option maxHeartbeats 400000 in
theorem JP_push {z z2 : ZI} {h b t : Int} (hG : JP z) (h1 : 0 ≤ h ∧ h < z 68 12) (h2 : -36500 ≤ b ∧ b ≤ z 68 11) (h3 : 0 ≤ t ∧ t ≤ 5) (h4 : 0 ≤ z 68 11) (hn : z 68 13 < 60) (c0 : z2 68 13 = z 68 13 + 1) (c1 : z2 11 4 = z 68 13 + 1) (s0 : z2 68 12 = z 68 12) (s1 : z2 68 11 = z 68 11) (e0 : ∀ j, z2 15 j = if j = z 68 13 then h else z 15 j) (e1 : ∀ j, z2 73 j = if j = z 68 13 then h else z 73 j) (e2 : ∀ j, z2 16 j = if j = z 68 13 then b else z 16 j) (e3 : ∀ j, z2 74 j = if j = z 68 13 then b else z 74 j) (e4 : ∀ j, z2 17 j = if j = z 68 13 then t else z 17 j) (e5 : ∀ j, z2 75 j = if j = z 68 13 then t else z 75 j) (e6 : ∀ j, z2 18 j = if j = z 68 13 then z 68 11 else z 18 j) (e7 : ∀ j, z2 76 j = if j = z 68 13 then z 68 11 else z 76 j) : JP z2 := by
  obtain ⟨a0, a1, a2, a3⟩ := hG
  refine ⟨by omega, by omega, by omega, ?_⟩
  · intro k k1 k2
    by_cases hk : k = z 68 13
    · subst hk
      simp only [c0, c1, s0, s1, e0, e1, e2, e3, e4, e5, e6, e7, eq_self, if_true, true_and, and_true, true_or, or_true]
      omega
    · have q := a3 k k1 (by omega)
      simp only [c0, c1, s0, s1, e0, e1, e2, e3, e4, e5, e6, e7, hk, if_false]
      exact q
set_option maxHeartbeats 400000 in
theorem JC_push {z z2 : ZI} {h : Int} (hG : JC z) (h1 : 0 ≤ h ∧ h < z 68 12) (h4 : 0 ≤ z 68 11) (hn : z 68 34 < 40) (c0 : z2 68 34 = z 68 34 + 1) (c1 : z2 33 0 = z 68 34 + 1) (s0 : z2 68 12 = z 68 12) (s1 : z2 68 11 = z 68 11) (e0 : ∀ j, z2 34 j = if j = z 68 34 then h else z 34 j) (e1 : ∀ j, z2 88 j = if j = z 68 34 then h else z 88 j) (e2 : ∀ j, z2 35 j = if j = z 68 34 then z 68 11 else z 35 j) (e3 : ∀ j, z2 89 j = if j = z 68 34 then z 68 11 else z 89 j) (e4 : ∀ j, z2 36 j = if j = z 68 34 then (-9) else z 36 j) (e5 : ∀ j, z2 90 j = if j = z 68 34 then (-1) else z 90 j) : JC z2 := by
  obtain ⟨a0, a1, a2, a3⟩ := hG
  refine ⟨by omega, by omega, by omega, ?_⟩
  · intro k k1 k2
    by_cases hk : k = z 68 34
    · subst hk
      simp only [c0, c1, s0, s1, e0, e1, e2, e3, e4, e5, eq_self, if_true, true_and, and_true, true_or, or_true]
      omega
    · have q := a3 k k1 (by omega)
      simp only [c0, c1, s0, s1, e0, e1, e2, e3, e4, e5, hk, if_false]
      exact q
set_option maxHeartbeats 400000 in
theorem JK_push {z z2 : ZI} {k w : Int} (hG : JK z) (h1 : 1 ≤ k ∧ k ≤ 9999) (h2 : 0 ≤ w ∧ w ≤ 9999) (h4 : 0 ≤ z 68 11) (hn : z 68 35 < 60) (c0 : z2 68 35 = z 68 35 + 1) (c1 : z2 37 0 = z 68 35 + 1) (s0 : z2 68 11 = z 68 11) (e0 : ∀ j, z2 38 j = if j = z 68 35 then z 68 11 else z 38 j) (e1 : ∀ j, z2 91 j = if j = z 68 35 then z 68 11 else z 91 j) (e2 : ∀ j, z2 39 j = if j = z 68 35 then k else z 39 j) (e3 : ∀ j, z2 92 j = if j = z 68 35 then k else z 92 j) (e4 : ∀ j, z2 40 j = if j = z 68 35 then w else z 40 j) (e5 : ∀ j, z2 93 j = if j = z 68 35 then w else z 93 j) : JK z2 := by
  obtain ⟨a0, a1, a2, a3, a4⟩ := hG
  refine ⟨by omega, by omega, by omega, ?_, ?_⟩
  · intro k k1 k2
    by_cases hk : k = z 68 35
    · subst hk
      simp only [c0, c1, s0, e0, e1, e2, e3, e4, e5, eq_self, if_true, true_and, and_true, true_or, or_true]
      omega
    · have q := a3 k k1 (by omega)
      simp only [c0, c1, s0, e0, e1, e2, e3, e4, e5, hk, if_false]
      exact q
  · intro x l k1 k2 k3
    have q2 := a3 x k1 (by omega)
    by_cases hl : l = z 68 35
    · subst hl
      simp only [c0, c1, s0, e0, e1, e2, e3, e4, e5, eq_self, if_true]
      rw [if_neg (by omega)]
      omega
    · have q := a4 x l k1 k2 (by omega)
      simp only [c0, c1, s0, e0, e1, e2, e3, e4, e5, hl, if_false]
      rw [if_neg (by omega)]
      exact q
set_option maxHeartbeats 400000 in
theorem JW_push {z z2 : ZI} {c y d : Int} (hG : JW z) (h1 : 0 ≤ c ∧ c < 144) (h2 : 1 ≤ y ∧ y ≤ 99) (h3 : 1 ≤ d ∧ d ≤ 9999) (hn : z 68 47 < 6) (c0 : z2 68 47 = z 68 47 + 1) (c1 : z2 41 0 = z 68 47 + 1) (s0 : z2 45 = z 45) (s1 : z2 98 = z 98) (e0 : ∀ j, z2 42 j = if j = z 68 47 then c else z 42 j) (e1 : ∀ j, z2 95 j = if j = z 68 47 then c else z 95 j) (e2 : ∀ j, z2 43 j = if j = z 68 47 then y else z 43 j) (e3 : ∀ j, z2 96 j = if j = z 68 47 then y else z 96 j) (e4 : ∀ j, z2 44 j = if j = z 68 47 then d else z 44 j) (e5 : ∀ j, z2 97 j = if j = z 68 47 then d else z 97 j) : JW z2 := by
  obtain ⟨a0, a1, a2, a3, a4⟩ := hG
  refine ⟨by omega, by omega, by omega, ?_, ?_⟩
  · intro k k1 k2
    by_cases hk : k = z 68 47
    · subst hk
      simp only [c0, c1, s0, s1, e0, e1, e2, e3, e4, e5, eq_self, if_true, true_and, and_true, true_or, or_true]
      omega
    · have q := a3 k k1 (by omega)
      simp only [c0, c1, s0, s1, e0, e1, e2, e3, e4, e5, hk, if_false]
      exact q
  · rw [s0, s1]; exact a4
set_option maxHeartbeats 400000 in
theorem JO_push {z z2 : ZI} {b d v : Int} (hG : JO z) (h1 : 0 ≤ b ∧ b ≤ 3) (h2 : 0 ≤ d ∧ d ≤ z 68 11) (h3 : -1 ≤ v ∧ v ≤ 9999) (hn : z 68 79 < 40) (c0 : z2 68 79 = z 68 79 + 1) (c1 : z2 63 0 = z 68 79 + 1) (s0 : z2 68 11 = z 68 11) (e0 : ∀ j, z2 64 j = if j = z 68 79 then b else z 64 j) (e1 : ∀ j, z2 125 j = if j = z 68 79 then b else z 125 j) (e2 : ∀ j, z2 65 j = if j = z 68 79 then d else z 65 j) (e3 : ∀ j, z2 126 j = if j = z 68 79 then d else z 126 j) (e4 : ∀ j, z2 66 j = if j = z 68 79 then v else z 66 j) (e5 : ∀ j, z2 127 j = if j = z 68 79 then v else z 127 j) (e6 : ∀ j, z2 67 j = if j = z 68 79 then z 68 11 else z 67 j) (e7 : ∀ j, z2 128 j = if j = z 68 79 then z 68 11 else z 128 j) : JO z2 := by
  obtain ⟨a0, a1, a2, a3⟩ := hG
  refine ⟨by omega, by omega, by omega, ?_⟩
  · intro k k1 k2
    by_cases hk : k = z 68 79
    · subst hk
      simp only [c0, c1, s0, e0, e1, e2, e3, e4, e5, e6, e7, eq_self, if_true, true_and, and_true, true_or, or_true]
      omega
    · have q := a3 k k1 (by omega)
      simp only [c0, c1, s0, e0, e1, e2, e3, e4, e5, e6, e7, hk, if_false]
      exact q
set_option maxHeartbeats 400000 in
theorem JQ_push {z z2 : ZI} {p : Int} (hG : JQ z) (h1 : 0 ≤ p ∧ p < z 68 13) (h2 : ∀ k, 0 ≤ k → k < z 68 78 → z 122 k ≠ p) (hn : z 68 78 < 60) (c0 : z2 68 78 = z 68 78 + 1) (c1 : z2 59 0 = z 68 78 + 1) (s0 : z2 68 13 = z 68 13) (e0 : ∀ j, z2 60 j = if j = z 68 78 then p else z 60 j) (e1 : ∀ j, z2 122 j = if j = z 68 78 then p else z 122 j) : JQ z2 := by
  obtain ⟨a0, a1, a2, a3, a4⟩ := hG
  refine ⟨by omega, by omega, by omega, ?_, ?_⟩
  · intro k k1 k2
    by_cases hk : k = z 68 78
    · subst hk
      simp only [c0, c1, s0, e0, e1, eq_self, if_true, true_and, and_true, true_or, or_true]
      omega
    · have q := a3 k k1 (by omega)
      simp only [c0, c1, s0, e0, e1, hk, if_false]
      exact q
  · intro x l k1 k2 k3 k4
    simp only [c0, c1, s0, e0, e1]
    by_cases hx : x = z 68 78
    · by_cases hl : l = z 68 78
      · intro _; omega
      · have q3 := h2 l k3 (by omega)
        simp only [hx, hl, eq_self, if_true, if_false]
        intro h; exact absurd h.symm q3
    · by_cases hl : l = z 68 78
      · have q3 := h2 x k1 (by omega)
        simp only [hx, hl, eq_self, if_true, if_false]
        intro h; exact absurd h q3
      · have q := a4 x l k1 (by omega) k3 (by omega)
        simp only [hx, hl, if_false]
        exact q
set_option maxHeartbeats 400000 in
theorem JE_push {z z2 : ZI} {v : Int} (hG : JE z) (h1 : 0 ≤ v ∧ v < 144) (h2 : ∀ k, 0 ≤ k → k < z 68 62 → z 110 k ≠ v) (h3 : srch (z 110) v (z 68 62).toNat 0 = -9) (ex : ∀ j, z2 5 j = if j = v then z 68 62 else z 5 j) (hn : z 68 62 < 10) (c0 : z2 68 62 = z 68 62 + 1) (c1 : z2 2 4 = z 68 62 + 1) (e0 : ∀ j, z2 110 j = if j = z 68 62 then v else z 110 j) : JE z2 := by
  obtain ⟨a0, a1, a2, a3, a4, a5⟩ := hG
  refine ⟨by omega, by omega, by omega, ?_, ?_, ?_⟩
  · intro k k1 k2
    by_cases hk : k = z 68 62
    · subst hk
      simp only [c0, c1, e0, eq_self, if_true, true_and, and_true, true_or, or_true]
      omega
    · have q := a3 k k1 (by omega)
      simp only [c0, c1, e0, hk, if_false]
      exact q
  · intro x l k1 k2 k3 k4
    simp only [c0, c1, e0]
    by_cases hx : x = z 68 62
    · by_cases hl : l = z 68 62
      · intro _; omega
      · have q3 := h2 l k3 (by omega)
        simp only [hx, hl, eq_self, if_true, if_false]
        intro h; exact absurd h.symm q3
    · by_cases hl : l = z 68 62
      · have q3 := h2 x k1 (by omega)
        simp only [hx, hl, eq_self, if_true, if_false]
        intro h; exact absurd h q3
      · have q := a4 x l k1 (by omega) k3 (by omega)
        simp only [hx, hl, if_false]
        exact q
  · intro x x1 x2
    have q := a5 x x1 x2
    have hp := srch_push (z 110) (z2 110) x v (z 68 62).toNat (fun j q1 q2 => by rw [e0, if_neg (by omega)]) (by rw [e0, if_pos (by omega)])
    have t : (z 68 62 + 1).toNat = (z 68 62).toNat + 1 := by omega
    rw [c0, t, hp, ex, q]
    by_cases hx : x = v
    · subst hx
      rw [if_pos rfl, if_pos h3, if_pos rfl]
      omega
    · rw [if_neg hx, if_neg (Ne.symm hx)]
      split
      · assumption
      · rfl
set_option maxHeartbeats 400000 in
theorem JX_push {z z2 : ZI} {v : Int} (hG : JX z) (h1 : 0 ≤ v ∧ v < z 68 12) (h2 : ∀ k, 0 ≤ k → k < z 68 70 → z 116 k ≠ v) (h3 : srch (z 116) v (z 68 70).toNat 0 = -9) (ex : ∀ j, z2 55 j = if j = v then z 68 70 else z 55 j) (hn : z 68 70 < 8) (c0 : z2 68 70 = z 68 70 + 1) (c1 : z2 54 0 = z 68 70 + 1) (s0 : z2 68 12 = z 68 12) (e0 : ∀ j, z2 116 j = if j = z 68 70 then v else z 116 j) : JX z2 := by
  obtain ⟨a0, a1, a2, a3, a4, a5⟩ := hG
  refine ⟨by omega, by omega, by omega, ?_, ?_, ?_⟩
  · intro k k1 k2
    by_cases hk : k = z 68 70
    · subst hk
      simp only [c0, c1, s0, e0, eq_self, if_true, true_and, and_true, true_or, or_true]
      omega
    · have q := a3 k k1 (by omega)
      simp only [c0, c1, s0, e0, hk, if_false]
      exact q
  · intro x l k1 k2 k3 k4
    simp only [c0, c1, s0, e0]
    by_cases hx : x = z 68 70
    · by_cases hl : l = z 68 70
      · intro _; omega
      · have q3 := h2 l k3 (by omega)
        simp only [hx, hl, eq_self, if_true, if_false]
        intro h; exact absurd h.symm q3
    · by_cases hl : l = z 68 70
      · have q3 := h2 x k1 (by omega)
        simp only [hx, hl, eq_self, if_true, if_false]
        intro h; exact absurd h q3
      · have q := a4 x l k1 (by omega) k3 (by omega)
        simp only [hx, hl, if_false]
        exact q
  · intro x x1 x2
    have q := a5 x x1 x2
    have hp := srch_push (z 116) (z2 116) x v (z 68 70).toNat (fun j q1 q2 => by rw [e0, if_neg (by omega)]) (by rw [e0, if_pos (by omega)])
    have t : (z 68 70 + 1).toNat = (z 68 70).toNat + 1 := by omega
    rw [c0, t, hp, ex, q]
    by_cases hx : x = v
    · subst hx
      rw [if_pos rfl, if_pos h3, if_pos rfl]
      omega
    · rw [if_neg hx, if_neg (Ne.symm hx)]
      split
      · assumption
      · rfl
set_option maxHeartbeats 400000 in
theorem JH_push {z z2 : ZI} {v b : Int} (hG : JH z) (h1 : 0 ≤ v ∧ v < 144) (h4 : 0 ≤ b ∧ b ≤ 3) (h2 : ∀ k, 0 ≤ k → k < z 68 12 → z 71 k ≠ v) (h3 : srch (z 71) v (z 68 12).toNat 0 = -9) (ex : ∀ j, z2 14 j = if j = v then z 68 12 else z 14 j) (hn : z 68 12 < 30) (c0 : z2 68 12 = z 68 12 + 1) (c1 : z2 11 0 = z 68 12 + 1) (e0 : ∀ j, z2 71 j = if j = z 68 12 then v else z 71 j) (e1 : ∀ j, z2 12 j = if j = z 68 12 then v else z 12 j) (e2 : ∀ j, z2 72 j = if j = z 68 12 then b else z 72 j) (e3 : ∀ j, z2 13 j = if j = z 68 12 then b else z 13 j) : JH z2 := by
  obtain ⟨a0, a1, a2, a3, a4, a5⟩ := hG
  refine ⟨by omega, by omega, by omega, ?_, ?_, ?_⟩
  · intro k k1 k2
    by_cases hk : k = z 68 12
    · subst hk
      simp only [c0, c1, e0, e1, e2, e3, eq_self, if_true, true_and, and_true, true_or, or_true]
      omega
    · have q := a3 k k1 (by omega)
      simp only [c0, c1, e0, e1, e2, e3, hk, if_false]
      exact q
  · intro x l k1 k2 k3 k4
    simp only [c0, c1, e0, e1, e2, e3]
    by_cases hx : x = z 68 12
    · by_cases hl : l = z 68 12
      · intro _; omega
      · have q3 := h2 l k3 (by omega)
        simp only [hx, hl, eq_self, if_true, if_false]
        intro h; exact absurd h.symm q3
    · by_cases hl : l = z 68 12
      · have q3 := h2 x k1 (by omega)
        simp only [hx, hl, eq_self, if_true, if_false]
        intro h; exact absurd h q3
      · have q := a4 x l k1 (by omega) k3 (by omega)
        simp only [hx, hl, if_false]
        exact q
  · intro x x1 x2
    have q := a5 x x1 x2
    have hp := srch_push (z 71) (z2 71) x v (z 68 12).toNat (fun j q1 q2 => by rw [e0, if_neg (by omega)]) (by rw [e0, if_pos (by omega)])
    have t : (z 68 12 + 1).toNat = (z 68 12).toNat + 1 := by omega
    rw [c0, t, hp, ex, q]
    by_cases hx : x = v
    · subst hx
      rw [if_pos rfl, if_pos h3, if_pos rfl]
      omega
    · rw [if_neg hx, if_neg (Ne.symm hx)]
      split
      · assumption
      · rfl
set_option maxHeartbeats 400000 in
theorem JP_m {z z2 : ZI} (m0 : z 68 12 ≤ z2 68 12) (m1 : z 68 11 ≤ z2 68 11) (e0 : z2 68 13 = z 68 13) (e1 : z2 11 4 = z 11 4) (e2 : z2 15 = z 15) (e3 : z2 73 = z 73) (e4 : z2 16 = z 16) (e5 : z2 74 = z 74) (e6 : z2 17 = z 17) (e7 : z2 75 = z 75) (e8 : z2 18 = z 18) (e9 : z2 76 = z 76) (hG : JP z) : JP z2 := by
  obtain ⟨a0, a1, a2, a3⟩ := hG
  unfold JP
  simp only [e0, e1, e2, e3, e4, e5, e6, e7, e8, e9]
  refine ⟨a0, a1, a2, ?_⟩
  intro k k1 k2
  have q := a3 k k1 k2
  omega
set_option maxHeartbeats 400000 in
theorem JC_m {z z2 : ZI} (m0 : z 68 12 ≤ z2 68 12) (m1 : z 68 11 ≤ z2 68 11) (e0 : z2 33 0 = z 33 0) (e1 : z2 68 34 = z 68 34) (e2 : z2 34 = z 34) (e3 : z2 88 = z 88) (e4 : z2 35 = z 35) (e5 : z2 89 = z 89) (e6 : z2 36 = z 36) (e7 : z2 90 = z 90) (hG : JC z) : JC z2 := by
  obtain ⟨a0, a1, a2, a3⟩ := hG
  unfold JC
  simp only [e0, e1, e2, e3, e4, e5, e6, e7]
  refine ⟨a0, a1, a2, ?_⟩
  intro k k1 k2
  have q := a3 k k1 k2
  omega
set_option maxHeartbeats 400000 in
theorem JK_m {z z2 : ZI} (m0 : z 68 11 ≤ z2 68 11) (e0 : z2 37 0 = z 37 0) (e1 : z2 68 35 = z 68 35) (e2 : z2 38 = z 38) (e3 : z2 91 = z 91) (e4 : z2 39 = z 39) (e5 : z2 92 = z 92) (e6 : z2 40 = z 40) (e7 : z2 93 = z 93) (hG : JK z) : JK z2 := by
  obtain ⟨a0, a1, a2, a3, a4⟩ := hG
  unfold JK
  simp only [e0, e1, e2, e3, e4, e5, e6, e7]
  refine ⟨a0, a1, a2, ?_, a4⟩
  intro k k1 k2
  have q := a3 k k1 k2
  omega
set_option maxHeartbeats 400000 in
theorem JX_m {z z2 : ZI} (m0 : z 68 12 ≤ z2 68 12) (e0 : z2 54 0 = z 54 0) (e1 : z2 68 70 = z 68 70) (e2 : z2 116 = z 116) (e3 : z2 55 = z 55) (hG : JX z) : JX z2 := by
  obtain ⟨a0, a1, a2, a3, a4, a5⟩ := hG
  unfold JX
  simp only [e0, e1, e2, e3]
  refine ⟨a0, a1, a2, ?_, a4, a5⟩
  intro k k1 k2
  have q := a3 k k1 k2
  omega
set_option maxHeartbeats 400000 in
theorem JQ_m {z z2 : ZI} (m0 : z 68 13 ≤ z2 68 13) (e0 : z2 59 0 = z 59 0) (e1 : z2 68 78 = z 68 78) (e2 : z2 60 = z 60) (e3 : z2 122 = z 122) (hG : JQ z) : JQ z2 := by
  obtain ⟨a0, a1, a2, a3, a4⟩ := hG
  unfold JQ
  simp only [e0, e1, e2, e3]
  refine ⟨a0, a1, a2, ?_, a4⟩
  intro k k1 k2
  have q := a3 k k1 k2
  omega
set_option maxHeartbeats 400000 in
theorem JO_m {z z2 : ZI} (m0 : z 68 11 ≤ z2 68 11) (e0 : z2 63 0 = z 63 0) (e1 : z2 68 79 = z 68 79) (e2 : z2 64 = z 64) (e3 : z2 125 = z 125) (e4 : z2 65 = z 65) (e5 : z2 126 = z 126) (e6 : z2 66 = z 66) (e7 : z2 127 = z 127) (e8 : z2 67 = z 67) (e9 : z2 128 = z 128) (hG : JO z) : JO z2 := by
  obtain ⟨a0, a1, a2, a3⟩ := hG
  unfold JO
  simp only [e0, e1, e2, e3, e4, e5, e6, e7, e8, e9]
  refine ⟨a0, a1, a2, ?_⟩
  intro k k1 k2
  have q := a3 k k1 k2
  omega
set_option maxHeartbeats 400000 in
theorem JS_day {z z2 : ZI} (hS : JS z) (m : z 68 11 ≤ z2 68 11) (e1 : z2 68 14 = z 68 14) (e2 : z2 11 10 = z 11 10) (e3 : z2 77 = z 77) (e4 : z2 68 13 = z 68 13) (e5 : z2 21 = z 21) (e6 : z2 78 = z 78) (e7 : z2 20 = z 20) (e8 : z2 79 = z 79) (e9 : z2 19 = z 19) (e10 : z2 22 = z 22) : JS z2 := by
  obtain ⟨a0, a1, a2, a3, a4, a5, a6⟩ := hS
  unfold JS
  simp only [e1, e2, e3, e4, e5, e6, e7, e8, e9, e10]
  refine ⟨a0, a1, a2, ?_, a4, a5, a6⟩
  intro k k1 k2
  have q := a3 k k1 k2
  omega
theorem srchL_none (a : Int → Int) (c : Int) : ∀ n : Nat, (∀ j : Nat, j < n → a j ≠ c) → srchL a c n = -9
  | 0, _ => rfl
  | n + 1, h => by
    unfold srchL
    rw [if_neg (h n (Nat.lt_succ_self n))]
    exact srchL_none a c n (fun j hj => h j (Nat.lt_succ_of_lt hj))
theorem srchL_cong (a b : Int → Int) (c : Int) : ∀ n : Nat, (∀ j : Nat, j < n → a j = b j) → srchL a c n = srchL b c n
  | 0, _ => rfl
  | n + 1, h => by
    unfold srchL
    rw [h n (Nat.lt_succ_self n), srchL_cong a b c n (fun j hj => h j (Nat.lt_succ_of_lt hj))]
set_option maxHeartbeats 400000 in
theorem JS_person {z z2 : ZI} (hS : JS z) (hp : 0 ≤ z 68 13) (m : z2 68 11 = z 68 11) (e1 : z2 68 14 = z 68 14) (e2 : z2 11 10 = z 11 10) (e3 : z2 77 = z 77) (e4 : z2 68 13 = z 68 13 + 1) (e5 : z2 21 = z 21) (e6 : z2 78 = z 78) (e7 : z2 20 = z 20) (e8 : z2 79 = z 79) (e9 : ∀ j, z2 19 j = if j = z 68 13 then -9 else z 19 j) (e10 : z2 22 = z 22) : JS z2 := by
  obtain ⟨a0, a1, a2, a3, a4, a5, a6⟩ := hS
  unfold JS
  simp only [m, e1, e2, e3, e4, e5, e6, e7, e8, e10]
  refine ⟨a0, a1, a2, ?_, ?_, a5, a6⟩
  · intro k k1 k2
    have q := a3 k k1 k2
    omega
  · intro p p1 p2
    rw [e9]
    by_cases h : p = z 68 13
    · rw [if_pos h, srchL_none]
      intro j hj hq
      have q := a3 j (by omega) (by omega)
      omega
    · rw [if_neg h]
      exact a4 p p1 (by omega)
set_option maxHeartbeats 400000 in
theorem JS_tell {z z2 : ZI} {p s : Int} (hS : JS z) (hp : 0 ≤ p ∧ p < z 68 13) (hs : 0 ≤ s ∧ s ≤ 4) (hd : 0 ≤ z 68 11) (hn : z 68 14 < 150) (hq : ∀ k, 0 ≤ k → k < z 68 14 → z 77 k = p → z 78 k ≠ 4) (m : z2 68 11 = z 68 11) (e4 : z2 68 13 = z 68 13) (e1 : z2 68 14 = z 68 14 + 1) (e2 : z2 11 10 = z 68 14 + 1) (e3 : ∀ j, z2 77 j = if j = z 68 14 then p else z 77 j) (e5 : ∀ j, z2 21 j = if j = z 68 14 then s else z 21 j) (e6 : ∀ j, z2 78 j = if j = z 68 14 then s else z 78 j) (e7 : ∀ j, z2 20 j = if j = z 68 14 then z 68 11 else z 20 j) (e8 : ∀ j, z2 79 j = if j = z 68 14 then z 68 11 else z 79 j) (e10 : ∀ j, z2 22 j = if j = z 68 14 then z 19 p else z 22 j) (e9 : ∀ j, z2 19 j = if j = p then z 68 14 else z 19 j) : JS z2 := by
  obtain ⟨a0, a1, a2, a3, a4, a5, a6⟩ := hS
  have hc : ∀ (c : Int) (n : Nat), (n : Int) ≤ z 68 14 → srchL (z2 77) c n = srchL (z 77) c n := fun c n h => srchL_cong _ _ c n (fun j hj => by rw [e3, if_neg (by omega)])
  have ht : (z 68 14 + 1).toNat = (z 68 14).toNat + 1 := by omega
  have hN : (((z 68 14).toNat : Nat) : Int) = z 68 14 := by omega
  refine ⟨by omega, by omega, by omega, ?_, ?_, ?_, ?_⟩
  · intro k k1 k2
    simp only [m, e4, e3, e5, e6, e7, e8]
    by_cases h : k = z 68 14
    · simp only [h, eq_self, if_true, true_and, and_true]; omega
    · have q := a3 k k1 (by omega)
      simp only [h, if_false]; exact q
  · intro q q1 q2
    have u : srchL (z2 77) q ((z 68 14).toNat + 1) = if z2 77 ((z 68 14).toNat : Nat) = q then (((z 68 14).toNat : Nat) : Int) else srchL (z2 77) q (z 68 14).toNat := rfl
    rw [e1, ht, u, hN, e3, if_pos rfl, e9, hc q _ (by omega)]
    by_cases h : q = p
    · rw [if_pos h, if_pos h.symm]
    · rw [if_neg h, if_neg (Ne.symm h)]
      exact a4 q q1 (by omega)
  · intro k k1
    rw [hc _ k (by omega), e10, e3]
    by_cases h : (k : Int) = z 68 14
    · rw [if_pos h, if_pos h, a4 p hp.1 hp.2]
      congr 1
      omega
    · rw [if_neg h, if_neg h]
      exact a5 k (by omega)
  · intro k l k1 k2 k3
    rw [e6, e3, e3, if_neg (show k ≠ z 68 14 by omega), if_neg (show k ≠ z 68 14 by omega)]
    by_cases h : l = z 68 14
    · rw [if_pos h]
      intro h4 h5
      exact hq k k1 (by omega) h5.symm h4
    · rw [if_neg h]
      exact a6 k l k1 k2 (by omega)
/-- what is told by today is known on every later day -/
theorem stF_day {z z2 : ZI} (hP : JP z) (hS : JS z) {p : Int} (hp : 0 ≤ p ∧ p < z 68 13) {d : Int} (hd : z 68 11 ≤ d) : stF z p d = stF z p (z 68 11) := by
  have q := hP.2.2.2 p hp.1 hp.2
  have b := hS.2.2.2.1
  have n0 := hS.1
  have key : ∀ n : Nat, (n : Int) ≤ z 68 14 → stR (z 77) (z 79) (z 78) p d n = stR (z 77) (z 79) (z 78) p (z 68 11) n := by
    intro n
    induction n with
    | zero => intro _; rfl
    | succ n ih =>
      intro h
      have c := b n (by omega) (by omega)
      have i := ih (by omega)
      unfold stR
      rw [i]
      by_cases e : z 77 n = p
      · rw [if_pos ⟨e, by omega⟩, if_pos ⟨e, by omega⟩]
      · rw [if_neg (fun h => e h.1), if_neg (fun h => e h.1)]
  rw [stF_d, stF_d, if_neg (by omega), if_neg (by omega), key _ (by omega)]
theorem hereR_cong {ph : Int → Int} {s1 s2 : Int → Int → Int} {h d1 d2 : Int} : ∀ n : Nat, (∀ j : Nat, j < n → s1 j d1 = s2 j d2) → hereR ph s1 h d1 n = hereR ph s2 h d2 n
  | 0, _ => rfl
  | n + 1, hh => by
    unfold hereR
    rw [hereR_cong n (fun j hj => hh j (Nat.lt_succ_of_lt hj)), hh n (Nat.lt_succ_self n)]
theorem hereH_day {z : ZI} (hP : JP z) (hS : JS z) {h d : Int} (hd : z 68 11 ≤ d) : hereH z h d = hereH z h (z 68 11) :=
  hereR_cong _ (fun j hj => stF_day (z2 := z) hP hS (by have := hP.1; omega) hd)
