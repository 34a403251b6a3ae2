/-! texts: the class works a rule's text out -/
theorem x_worth {z : ZI} {r : Int} (hU : JU z) (hLT : LT z) (h : 0 ≤ r ∧ r < z 68 22) : ∃ t e, F_X7_worth z r = some ((pS (fun i => z 81 (60 * r + i)) (z 82 r) (ltZ z) 6 0).1, Zaf (Zrd z 26 (r * 60) (z 82 r)) t e) := by
  obtain ⟨u1, u2, u3, u4⟩ := hU
  obtain ⟨v1, v2, v3, v4, v5, v6, -⟩ := u4 r h.1 h.2
  have ok : YcpOk z 26 1800 60 (r * 60) 0 (z 82 r) := by
    refine ⟨by omega, by omega, by omega, by omega, by omega, fun i h1 h2 => ?_⟩
    have q := v6 (i - r * 60) (by omega) (by omega)
    rw [show 60 * r + (i - r * 60) = i by omega] at q
    rw [q.2.2]
    exact sgn8_r ⟨q.1, q.2.1⟩
  have e := x_read (a := fun i => z 81 (60 * r + i)) ok hLT ⟨v4, v5⟩ (fun t h1 h2 => by
    have q := v6 t h1 h2
    rw [Int.mul_comm r 60]
    exact q)
  refine ⟨(pS (fun i => z 81 (60 * r + i)) (z 82 r) (ltZ z) 6 0).2.1, fauS (z 82 r) (pS (fun i => z 81 (60 * r + i)) (z 82 r) (ltZ z) 6 0), ?_⟩
  unfold F_X7_worth
  rw [Zgd_t (by omega), Zgd_t (by omega), v3, e, Yb_some]
