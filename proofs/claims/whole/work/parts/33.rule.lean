/-! texts: rule -/
theorem dgR_c {a b : Int → Int} {n : Int} (h : ∀ t, 0 ≤ t → sgA a n t = sgA b n t) : ∀ (k : Nat) (t : Int), 0 ≤ t → dgR a n k t = dgR b n k t ∧ t ≤ dgR b n k t
  | 0, t, _ => ⟨rfl, Int.le_refl _⟩
  | k + 1, t, ht => by
    have i := dgR_c h k (t + 1) (by omega)
    rw [dgR.eq_2, dgR.eq_2, h t ht]
    by_cases q : isDig (sgA b n t)
    · rw [if_pos q, if_pos q]
      exact ⟨i.1, by omega⟩
    · rw [if_neg q, if_neg q]
      exact ⟨rfl, Int.le_refl _⟩
theorem paM_c {a b : Int → Int} {n : Int} (h : ∀ t, 0 ≤ t → sgA a n t = sgA b n t) : ∀ (f : Nat) (m t d c : Int), 0 ≤ t → paM a n f m t d c = paM b n f m t d c
  | 0, m, t, d, c, _ => rfl
  | f + 1, m, t, d, c, ht => by
    have e2 := dgR_c h 4 t ht
    rw [paM.eq_2, paM.eq_2, h t ht, e2.1, paM_c h f 0 (t + 1) (d + 1) _ (by omega), paM_c h f 1 (t + 1) d c (by omega), paM_c h f 1 (dgR b n 4 t) d c (by omega), paM_c h f 1 (t + 1) (d - 1) c (by omega), paM_c h f 0 (t + 1) d (bitS c d) (by omega), paM_c h f 0 (t + 1) d c (by omega)]
theorem paM_cc {a b : Int → Int} {n : Int} (h : ∀ t, 0 ≤ t → t < n → a t = b t) : paM a n 200 0 0 0 0 = paM b n 200 0 0 0 0 := by
  refine paM_c (fun t ht => ?_) 200 0 0 0 0 (Int.le_refl _)
  unfold sgA
  by_cases q : n ≤ t
  · rw [if_pos q, if_pos q]
  · rw [if_neg q, if_neg q, h t ht (by omega)]
theorem sgn8_r {b : Int} (h : 0 ≤ b ∧ b ≤ 255) : -128 ≤ sgn8 b ∧ sgn8 b ≤ 127 := by unfold sgn8; split <;> omega
/-- a rule made -/
def Zmk (z : ZI) (N p f : Int) : ZI := Zup (Zup (Zup (Zup (Zcp z 25 26 0 (z 24 2 * 60) N) 27 (z 24 2) N) 28 (z 24 2) p) 29 (z 24 2) f) 24 2 (z 24 2 + 1)
theorem x_make {z : ZI} {p f : Int} {r : Int × Int × Int} (hr : r = pS (z 80) (z 24 1) (ltZ z) 6 0) (hA : JA z) (hLT : LT z) (h : 0 ≤ z 24 2 ∧ z 24 2 < 30) (hf : fauS (z 24 1) r = -9 ∨ (0 ≤ fauS (z 24 1) r ∧ fauS (z 24 1) r ≤ z 24 1)) :
    F_X7_makeOfTape z p f = if fauS (z 24 1) r = -9 then some (z 24 2 + 1, Zmk (Zaf (Zrd (Zup z 24 1 0) 25 0 (z 24 1)) r.2.1 (fauS (z 24 1) r)) (z 24 1) p f) else some (-20 - fauS (z 24 1) r, Zaf (Zrd (Zup z 24 1 0) 25 0 (z 24 1)) r.2.1 (fauS (z 24 1) r)) := by
  obtain ⟨a1, a2, a3, a4⟩ := hA
  have ok : YcpOk (Zup z 24 1 0) 25 60 60 0 0 (z 24 1) := by
    refine ⟨by omega, by omega, by omega, by omega, by omega, fun i h1 h2 => ?_⟩
    have q := a4 i h1 (by omega)
    show -128 ≤ z 25 i ∧ z 25 i ≤ 127
    rw [q.2.2]
    exact sgn8_r ⟨q.1, q.2.1⟩
  have e := x_read (z := Zup z 24 1 0) (k0 := 25) (n0 := 60) (s := 0) (len := z 24 1) (a := z 80) ok hLT (by omega) (fun t h1 h2 => by
    rw [show (0 : Int) + t = t by omega]
    exact a4 t h1 (by omega))
  rw [show pS (z 80) (z 24 1) (ltZ (Zup z 24 1 0)) 6 0 = r from hr.symm] at e
  have ok2 : YcpOk (Zaf (Zrd (Zup z 24 1 0) 25 0 (z 24 1)) r.2.1 (fauS (z 24 1) r)) 25 60 1800 0 (z 24 2 * 60) (z 24 1) := by
    refine ⟨by omega, by omega, by omega, by omega, by omega, fun i h1 h2 => ?_⟩
    exact ok.2.2.2.2.2 i h1 h2
  unfold F_X7_makeOfTape
  rw [Zl_eq, e, Yb_some, x_sound, Yb_some]
  generalize hz : Zaf (Zrd (Zup z 24 1 0) 25 0 (z 24 1)) r.2.1 (fauS (z 24 1) r) = y at *
  have y1 : y 24 2 = z 24 2 := by rw [← hz]; rfl
  have y2 : y 30 4 = fauS (z 24 1) r := by rw [← hz]; rfl
  have c1 : Zcp y 25 26 0 (z 24 2 * 60) (z 24 1) 24 2 = z 24 2 := y1
  rw [y1, y2]
  by_cases q : fauS (z 24 1) r = -9
  · rw [if_pos q, bi_t q, if_neg (by decide), Zgd_t (by omega), Zgd_t ok2, Zl_eq, c1, Zgd_t (by omega), Zl_eq]
    rw [show ∀ v, (Zup (Zcp y 25 26 0 (z 24 2 * 60) (z 24 1)) 27 (z 24 2) v) 24 2 = z 24 2 from fun _ => y1, Zgd_t (by omega), Zl_eq]
    rw [show ∀ v w, (Zup (Zup (Zcp y 25 26 0 (z 24 2 * 60) (z 24 1)) 27 (z 24 2) v) 28 (z 24 2) w) 24 2 = z 24 2 from fun _ _ => y1, Zgd_t (by omega), Zl_eq]
    rw [show ∀ v w x, (Zup (Zup (Zup (Zcp y 25 26 0 (z 24 2 * 60) (z 24 1)) 27 (z 24 2) v) 28 (z 24 2) w) 29 (z 24 2) x) 24 2 = z 24 2 from fun _ _ _ => y1, Zgd_t (by omega), Zl_eq, Zup_s]
    unfold Zmk
    rw [y1]
  · rw [if_neg q, bi_f q, if_pos rfl, Zgd_t (by omega)]
