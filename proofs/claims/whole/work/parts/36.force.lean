/-! texts: the rule in force -/
/-- of the first n rules the one in force: as both look for it -/
def frcR (pu fr : Int → Int) (p d : Int) : Nat → Int
  | 0 => -9
  | n + 1 => if pu n = p ∧ ¬ d < fr n ∧ (frcR pu fr p d n = -9 ∨ ¬ fr n < fr (frcR pu fr p d n)) then n else frcR pu fr p d n
theorem frcR_r (pu fr : Int → Int) (p d : Int) : ∀ n : Nat, frcR pu fr p d n = -9 ∨ (0 ≤ frcR pu fr p d n ∧ frcR pu fr p d n < n)
  | 0 => Or.inl rfl
  | n + 1 => by
    have := frcR_r pu fr p d n
    unfold frcR
    split <;> omega
theorem m_force_L {z : ZI} {p d : Int} (h : 0 ≤ z 68 22 ∧ z 68 22 ≤ 30) : ∀ (n k f : Nat), k + n = (z 68 22).toNat → n < f → X11_forceOf_L6 f z p d (frcR (z 83) (z 84) p d k) (k : Int) = some (frcR (z 83) (z 84) p d (z 68 22).toNat, z) := by
  intro n
  induction n with
  | zero =>
    intro k f hk hf
    obtain ⟨f, rfl⟩ : ∃ g, f = g + 1 := ⟨f - 1, by omega⟩
    show X11_forceOf_L6b (X11_forceOf_L6 f) z p d (frcR (z 83) (z 84) p d k) (k : Int) = _
    unfold X11_forceOf_L6b X11_forceOf_b57 X11_forceOf_b60
    have hr := frcR_r (z 83) (z 84) p d k
    grind [Zgd_i, frcR.eq_2]
  | succ n ih =>
    intro k f hk hf
    obtain ⟨f, rfl⟩ : ∃ g, f = g + 1 := ⟨f - 1, by omega⟩
    have e := ih (k + 1) f (by omega) (by omega)
    clear ih
    show X11_forceOf_L6b (X11_forceOf_L6 f) z p d (frcR (z 83) (z 84) p d k) (k : Int) = _
    unfold X11_forceOf_L6b X11_forceOf_b57 X11_forceOf_b60
    have hr := frcR_r (z 83) (z 84) p d k
    grind [Zgd_i, frcR.eq_2]
theorem x_force_L {z : ZI} {p d : Int} (h : 0 ≤ z 24 2 ∧ z 24 2 ≤ 30) : ∀ (n k f : Nat), k + n = (z 24 2).toNat → n < f → X7_inForce_L6 f z p d (frcR (z 28) (z 29) p d k) (k : Int) = some (frcR (z 28) (z 29) p d (z 24 2).toNat, z) := by
  intro n
  induction n with
  | zero =>
    intro k f hk hf
    obtain ⟨f, rfl⟩ : ∃ g, f = g + 1 := ⟨f - 1, by omega⟩
    show X7_inForce_L6b (X7_inForce_L6 f) z p d (frcR (z 28) (z 29) p d k) (k : Int) = _
    unfold X7_inForce_L6b X7_inForce_b41 X7_inForce_b42 X7_inForce_b71 X7_inForce_b74
    have hr := frcR_r (z 28) (z 29) p d k
    grind [Zgd_i, frcR.eq_2]
  | succ n ih =>
    intro k f hk hf
    obtain ⟨f, rfl⟩ : ∃ g, f = g + 1 := ⟨f - 1, by omega⟩
    have e := ih (k + 1) f (by omega) (by omega)
    clear ih
    show X7_inForce_L6b (X7_inForce_L6 f) z p d (frcR (z 28) (z 29) p d k) (k : Int) = _
    unfold X7_inForce_L6b X7_inForce_b41 X7_inForce_b42 X7_inForce_b71 X7_inForce_b74
    have hr := frcR_r (z 28) (z 29) p d k
    grind [Zgd_i, frcR.eq_2]
theorem frcR_c {pu fr pu2 fr2 : Int → Int} (p d : Int) : ∀ n : Nat, (∀ r : Int, 0 ≤ r → r < n → pu r = pu2 r ∧ fr r = fr2 r) → frcR pu fr p d n = frcR pu2 fr2 p d n
  | 0, _ => rfl
  | n + 1, h => by
    have i := frcR_c p d n (fun r h1 h2 => h r h1 (by omega))
    have q := h n (by omega) (by omega)
    have r := frcR_r pu2 fr2 p d n
    rw [frcR.eq_2, frcR.eq_2, i, q.1, q.2]
    by_cases c : frcR pu2 fr2 p d n = -9
    · simp [c]
    · rw [(h (frcR pu2 fr2 p d n) (by omega) (by omega)).2]
/-- the rule in force by the reference's lists -/
def frc (z : ZI) (p d : Int) : Int := frcR (z 83) (z 84) p d (z 68 22).toNat
theorem m_force {z : ZI} {p d : Int} (hU : JU z) : F_X11_forceOf z p d = some (frc z p d, z) := by
  have e := m_force_L (z := z) (p := p) (d := d) ⟨hU.2.1, hU.2.2.1⟩ (z 68 22).toNat 0 Zfuel (by omega) (by have := hU.2.2.1; unfold Zfuel; omega)
  exact e
theorem x_force {z : ZI} {p d : Int} (hU : JU z) : F_X7_inForce z p d = some (frc z p d, z) := by
  have h1 := hU.1
  have e := x_force_L (z := z) (p := p) (d := d) (by have := hU.2; omega) (z 24 2).toNat 0 Zfuel (by omega) (by have := hU.2.2.1; unfold Zfuel; omega)
  rw [frcR_c (pu2 := z 83) (fr2 := z 84) p d (z 24 2).toNat (fun r q1 q2 => by
    have q := hU.2.2.2 r q1 (by omega)
    exact ⟨q.1, q.2.1⟩), h1] at e
  exact e
