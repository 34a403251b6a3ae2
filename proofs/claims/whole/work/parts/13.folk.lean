/-! houses, persons, states -/
theorem m_stateOn_L {z : ZI} {p d : Int} (h4 : 0 ≤ z 68 14 ∧ z 68 14 ≤ 150) : ∀ (n k f : Nat), k + n = (z 68 14).toNat → n < f → X11_stateOn_L18 f z p d (stR (z 77) (z 79) (z 78) p d k) (k : Int) = some (stR (z 77) (z 79) (z 78) p d (z 68 14).toNat, z) := by
  intro n
  induction n with
  | zero =>
    intro k f hk hf
    obtain ⟨f, rfl⟩ : ∃ g, f = g + 1 := ⟨f - 1, by omega⟩
    show X11_stateOn_L18b (X11_stateOn_L18 f) z p d (stR (z 77) (z 79) (z 78) p d k) (k : Int) = _
    unfold X11_stateOn_L18b X11_stateOn_b59 X11_stateOn_b60
    grind [stR, Zgd_i]
  | succ n ih =>
    intro k f hk hf
    obtain ⟨f, rfl⟩ : ∃ g, f = g + 1 := ⟨f - 1, by omega⟩
    have e := ih (k + 1) f (by omega) (by omega)
    show X11_stateOn_L18b (X11_stateOn_L18 f) z p d (stR (z 77) (z 79) (z 78) p d k) (k : Int) = _
    unfold X11_stateOn_L18b X11_stateOn_b59 X11_stateOn_b60
    grind [stR, Zgd_i]
theorem m_stateOn {z : ZI} {p d : Int} (hP : JP z) (hS : JS z) (hp : 0 ≤ p ∧ p < z 68 13) : F_X11_stateOn z p d = some (stF z p d, z) := by
  obtain ⟨a1, a2, -⟩ := hS
  obtain ⟨b1, b2, -⟩ := hP
  have e := m_stateOn_L (z := z) (p := p) (d := d) ⟨a1, a2⟩ (z 68 14).toNat 0 Zfuel (by omega) (by unfold Zfuel; omega)
  unfold F_X11_stateOn
  grind [Zgd_i, stF_d, stR]
theorem m_isHere {z : ZI} {p d : Int} (hP : JP z) (hS : JS z) (hp : 0 ≤ p ∧ p < z 68 13) : F_X11_isHere z p d = some (bi (stF z p d = 0 ∨ stF z p d = 2), z) := by
  have e := m_stateOn (d := d) hP hS hp
  unfold F_X11_isHere X11_isHere_b16 X11_isHere_b21
  grind [Zgd_i, Yb_some, bi]
theorem hereR_b (ph : Int → Int) (st : Int → Int → Int) (h d : Int) : ∀ n : Nat, 0 ≤ hereR ph st h d n ∧ hereR ph st h d n ≤ n
  | 0 => ⟨Int.le_refl _, Int.le_refl _⟩
  | n + 1 => by
    have := hereR_b ph st h d n
    unfold hereR
    split <;> omega
theorem hereH_b {z : ZI} (h d : Int) (hP : JP z) : 0 ≤ hereH z h d ∧ hereH z h d ≤ 60 := by
  have := hereR_b (z 73) (stF z) h d (z 68 13).toNat
  obtain ⟨b1, b2, -⟩ := hP
  unfold hereH
  omega
theorem m_hereOf_L {z : ZI} {h d : Int} (hP : JP z) (hS : JS z) (h4 : 0 ≤ z 68 13 ∧ z 68 13 ≤ 60) : ∀ (n k f : Nat), k + n = (z 68 13).toNat → n < f → X11_hereOf_L5 f z h d (hereR (z 73) (stF z) h d k) (k : Int) = some (hereR (z 73) (stF z) h d (z 68 13).toNat, z) := by
  intro n
  induction n with
  | zero =>
    intro k f hk hf
    obtain ⟨f, rfl⟩ : ∃ g, f = g + 1 := ⟨f - 1, by omega⟩
    show X11_hereOf_L5b (X11_hereOf_L5 f) z h d (hereR (z 73) (stF z) h d k) (k : Int) = _
    unfold X11_hereOf_L5b X11_hereOf_b40 X11_hereOf_b41
    have hb := hereR_b (z 73) (stF z) h d k; have hs := hereR_s (z 73) (stF z) h d k; have hm := fun q => m_isHere (p := k) (d := d) hP hS q
    grind [Zgd_i, Yb_some, bi]
  | succ n ih =>
    intro k f hk hf
    obtain ⟨f, rfl⟩ : ∃ g, f = g + 1 := ⟨f - 1, by omega⟩
    have e := ih (k + 1) f (by omega) (by omega)
    show X11_hereOf_L5b (X11_hereOf_L5 f) z h d (hereR (z 73) (stF z) h d k) (k : Int) = _
    unfold X11_hereOf_L5b X11_hereOf_b40 X11_hereOf_b41
    have hb := hereR_b (z 73) (stF z) h d k; have hs := hereR_s (z 73) (stF z) h d k; have hm := fun q => m_isHere (p := k) (d := d) hP hS q
    grind [Zgd_i, Yb_some, bi]
theorem m_hereOf {z : ZI} {h d : Int} (hP : JP z) (hS : JS z) : F_X11_hereOf z h d = some (hereH z h d, z) :=
  m_hereOf_L hP hS ⟨hP.1, hP.2.1⟩ (z 68 13).toNat 0 Zfuel (by omega) (by have := hP.2.1; unfold Zfuel; omega)
