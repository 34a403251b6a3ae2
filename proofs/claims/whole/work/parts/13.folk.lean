/-! houses, persons, states -/
theorem m_stateOn_L {z : ZI} {p d : Int} (h4 : 0 ≤ z 68 14 ∧ z 68 14 ≤ 150) : ∀ (n k f : Nat), k + n = (z 68 14).toNat → n < f → X11_stateOn_L18 f z p d (stR (z 77) (z 79) (z 78) p d k) (k : Int) = some (stR (z 77) (z 79) (z 78) p d (z 68 14).toNat, z) := by
  intro n
  induction n with
  | zero =>
    intro k f hk hf
    obtain ⟨f, rfl⟩ : ∃ g, f = g + 1 := ⟨f - 1, by omega⟩
    show X11_stateOn_L18b (X11_stateOn_L18 f) z p d (stR (z 77) (z 79) (z 78) p d k) (k : Int) = _
    unfold X11_stateOn_L18b X11_stateOn_b59 X11_stateOn_b60
    grind [stR, Zgd_i]
  | succ n ih =>
    intro k f hk hf
    obtain ⟨f, rfl⟩ : ∃ g, f = g + 1 := ⟨f - 1, by omega⟩
    have e := ih (k + 1) f (by omega) (by omega)
    clear ih
    show X11_stateOn_L18b (X11_stateOn_L18 f) z p d (stR (z 77) (z 79) (z 78) p d k) (k : Int) = _
    unfold X11_stateOn_L18b X11_stateOn_b59 X11_stateOn_b60
    grind [stR, Zgd_i]
theorem m_stateOn {z : ZI} {p d : Int} (hP : JP z) (hS : JS z) (hp : 0 ≤ p ∧ p < z 68 13) : F_X11_stateOn z p d = some (stF z p d, z) := by
  obtain ⟨a1, a2, -⟩ := hS
  obtain ⟨b1, b2, -⟩ := hP
  have e := m_stateOn_L (z := z) (p := p) (d := d) ⟨a1, a2⟩ (z 68 14).toNat 0 Zfuel (by omega) (by unfold Zfuel; omega)
  unfold F_X11_stateOn
  grind [Zgd_i, stF_d, stR]
theorem m_isHere {z : ZI} {p d : Int} (hP : JP z) (hS : JS z) (hp : 0 ≤ p ∧ p < z 68 13) : F_X11_isHere z p d = some (bi (stF z p d = 0 ∨ stF z p d = 2), z) := by
  have e := m_stateOn (d := d) hP hS hp
  unfold F_X11_isHere X11_isHere_b16 X11_isHere_b21
  grind [Zgd_i, Yb_some, bi]
theorem hereR_b (ph : Int → Int) (st : Int → Int → Int) (h d : Int) : ∀ n : Nat, 0 ≤ hereR ph st h d n ∧ hereR ph st h d n ≤ n
  | 0 => ⟨Int.le_refl _, Int.le_refl _⟩
  | n + 1 => by
    have := hereR_b ph st h d n
    unfold hereR
    split <;> omega
theorem hereH_b {z : ZI} (h d : Int) (hP : JP z) : 0 ≤ hereH z h d ∧ hereH z h d ≤ 60 := by
  have := hereR_b (z 73) (stF z) h d (z 68 13).toNat
  obtain ⟨b1, b2, -⟩ := hP
  unfold hereH
  omega
theorem m_hereOf_L {z : ZI} {h d : Int} (hP : JP z) (hS : JS z) (h4 : 0 ≤ z 68 13 ∧ z 68 13 ≤ 60) : ∀ (n k f : Nat), k + n = (z 68 13).toNat → n < f → X11_hereOf_L5 f z h d (hereR (z 73) (stF z) h d k) (k : Int) = some (hereR (z 73) (stF z) h d (z 68 13).toNat, z) := by
  intro n
  induction n with
  | zero =>
    intro k f hk hf
    obtain ⟨f, rfl⟩ : ∃ g, f = g + 1 := ⟨f - 1, by omega⟩
    show X11_hereOf_L5b (X11_hereOf_L5 f) z h d (hereR (z 73) (stF z) h d k) (k : Int) = _
    unfold X11_hereOf_L5b X11_hereOf_b40 X11_hereOf_b41
    have hb := hereR_b (z 73) (stF z) h d k; have hs := hereR_s (z 73) (stF z) h d k; have hm := fun q => m_isHere (p := k) (d := d) hP hS q
    grind [Zgd_i, Yb_some, bi]
  | succ n ih =>
    intro k f hk hf
    obtain ⟨f, rfl⟩ : ∃ g, f = g + 1 := ⟨f - 1, by omega⟩
    have e := ih (k + 1) f (by omega) (by omega)
    clear ih
    show X11_hereOf_L5b (X11_hereOf_L5 f) z h d (hereR (z 73) (stF z) h d k) (k : Int) = _
    unfold X11_hereOf_L5b X11_hereOf_b40 X11_hereOf_b41
    have hb := hereR_b (z 73) (stF z) h d k; have hs := hereR_s (z 73) (stF z) h d k; have hm := fun q => m_isHere (p := k) (d := d) hP hS q
    grind [Zgd_i, Yb_some, bi]
theorem m_hereOf {z : ZI} {h d : Int} (hP : JP z) (hS : JS z) : F_X11_hereOf z h d = some (hereH z h d, z) :=
  m_hereOf_L hP hS ⟨hP.1, hP.2.1⟩ (z 68 13).toNat 0 Zfuel (by omega) (by have := hP.2.1; unfold Zfuel; omega)
theorem srchL_r (a : Int → Int) (c : Int) : ∀ n : Nat, srchL a c n = -9 ∨ (0 ≤ srchL a c n ∧ srchL a c n < n ∧ a (srchL a c n) = c)
  | 0 => Or.inl rfl
  | n + 1 => by
    have := srchL_r a c n
    unfold srchL
    split
    · refine Or.inr ⟨by omega, by omega, by assumption⟩
    · rcases this with h | h
      · exact Or.inl h
      · exact Or.inr ⟨h.1, by omega, h.2.2⟩
theorem stR_c (sp sd sa : Int → Int) (p d : Int) : ∀ n : Nat, (srchL sp p n = -9 → stR sp sd sa p d n = 0) ∧ (0 ≤ srchL sp p n → stR sp sd sa p d n = if sd (srchL sp p n) ≤ d then sa (srchL sp p n) else stR sp sd sa p d (srchL sp p n).toNat)
  | 0 => ⟨fun _ => rfl, fun h => absurd h (by simp [srchL])⟩
  | n + 1 => by
    have := stR_c sp sd sa p d n
    by_cases h : sp n = p
    · have e1 : srchL sp p (n + 1) = n := if_pos h
      rw [e1]
      refine ⟨fun h2 => by omega, fun _ => ?_⟩
      show (if sp n = p ∧ sd n ≤ d then sa n else stR sp sd sa p d n) = _
      simp [h]
    · have e1 : srchL sp p (n + 1) = srchL sp p n := if_neg h
      have e2 : stR sp sd sa p d (n + 1) = stR sp sd sa p d n := if_neg (fun q => h q.1)
      rw [e1, e2]
      exact this
theorem x_stateOn_L {z : ZI} {p d : Int} (hS : JS z) : ∀ (n : Nat) (x4 : Int) (f : Nat), (n : Int) ≤ z 68 14 → 0 ≤ x4 → x4 + n ≤ 150 → n < f → X3_stateOn_L23 f z d (srchL (z 77) p n) x4 = some (stR (z 77) (z 79) (z 78) p d n, z) := by
  intro n
  induction n using Nat.strongRecOn with
  | _ n ih =>
    intro x4 f hn h4 h5 hf
    obtain ⟨f, rfl⟩ : ∃ g, f = g + 1 := ⟨f - 1, by omega⟩
    obtain ⟨a1, a2, a3, a4, a5, a6, a7⟩ := hS
    have hc := stR_c (z 77) (z 79) (z 78) p d n
    show X3_stateOn_L23b (X3_stateOn_L23 f) z d _ x4 = _
    unfold X3_stateOn_L23b X3_stateOn_b65
    rcases srchL_r (z 77) p n with h | ⟨h1, h2, h3⟩
    · clear ih a4 a5 a6 a7
      grind
    · obtain ⟨k, hk⟩ : ∃ k : Nat, srchL (z 77) p n = k := ⟨(srchL (z 77) p n).toNat, by omega⟩
      have e := ih k (by omega) (x4 + 1) f (by omega) (by omega) (by omega) (by omega)
      have b := a4 k (by omega) (by omega)
      have t := a6 k (by omega)
      rw [hk] at h3 hc ⊢
      rw [h3] at t
      clear ih a4 a5 a6 a7
      grind [Zgd_i]
theorem x_stateOn {z : ZI} {p d : Int} (hP : JP z) (hS : JS z) (hp : 0 ≤ p ∧ p < z 68 13) : F_X3_stateOn z p d = some (stF z p d, z) := by
  have e := x_stateOn_L (p := p) (d := d) hS (z 68 14).toNat 0 Zfuel (by have := hS.1; omega) (by omega) (by have := hS.2.1; omega) (by have := hS.2.1; unfold Zfuel; omega)
  have b := hP.2.2.2 p hp.1 hp.2
  have c := hS.2.2.2.2.1 p hp.1 hp.2
  have b1 := hP.2.1
  unfold F_X3_stateOn
  rw [c]
  grind [Zgd_i, stF_d]
theorem x_isHere {z : ZI} {p d : Int} (hP : JP z) (hS : JS z) (hp : 0 ≤ p ∧ p < z 68 13) : F_X3_isHere z p d = some (bi (stF z p d = 0 ∨ stF z p d = 2), z) := by
  have e := x_stateOn (d := d) hP hS hp
  unfold F_X3_isHere X3_isHere_b16 X3_isHere_b21
  grind [Zgd_i, Yb_some, bi]
theorem x_hereInHouse_L {z : ZI} {h d : Int} (hP : JP z) (hS : JS z) (h4 : 0 ≤ z 68 13 ∧ z 68 13 ≤ 60) (h5 : z 11 4 = z 68 13) : ∀ (n k f : Nat), k + n = (z 68 13).toNat → n < f → X3_hereInHouse_L5 f z h d (hereR (z 73) (stF z) h d k) (k : Int) = some (hereR (z 73) (stF z) h d (z 68 13).toNat, z) := by
  intro n
  induction n with
  | zero =>
    intro k f hk hf
    obtain ⟨f, rfl⟩ : ∃ g, f = g + 1 := ⟨f - 1, by omega⟩
    show X3_hereInHouse_L5b (X3_hereInHouse_L5 f) z h d (hereR (z 73) (stF z) h d k) (k : Int) = _
    unfold X3_hereInHouse_L5b X3_hereInHouse_b38
    have hb := hereR_b (z 73) (stF z) h d k; have hs := hereR_s (z 73) (stF z) h d k; have hm := fun q => x_isHere (p := k) (d := d) hP hS q; have hq := hP.2.2.2 k
    grind [Zgd_i, Yb_some, bi]
  | succ n ih =>
    intro k f hk hf
    obtain ⟨f, rfl⟩ : ∃ g, f = g + 1 := ⟨f - 1, by omega⟩
    have e := ih (k + 1) f (by omega) (by omega)
    clear ih
    show X3_hereInHouse_L5b (X3_hereInHouse_L5 f) z h d (hereR (z 73) (stF z) h d k) (k : Int) = _
    unfold X3_hereInHouse_L5b X3_hereInHouse_b38
    have hb := hereR_b (z 73) (stF z) h d k; have hs := hereR_s (z 73) (stF z) h d k; have hm := fun q => x_isHere (p := k) (d := d) hP hS q; have hq := hP.2.2.2 k
    grind [Zgd_i, Yb_some, bi]
theorem x_hereInHouse {z : ZI} {h d : Int} (hP : JP z) (hS : JS z) : F_X3_hereInHouse z h d = some (hereH z h d, z) :=
  x_hereInHouse_L hP hS ⟨hP.1, hP.2.1⟩ hP.2.2.1 (z 68 13).toNat 0 Zfuel (by omega) (by have := hP.2.1; unfold Zfuel; omega)
/-! how many of a block, of all -/
def hereBR (ph hb : Int → Int) (st : Int → Int → Int) (b d : Int) : Nat → Int
  | 0 => 0
  | n + 1 => hereBR ph hb st b d n + (if hb (ph n) = b ∧ (st n d = 0 ∨ st n d = 2) then 1 else 0)
theorem hereBR_s (ph hb : Int → Int) (st : Int → Int → Int) (b d : Int) (n : Nat) : hereBR ph hb st b d (n + 1) = hereBR ph hb st b d n + (if hb (ph n) = b ∧ (st n d = 0 ∨ st n d = 2) then 1 else 0) := rfl
theorem hereBR_b (ph hb : Int → Int) (st : Int → Int → Int) (b d : Int) : ∀ n : Nat, 0 ≤ hereBR ph hb st b d n ∧ hereBR ph hb st b d n ≤ n
  | 0 => ⟨Int.le_refl _, Int.le_refl _⟩
  | n + 1 => by
    have := hereBR_b ph hb st b d n
    unfold hereBR
    split <;> omega
theorem x_hereInBlock_L {z : ZI} {h d : Int} (hH : JH z) (hP : JP z) (hS : JS z) (h4 : 0 ≤ z 68 13 ∧ z 68 13 ≤ 60) (h5 : z 11 4 = z 68 13) (h6 : z 68 12 ≤ 30) : ∀ (n k f : Nat), k + n = (z 68 13).toNat → n < f → X3_hereInBlock_L5 f z h d (hereBR (z 73) (z 72) (stF z) h d k) (k : Int) = some (hereBR (z 73) (z 72) (stF z) h d (z 68 13).toNat, z) := by
  intro n
  induction n with
  | zero =>
    intro k f hk hf
    obtain ⟨f, rfl⟩ : ∃ g, f = g + 1 := ⟨f - 1, by omega⟩
    show X3_hereInBlock_L5b (X3_hereInBlock_L5 f) z h d (hereBR (z 73) (z 72) (stF z) h d k) (k : Int) = _
    unfold X3_hereInBlock_L5b X3_hereInBlock_b43
    have hb := hereBR_b (z 73) (z 72) (stF z) h d k; have hs := hereBR_s (z 73) (z 72) (stF z) h d k; have hm := fun q => x_isHere (p := k) (d := d) hP hS q; have hq := hP.2.2.2 k; have hr := hH.2.2.2.1 (z 73 k)
    grind [Zgd_i, Yb_some, bi]
  | succ n ih =>
    intro k f hk hf
    obtain ⟨f, rfl⟩ : ∃ g, f = g + 1 := ⟨f - 1, by omega⟩
    have e := ih (k + 1) f (by omega) (by omega)
    clear ih
    show X3_hereInBlock_L5b (X3_hereInBlock_L5 f) z h d (hereBR (z 73) (z 72) (stF z) h d k) (k : Int) = _
    unfold X3_hereInBlock_L5b X3_hereInBlock_b43
    have hb := hereBR_b (z 73) (z 72) (stF z) h d k; have hs := hereBR_s (z 73) (z 72) (stF z) h d k; have hm := fun q => x_isHere (p := k) (d := d) hP hS q; have hq := hP.2.2.2 k; have hr := hH.2.2.2.1 (z 73 k)
    grind [Zgd_i, Yb_some, bi]
theorem x_hereInBlock {z : ZI} {h d : Int} (hH : JH z) (hP : JP z) (hS : JS z) : F_X3_hereInBlock z h d = some (hereBR (z 73) (z 72) (stF z) h d (z 68 13).toNat, z) :=
  x_hereInBlock_L hH hP hS ⟨hP.1, hP.2.1⟩ hP.2.2.1 hH.2.1 (z 68 13).toNat 0 Zfuel (by omega) (by have := hP.2.1; unfold Zfuel; omega)
theorem m_off_L {z : ZI} {b d v : Int} (hv : 0 ≤ v ∧ v ≤ 9999) (hH : JH z) (hP : JP z) (hS : JS z) (h4 : 0 ≤ z 68 13 ∧ z 68 13 ≤ 60) (h6 : z 68 12 ≤ 30) : ∀ (n k f : Nat), k + n = (z 68 13).toNat → n < f → X11_off_L65 f z b d (v - hereBR (z 73) (z 72) (stF z) b d k) (k : Int) = some (v - hereBR (z 73) (z 72) (stF z) b d (z 68 13).toNat, z) := by
  intro n
  induction n with
  | zero =>
    intro k f hk hf
    obtain ⟨f, rfl⟩ : ∃ g, f = g + 1 := ⟨f - 1, by omega⟩
    show X11_off_L65b (X11_off_L65 f) z b d (v - hereBR (z 73) (z 72) (stF z) b d k) (k : Int) = _
    unfold X11_off_L65b X11_off_b106 X11_off_b107
    have hb := hereBR_b (z 73) (z 72) (stF z) b d k; have hs := hereBR_s (z 73) (z 72) (stF z) b d k; have hm := fun q => m_isHere (p := k) (d := d) hP hS q; have hq := hP.2.2.2 k; have hr := hH.2.2.2.1 (z 73 k)
    grind [Zgd_i, Yb_some, bi]
  | succ n ih =>
    intro k f hk hf
    obtain ⟨f, rfl⟩ : ∃ g, f = g + 1 := ⟨f - 1, by omega⟩
    have e := ih (k + 1) f (by omega) (by omega)
    clear ih
    show X11_off_L65b (X11_off_L65 f) z b d (v - hereBR (z 73) (z 72) (stF z) b d k) (k : Int) = _
    unfold X11_off_L65b X11_off_b106 X11_off_b107
    have hb := hereBR_b (z 73) (z 72) (stF z) b d k; have hs := hereBR_s (z 73) (z 72) (stF z) b d k; have hm := fun q => m_isHere (p := k) (d := d) hP hS q; have hq := hP.2.2.2 k; have hr := hH.2.2.2.1 (z 73 k)
    grind [Zgd_i, Yb_some, bi]
def hereAR (st : Int → Int → Int) (d : Int) : Nat → Int
  | 0 => 0
  | n + 1 => hereAR st d n + (if st n d = 0 ∨ st n d = 2 then 1 else 0)
theorem hereAR_s (st : Int → Int → Int) (d : Int) (n : Nat) : hereAR st d (n + 1) = hereAR st d n + (if st n d = 0 ∨ st n d = 2 then 1 else 0) := rfl
theorem hereAR_b (st : Int → Int → Int) (d : Int) : ∀ n : Nat, 0 ≤ hereAR st d n ∧ hereAR st d n ≤ n
  | 0 => ⟨Int.le_refl _, Int.le_refl _⟩
  | n + 1 => by
    have := hereAR_b st d n
    unfold hereAR
    split <;> omega
theorem x_hereInAll_L {z : ZI} {d : Int} (hP : JP z) (hS : JS z) (h4 : 0 ≤ z 68 13 ∧ z 68 13 ≤ 60) (h5 : z 11 4 = z 68 13) : ∀ (n k f : Nat), k + n = (z 68 13).toNat → n < f → X3_hereInAll_L4 f z d (hereAR (stF z) d k) (k : Int) = some (hereAR (stF z) d (z 68 13).toNat, z) := by
  intro n
  induction n with
  | zero =>
    intro k f hk hf
    obtain ⟨f, rfl⟩ : ∃ g, f = g + 1 := ⟨f - 1, by omega⟩
    show X3_hereInAll_L4b (X3_hereInAll_L4 f) z d (hereAR (stF z) d k) (k : Int) = _
    unfold X3_hereInAll_L4b X3_hereInAll_b24
    have hb := hereAR_b (stF z) d k; have hs := hereAR_s (stF z) d k; have hm := fun q => x_isHere (p := k) (d := d) hP hS q
    grind [Zgd_i, Yb_some, bi]
  | succ n ih =>
    intro k f hk hf
    obtain ⟨f, rfl⟩ : ∃ g, f = g + 1 := ⟨f - 1, by omega⟩
    have e := ih (k + 1) f (by omega) (by omega)
    clear ih
    show X3_hereInAll_L4b (X3_hereInAll_L4 f) z d (hereAR (stF z) d k) (k : Int) = _
    unfold X3_hereInAll_L4b X3_hereInAll_b24
    have hb := hereAR_b (stF z) d k; have hs := hereAR_s (stF z) d k; have hm := fun q => x_isHere (p := k) (d := d) hP hS q
    grind [Zgd_i, Yb_some, bi]
theorem x_hereInAll {z : ZI} {d : Int} (hP : JP z) (hS : JS z) : F_X3_hereInAll z d = some (hereAR (stF z) d (z 68 13).toNat, z) :=
  x_hereInAll_L hP hS ⟨hP.1, hP.2.1⟩ hP.2.2.1 (z 68 13).toNat 0 Zfuel (by omega) (by have := hP.2.1; unfold Zfuel; omega)
theorem m_total3_L {z : ZI} (hP : JP z) (hS : JS z) (h4 : 0 ≤ z 68 13 ∧ z 68 13 ≤ 60) : ∀ (n k f : Nat), k + n = (z 68 13).toNat → n < f → X11_total_L101 f z (hereAR (stF z) (z 68 11) k) (k : Int) = some (hereAR (stF z) (z 68 11) (z 68 13).toNat, z) := by
  intro n
  induction n with
  | zero =>
    intro k f hk hf
    obtain ⟨f, rfl⟩ : ∃ g, f = g + 1 := ⟨f - 1, by omega⟩
    show X11_total_L101b (X11_total_L101 f) z (hereAR (stF z) (z 68 11) k) (k : Int) = _
    unfold X11_total_L101b X11_total_b127
    have hb := hereAR_b (stF z) (z 68 11) k; have hs := hereAR_s (stF z) (z 68 11) k; have hm := fun q => m_isHere (p := k) (d := z 68 11) hP hS q
    grind [Zgd_i, Yb_some, bi]
  | succ n ih =>
    intro k f hk hf
    obtain ⟨f, rfl⟩ : ∃ g, f = g + 1 := ⟨f - 1, by omega⟩
    have e := ih (k + 1) f (by omega) (by omega)
    clear ih
    show X11_total_L101b (X11_total_L101 f) z (hereAR (stF z) (z 68 11) k) (k : Int) = _
    unfold X11_total_L101b X11_total_b127
    have hb := hereAR_b (stF z) (z 68 11) k; have hs := hereAR_s (stF z) (z 68 11) k; have hm := fun q => m_isHere (p := k) (d := z 68 11) hP hS q
    grind [Zgd_i, Yb_some, bi]
theorem m_houseAt_L {z : ZI} {c : Int} (h4 : 0 ≤ z 68 12 ∧ z 68 12 ≤ 30) : ∀ (n k f : Nat), k + n = (z 68 12).toNat → n < f → X11_houseAt_L2 f z c (k : Int) = some (srch (z 71) c n k, z) := by
  intro n
  induction n with
  | zero =>
    intro k f hk hf
    obtain ⟨f, rfl⟩ : ∃ g, f = g + 1 := ⟨f - 1, by omega⟩
    show X11_houseAt_L2b (X11_houseAt_L2 f) z c (k : Int) = _
    unfold X11_houseAt_L2b 
    grind [Zgd_i, srch.eq_1, srch.eq_2]
  | succ n ih =>
    intro k f hk hf
    obtain ⟨f, rfl⟩ : ∃ g, f = g + 1 := ⟨f - 1, by omega⟩
    have e := ih (k + 1) f (by omega) (by omega)
    clear ih
    show X11_houseAt_L2b (X11_houseAt_L2 f) z c (k : Int) = _
    unfold X11_houseAt_L2b 
    grind [Zgd_i, srch.eq_1, srch.eq_2]
theorem m_houseAt {z : ZI} {c : Int} (hH : JH z) : F_X11_houseAt z c = some (srch (z 71) c (z 68 12).toNat 0, z) :=
  m_houseAt_L ⟨hH.1, hH.2.1⟩ (z 68 12).toNat 0 Zfuel (by omega) (by have := hH.2.1; unfold Zfuel; omega)
theorem srch_r (a : Int → Int) (c : Int) : ∀ (n : Nat) (k : Int), 0 ≤ k → srch a c n k = -9 ∨ (k ≤ srch a c n k ∧ srch a c n k < k + n ∧ a (srch a c n k) = c)
  | 0, k, _ => Or.inl rfl
  | n + 1, k, hk => by
    have := srch_r a c n (k + 1) (by omega)
    unfold srch
    split
    · refine Or.inr ⟨by omega, by omega, by assumption⟩
    · rcases this with h | h
      · exact Or.inl h
      · exact Or.inr ⟨by omega, by omega, h.2.2⟩
theorem srch_no (a : Int → Int) (c : Int) : ∀ (n : Nat) (k : Int), 0 ≤ k → srch a c n k = -9 → ∀ j, k ≤ j → j < k + n → a j ≠ c
  | 0, k, _, _, j, h1, h2 => by omega
  | n + 1, k, hk, h, j, h1, h2 => by
    have ih := srch_no a c n (k + 1) (by omega)
    unfold srch at h
    split at h
    · omega
    · by_cases e : j = k
      · subst e; assumption
      · exact ih h j (by omega) (by omega)
theorem srch_first (a : Int → Int) (c : Int) : ∀ (n : Nat) (k : Int), 0 ≤ k → ∀ j, k ≤ j → j < k + n → a j = c → (∀ i, k ≤ i → i < j → a i ≠ c) → srch a c n k = j
  | 0, k, _, j, h1, h2, _, _ => by omega
  | n + 1, k, hk, j, h1, h2, h3, h4 => by
    unfold srch
    by_cases e : j = k
    · subst e; rw [if_pos h3]
    · rw [if_neg (h4 k (by omega) (by omega))]
      exact srch_first a c n (k + 1) (by omega) j (by omega) (by omega) h3 (fun i q1 q2 => h4 i (by omega) q2)
theorem srch_none (a : Int → Int) (c : Int) (n : Nat) (k : Int) (hk : 0 ≤ k) (h : ∀ j, k ≤ j → j < k + n → a j ≠ c) : srch a c n k = -9 := by
  rcases srch_r a c n k hk with e | ⟨e1, e2, e3⟩
  · exact e
  · exact absurd e3 (h _ e1 e2)
theorem srch_cong (a b : Int → Int) (c : Int) : ∀ (n : Nat) (k : Int), (∀ j, k ≤ j → j < k + n → a j = b j) → srch a c n k = srch b c n k
  | 0, _, _ => rfl
  | n + 1, k, h => by
    unfold srch
    rw [h k (by omega) (by omega), srch_cong a b c n (k + 1) (fun j h1 h2 => h j (by omega) (by omega))]
theorem srch_min (a : Int → Int) (c : Int) : ∀ (n : Nat) (k : Int), 0 ≤ k → ∀ i, k ≤ i → i < srch a c n k → a i ≠ c
  | 0, k, hk, i, h1, h2 => by
    have : srch a c 0 k = -9 := rfl
    omega
  | n + 1, k, hk, i, h1, h2 => by
    have u : srch a c (n + 1) k = if a k = c then k else srch a c n (k + 1) := rfl
    rw [u] at h2
    split at h2
    · omega
    · by_cases e : i = k
      · subst e; assumption
      · exact srch_min a c n (k + 1) (by omega) i (by omega) h2
/-- one more behind the others -/
theorem srch_push (a b : Int → Int) (c v : Int) (n : Nat) (h1 : ∀ j : Int, 0 ≤ j → j < n → b j = a j) (h2 : b n = v) : srch b c (n + 1) 0 = if srch a c n 0 = -9 then (if v = c then (n : Int) else -9) else srch a c n 0 := by
  rcases srch_r a c n 0 (Int.le_refl _) with e | ⟨e1, e2, e3⟩
  · rw [if_pos e]
    have hno := srch_no a c n 0 (Int.le_refl _) e
    by_cases hv : v = c
    · rw [if_pos hv]
      refine srch_first b c (n + 1) 0 (Int.le_refl _) n (by omega) (by omega) (by rw [h2, hv]) (fun i q1 q2 => ?_)
      rw [h1 i q1 q2]
      exact hno i q1 (by omega)
    · rw [if_neg hv]
      refine srch_none b c (n + 1) 0 (Int.le_refl _) (fun j q1 q2 => ?_)
      by_cases hj : j = n
      · subst hj; rw [h2]; exact hv
      · rw [h1 j q1 (by omega)]
        exact hno j q1 (by omega)
  · rw [if_neg (by omega)]
    refine srch_first b c (n + 1) 0 (Int.le_refl _) _ e1 (by omega) (by rw [h1 _ e1 (by omega)]; exact e3) (fun i q1 q2 => ?_)
    rw [h1 i q1 (by omega)]
    exact srch_min a c n 0 (Int.le_refl _) i q1 q2
