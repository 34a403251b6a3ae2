/-! the scale -/
def ltV (ki we : Int → Int) (k l : Int) : Int := (ki k * (1000 - l)).tdiv 1000 - we k
def ltb (ki we : Int → Int) (k l : Int) : Int := bi (-1 ≤ ltV ki we k l ∧ ltV ki we k l ≤ 1)
theorem ltb_01 (ki we : Int → Int) (k l : Int) : ltb ki we k l = 0 ∨ ltb ki we k l = 1 := by
  unfold ltb bi
  split
  · exact Or.inr rfl
  · exact Or.inl rfl
theorem ltV_b {ki we : Int → Int} {k l : Int} (h1 : 1 ≤ ki k ∧ ki k ≤ 9999) (h2 : 0 ≤ we k ∧ we k ≤ 9999) (hl : 0 ≤ l ∧ l ≤ 300) : 0 ≤ ki k * (1000 - l) ∧ ki k * (1000 - l) ≤ 9999000 ∧ -9999 ≤ ltV ki we k l ∧ ltV ki we k l ≤ 9999 := by
  have a : 0 ≤ ki k * (1000 - l) := Int.mul_nonneg (by omega) (by omega)
  have b : ki k * (1000 - l) ≤ 9999 * 1000 := Int.mul_le_mul (by omega) (by omega) (by omega) (by omega)
  have c : (ki k * (1000 - l)).tdiv 1000 = ki k * (1000 - l) / 1000 := Int.tdiv_eq_ediv_of_nonneg a
  unfold ltV
  rw [c]
  omega
theorem x_lets {z : ZI} {k l : Int} (hK : JK z) (hk : 0 ≤ k ∧ k < z 68 35) (hl : 0 ≤ l ∧ l ≤ 300) : F_X8_lets z k l = some (ltb (z 92) (z 93) k l, z) := by
  obtain ⟨a0, a1, a2, a3, a4⟩ := hK
  have q := a3 k hk.1 hk.2
  have b := ltV_b (ki := z 92) (we := z 93) (k := k) (l := l) (by omega) (by omega) hl
  unfold F_X8_lets X8_lets_b37 jabs
  rw [q.2.2.2.1, q.2.2.2.2.2.2.1]
  have e : (z 92 k * (1000 - l)).tdiv 1000 - z 93 k = ltV (z 92) (z 93) k l := rfl
  rw [e]
  unfold ltb bi
  clear a3 a4 e
  generalize ltV (z 92) (z 93) k l = v at *
  generalize z 92 k * (1000 - l) = u at *
  grind [Zgd_i]
theorem m_lets {z : ZI} {k l : Int} (hK : JK z) (hk : 0 ≤ k ∧ k < z 68 35) (hl : 0 ≤ l ∧ l ≤ 300) : F_X11_lets z k l = some (ltb (z 92) (z 93) k l, z) := by
  obtain ⟨a0, a1, a2, a3, a4⟩ := hK
  have q := a3 k hk.1 hk.2
  have b := ltV_b (ki := z 92) (we := z 93) (k := k) (l := l) (by omega) (by omega) hl
  unfold F_X11_lets
  have e : (z 92 k * (1000 - l)).tdiv 1000 - z 93 k = ltV (z 92) (z 93) k l := rfl
  rw [e, e_isIn]
  unfold ltb
  clear a3 a4 e
  generalize ltV (z 92) (z 93) k l = v at *
  generalize z 92 k * (1000 - l) = u at *
  grind [Zgd_i, Yb_some, bi]
/-- the first from k on that 0 doesn't let; -9 -/
def fntR (lt : Int → Int → Int) : Nat → Int → Int
  | 0, _ => -9
  | n + 1, k => if lt k 0 = 0 then k else fntR lt n (k + 1)
/-- 1: l lets all from the day on -/
def allR (lt : Int → Int → Int) (hd : Int → Int) (d l : Int) : Nat → Int → Int
  | 0, _ => 1
  | n + 1, k => if hd k < d then allR lt hd d l n (k + 1) else if lt k l = 0 then 0 else allR lt hd d l n (k + 1)
def leanR (p : Int → Int) : Nat → Int → Int
  | 0, _ => -9
  | n + 1, l => if p l = 0 then leanR p n (l + 1) else l
/-- 1: 0 lets all ahead of the day -/
def befR (lt : Int → Int → Int) (hd : Int → Int) (d : Int) : Nat → Int → Int
  | 0, _ => 1
  | n + 1, k => if d ≤ hd k then befR lt hd d n (k + 1) else if lt k 0 = 0 then 0 else befR lt hd d n (k + 1)
theorem x_fnt_L {z : ZI} (hK : JK z) (h4 : z 37 0 = z 68 35) (h5 : 0 ≤ z 68 35 ∧ z 68 35 ≤ 60) : ∀ (n k f : Nat), k + n = (z 68 35).toNat → n < f → X8_firstNotTrue_L2 f z (k : Int) = some (fntR (ltb (z 92) (z 93)) n k, z) := by
  intro n
  induction n with
  | zero =>
    intro k f hk hf
    obtain ⟨f, rfl⟩ : ∃ g, f = g + 1 := ⟨f - 1, by omega⟩
    show X8_firstNotTrue_L2b (X8_firstNotTrue_L2 f) z (k : Int) = _
    unfold X8_firstNotTrue_L2b 
    have hb := fun q => x_lets (k := k) (l := 0) hK q (by omega)
    grind [Zgd_i, Yb_some, fntR.eq_1, fntR.eq_2]
  | succ n ih =>
    intro k f hk hf
    obtain ⟨f, rfl⟩ : ∃ g, f = g + 1 := ⟨f - 1, by omega⟩
    have e := ih (k + 1) f (by omega) (by omega)
    clear ih
    show X8_firstNotTrue_L2b (X8_firstNotTrue_L2 f) z (k : Int) = _
    unfold X8_firstNotTrue_L2b 
    have hb := fun q => x_lets (k := k) (l := 0) hK q (by omega)
    grind [Zgd_i, Yb_some, fntR.eq_1, fntR.eq_2]
theorem x_fnt {z : ZI} (hK : JK z) : F_X8_firstNotTrue z = some (fntR (ltb (z 92) (z 93)) (z 68 35).toNat 0, z) :=
  x_fnt_L hK hK.1 ⟨hK.2.1, hK.2.2.1⟩ (z 68 35).toNat 0 Zfuel (by omega) (by have := hK.2.2.1; unfold Zfuel; omega)
theorem x_all_L {z : ZI} {d l : Int} (hl : 0 ≤ l ∧ l ≤ 300) (hK : JK z) (h4 : z 37 0 = z 68 35) (h5 : 0 ≤ z 68 35 ∧ z 68 35 ≤ 60) : ∀ (n k f : Nat), k + n = (z 68 35).toNat → n < f → X8_letsAllFrom_L2 f z d l (k : Int) = some (allR (ltb (z 92) (z 93)) (z 91) d l n k, z) := by
  intro n
  induction n with
  | zero =>
    intro k f hk hf
    obtain ⟨f, rfl⟩ : ∃ g, f = g + 1 := ⟨f - 1, by omega⟩
    show X8_letsAllFrom_L2b (X8_letsAllFrom_L2 f) z d l (k : Int) = _
    unfold X8_letsAllFrom_L2b X8_letsAllFrom_b31
    have hb := fun q => x_lets (k := k) (l := l) hK q hl; have hc := hK.2.2.2.1 k
    grind [Zgd_i, Yb_some, allR.eq_1, allR.eq_2]
  | succ n ih =>
    intro k f hk hf
    obtain ⟨f, rfl⟩ : ∃ g, f = g + 1 := ⟨f - 1, by omega⟩
    have e := ih (k + 1) f (by omega) (by omega)
    clear ih
    show X8_letsAllFrom_L2b (X8_letsAllFrom_L2 f) z d l (k : Int) = _
    unfold X8_letsAllFrom_L2b X8_letsAllFrom_b31
    have hb := fun q => x_lets (k := k) (l := l) hK q hl; have hc := hK.2.2.2.1 k
    grind [Zgd_i, Yb_some, allR.eq_1, allR.eq_2]
theorem x_all {z : ZI} {d l : Int} (hl : 0 ≤ l ∧ l ≤ 300) (hK : JK z) : F_X8_letsAllFrom z d l = some (allR (ltb (z 92) (z 93)) (z 91) d l (z 68 35).toNat 0, z) :=
  x_all_L hl hK hK.1 ⟨hK.2.1, hK.2.2.1⟩ (z 68 35).toNat 0 Zfuel (by omega) (by have := hK.2.2.1; unfold Zfuel; omega)
theorem allR_01 (lt : Int → Int → Int) (hd : Int → Int) (d l : Int) : ∀ (n : Nat) (k : Int), allR lt hd d l n k = 0 ∨ allR lt hd d l n k = 1
  | 0, _ => Or.inr rfl
  | n + 1, k => by
    have := allR_01 lt hd d l n (k + 1)
    unfold allR
    grind
theorem x_lean_L {z : ZI} {i : Int} (hi : 0 ≤ i ∧ i < z 68 35) (hK : JK z) : ∀ (n k f : Nat), k + n = 301 → n < f → X8_leastLean_L2 f z i (k : Int) = some (leanR (fun l => allR (ltb (z 92) (z 93)) (z 91) (z 91 i) l (z 68 35).toNat 0) n k, z) := by
  intro n
  induction n with
  | zero =>
    intro k f hk hf
    obtain ⟨f, rfl⟩ : ∃ g, f = g + 1 := ⟨f - 1, by omega⟩
    show X8_leastLean_L2b (X8_leastLean_L2 f) z i (k : Int) = _
    unfold X8_leastLean_L2b 
    have hb := fun q => x_all (d := z 91 i) (l := k) q hK; have hc := hK.2.2.2.1 i hi.1 hi.2; have hd := hK.2.2.1
    grind [Zgd_i, Yb_some, leanR.eq_1, leanR.eq_2]
  | succ n ih =>
    intro k f hk hf
    obtain ⟨f, rfl⟩ : ∃ g, f = g + 1 := ⟨f - 1, by omega⟩
    have e := ih (k + 1) f (by omega) (by omega)
    clear ih
    show X8_leastLean_L2b (X8_leastLean_L2 f) z i (k : Int) = _
    unfold X8_leastLean_L2b 
    have hb := fun q => x_all (d := z 91 i) (l := k) q hK; have hc := hK.2.2.2.1 i hi.1 hi.2; have hd := hK.2.2.1
    grind [Zgd_i, Yb_some, leanR.eq_1, leanR.eq_2]
theorem x_lean {z : ZI} {i : Int} (hi : 0 ≤ i ∧ i < z 68 35) (hK : JK z) : F_X8_leastLean z i = some (leanR (fun l => allR (ltb (z 92) (z 93)) (z 91) (z 91 i) l (z 68 35).toNat 0) 301 0, z) :=
  x_lean_L hi hK 301 0 Zfuel rfl (by unfold Zfuel; omega)
/-- the reference's fold of all -/
def alR (lt : Int → Int → Int) (hd : Int → Int) (d l : Int) : Nat → Int
  | 0 => 1
  | n + 1 => if alR lt hd d l n = 0 then 0 else if hd n < d then 1 else if lt n l = 0 then 0 else 1
theorem alR_s (lt : Int → Int → Int) (hd : Int → Int) (d l : Int) (n : Nat) : alR lt hd d l (n + 1) = if alR lt hd d l n = 0 then 0 else if hd n < d then 1 else if lt n l = 0 then 0 else 1 := rfl
theorem alR_01 (lt : Int → Int → Int) (hd : Int → Int) (d l : Int) : ∀ n : Nat, alR lt hd d l n = 0 ∨ alR lt hd d l n = 1
  | 0 => Or.inr rfl
  | n + 1 => by
    rw [alR_s]
    grind
theorem m_all_L {z : ZI} {d l : Int} {K40 : ZI → Int → Int → Option (Int × ZI)} (hl : 0 ≤ l ∧ l ≤ 300) (hK : JK z) (h5 : 0 ≤ z 68 35 ∧ z 68 35 ≤ 60) : ∀ (n k f : Nat), k + n = (z 68 35).toNat → n < f → X11_leaned_L52 K40 f z d l (alR (ltb (z 92) (z 93)) (z 91) d l k) (k : Int) = X11_leaned_b98 K40 z d l (alR (ltb (z 92) (z 93)) (z 91) d l (z 68 35).toNat) := by
  intro n
  induction n with
  | zero =>
    intro k f hk hf
    obtain ⟨f, rfl⟩ : ∃ g, f = g + 1 := ⟨f - 1, by omega⟩
    show X11_leaned_L52b K40 (X11_leaned_L52 K40 f) z d l (alR (ltb (z 92) (z 93)) (z 91) d l k) (k : Int) = _
    unfold X11_leaned_L52b X11_leaned_b86 X11_leaned_b90 X11_leaned_b91
    have hb := fun q => m_lets (k := k) (l := l) hK q hl; have hs := alR_s (ltb (z 92) (z 93)) (z 91) d l k; have h0 := alR_01 (ltb (z 92) (z 93)) (z 91) d l k; have h1 := ltb_01 (z 92) (z 93) k l
    grind [Zgd_i, Yb_some]
  | succ n ih =>
    intro k f hk hf
    obtain ⟨f, rfl⟩ : ∃ g, f = g + 1 := ⟨f - 1, by omega⟩
    have e := ih (k + 1) f (by omega) (by omega)
    clear ih
    show X11_leaned_L52b K40 (X11_leaned_L52 K40 f) z d l (alR (ltb (z 92) (z 93)) (z 91) d l k) (k : Int) = _
    unfold X11_leaned_L52b X11_leaned_b86 X11_leaned_b90 X11_leaned_b91
    have hb := fun q => m_lets (k := k) (l := l) hK q hl; have hs := alR_s (ltb (z 92) (z 93)) (z 91) d l k; have h0 := alR_01 (ltb (z 92) (z 93)) (z 91) d l k; have h1 := ltb_01 (z 92) (z 93) k l
    grind [Zgd_i, Yb_some]
theorem m_all {z : ZI} {d l : Int} {K40 : ZI → Int → Int → Option (Int × ZI)} (hl : 0 ≤ l ∧ l ≤ 300) (hK : JK z) : X11_leaned_L52 K40 Zfuel z d l 1 0 = X11_leaned_b98 K40 z d l (alR (ltb (z 92) (z 93)) (z 91) d l (z 68 35).toNat) :=
  m_all_L hl hK ⟨hK.2.1, hK.2.2.1⟩ (z 68 35).toNat 0 Zfuel (by omega) (by have := hK.2.2.1; unfold Zfuel; omega)
theorem m_lean_L {z : ZI} {d : Int} (hK : JK z) : ∀ (n k f : Nat), k + n = 301 → n < f → X11_leaned_L40 f z d (k : Int) = some (leanR (fun l => alR (ltb (z 92) (z 93)) (z 91) d l (z 68 35).toNat) n k, z) := by
  intro n
  induction n with
  | zero =>
    intro k f hk hf
    obtain ⟨f, rfl⟩ : ∃ g, f = g + 1 := ⟨f - 1, by omega⟩
    show X11_leaned_L40b (X11_leaned_L40 f) z d (k : Int) = _
    unfold X11_leaned_L40b 
    have hb := fun q => m_all (K40 := X11_leaned_L40 f) (d := d) (l := k) q hK
    grind [Zgd_i, leanR.eq_1, leanR.eq_2, X11_leaned_b98]
  | succ n ih =>
    intro k f hk hf
    obtain ⟨f, rfl⟩ : ∃ g, f = g + 1 := ⟨f - 1, by omega⟩
    have e := ih (k + 1) f (by omega) (by omega)
    clear ih
    show X11_leaned_L40b (X11_leaned_L40 f) z d (k : Int) = _
    unfold X11_leaned_L40b 
    have hb := fun q => m_all (K40 := X11_leaned_L40 f) (d := d) (l := k) q hK
    grind [Zgd_i, leanR.eq_1, leanR.eq_2, X11_leaned_b98]
theorem m_bef_L {z : ZI} {d : Int} (hK : JK z) (h5 : 0 ≤ z 68 35 ∧ z 68 35 ≤ 60) : ∀ (n k f : Nat), k + n = (z 68 35).toNat → n < f → X11_leaned_L2 f z d (k : Int) = (if befR (ltb (z 92) (z 93)) (z 91) d n k = 0 then some (-9, z) else X11_leaned_b38 z d) := by
  intro n
  induction n with
  | zero =>
    intro k f hk hf
    obtain ⟨f, rfl⟩ : ∃ g, f = g + 1 := ⟨f - 1, by omega⟩
    show X11_leaned_L2b (X11_leaned_L2 f) z d (k : Int) = _
    unfold X11_leaned_L2b X11_leaned_b32
    have hb := fun q => m_lets (k := k) (l := 0) hK q (by omega)
    grind [Zgd_i, Yb_some, befR.eq_1, befR.eq_2]
  | succ n ih =>
    intro k f hk hf
    obtain ⟨f, rfl⟩ : ∃ g, f = g + 1 := ⟨f - 1, by omega⟩
    have e := ih (k + 1) f (by omega) (by omega)
    clear ih
    show X11_leaned_L2b (X11_leaned_L2 f) z d (k : Int) = _
    unfold X11_leaned_L2b X11_leaned_b32
    have hb := fun q => m_lets (k := k) (l := 0) hK q (by omega)
    grind [Zgd_i, Yb_some, befR.eq_1, befR.eq_2]
def leanF (z : ZI) (d : Int) : Int := if befR (ltb (z 92) (z 93)) (z 91) d (z 68 35).toNat 0 = 0 then -9 else leanR (fun l => alR (ltb (z 92) (z 93)) (z 91) d l (z 68 35).toNat) 301 0
theorem m_leaned {z : ZI} {d : Int} (hK : JK z) : F_X11_leaned z d = some (leanF z d, z) := by
  have e := m_bef_L (d := d) hK ⟨hK.2.1, hK.2.2.1⟩ (z 68 35).toNat 0 Zfuel (by omega) (by have := hK.2.2.1; unfold Zfuel; omega)
  have e2 := m_lean_L (d := d) hK 301 0 Zfuel rfl (by unfold Zfuel; omega)
  unfold F_X11_leaned leanF
  by_cases h : befR (ltb (z 92) (z 93)) (z 91) d (z 68 35).toNat 0 = 0
  · rw [if_pos h]
    exact e.trans (if_pos h)
  · rw [if_neg h]
    exact (e.trans (if_neg h)).trans e2
/-! what they say -/
theorem fntR_c (lt : Int → Int → Int) : ∀ (n : Nat) (k : Int), 0 ≤ k → (fntR lt n k = -9 ∧ ∀ j, k ≤ j → j < k + n → lt j 0 ≠ 0) ∨ (k ≤ fntR lt n k ∧ fntR lt n k < k + n ∧ lt (fntR lt n k) 0 = 0 ∧ ∀ j, k ≤ j → j < fntR lt n k → lt j 0 ≠ 0)
  | 0, k, _ => Or.inl ⟨rfl, fun j h1 h2 => by omega⟩
  | n + 1, k, hk => by
    have u : fntR lt (n + 1) k = if lt k 0 = 0 then k else fntR lt n (k + 1) := rfl
    rw [u]
    by_cases h : lt k 0 = 0
    · rw [if_pos h]
      exact Or.inr ⟨by omega, by omega, h, fun j h1 h2 => by omega⟩
    · rw [if_neg h]
      rcases fntR_c lt n (k + 1) (by omega) with ⟨a, b⟩ | ⟨a, b, c, d⟩
      · refine Or.inl ⟨a, fun j h1 h2 => ?_⟩
        by_cases e : j = k
        · subst e; exact h
        · exact b j (by omega) (by omega)
      · refine Or.inr ⟨by omega, by omega, c, fun j h1 h2 => ?_⟩
        by_cases e : j = k
        · subst e; exact h
        · exact d j (by omega) h2
theorem allR_c (lt : Int → Int → Int) (hd : Int → Int) (d l : Int) : ∀ (n : Nat) (k : Int), (allR lt hd d l n k = 0) ↔ ∃ j, k ≤ j ∧ j < k + n ∧ d ≤ hd j ∧ lt j l = 0
  | 0, k => ⟨fun h => absurd h (by simp [allR]), fun ⟨j, h1, h2, _⟩ => by omega⟩
  | n + 1, k => by
    have i := allR_c lt hd d l n (k + 1)
    have u : allR lt hd d l (n + 1) k = if hd k < d then allR lt hd d l n (k + 1) else if lt k l = 0 then 0 else allR lt hd d l n (k + 1) := rfl
    rw [u]
    constructor
    · intro h
      by_cases h1 : hd k < d
      · rw [if_pos h1] at h
        obtain ⟨j, a, b, c⟩ := i.mp h
        exact ⟨j, by omega, by omega, c⟩
      · rw [if_neg h1] at h
        by_cases h2 : lt k l = 0
        · exact ⟨k, by omega, by omega, by omega, h2⟩
        · rw [if_neg h2] at h
          obtain ⟨j, a, b, c⟩ := i.mp h
          exact ⟨j, by omega, by omega, c⟩
    · rintro ⟨j, a, b, c, e⟩
      by_cases hj : j = k
      · subst hj
        rw [if_neg (by omega), if_pos e]
      · have h := i.mpr ⟨j, by omega, by omega, c, e⟩
        split
        · exact h
        · split
          · rfl
          · exact h
theorem befR_c (lt : Int → Int → Int) (hd : Int → Int) (d : Int) : ∀ (n : Nat) (k : Int), (befR lt hd d n k = 0) ↔ ∃ j, k ≤ j ∧ j < k + n ∧ hd j < d ∧ lt j 0 = 0
  | 0, k => ⟨fun h => absurd h (by simp [befR]), fun ⟨j, h1, h2, _⟩ => by omega⟩
  | n + 1, k => by
    have i := befR_c lt hd d n (k + 1)
    have u : befR lt hd d (n + 1) k = if d ≤ hd k then befR lt hd d n (k + 1) else if lt k 0 = 0 then 0 else befR lt hd d n (k + 1) := rfl
    rw [u]
    constructor
    · intro h
      by_cases h1 : d ≤ hd k
      · rw [if_pos h1] at h
        obtain ⟨j, a, b, c⟩ := i.mp h
        exact ⟨j, by omega, by omega, c⟩
      · rw [if_neg h1] at h
        by_cases h2 : lt k 0 = 0
        · exact ⟨k, by omega, by omega, by omega, h2⟩
        · rw [if_neg h2] at h
          obtain ⟨j, a, b, c⟩ := i.mp h
          exact ⟨j, by omega, by omega, c⟩
    · rintro ⟨j, a, b, c, e⟩
      by_cases hj : j = k
      · subst hj
        rw [if_neg (by omega), if_pos e]
      · have h := i.mpr ⟨j, by omega, by omega, c, e⟩
        split
        · exact h
        · split
          · rfl
          · exact h
theorem alR_c (lt : Int → Int → Int) (hd : Int → Int) (d l : Int) : ∀ n : Nat, (alR lt hd d l n = 0) ↔ ∃ j : Int, 0 ≤ j ∧ j < n ∧ d ≤ hd j ∧ lt j l = 0
  | 0 => ⟨fun h => absurd h (by simp [alR]), fun ⟨j, h1, h2, _⟩ => by omega⟩
  | n + 1 => by
    have i := alR_c lt hd d l n
    rw [alR_s]
    constructor
    · intro h
      by_cases h0 : alR lt hd d l n = 0
      · obtain ⟨j, a, b, c⟩ := i.mp h0
        exact ⟨j, a, by omega, c⟩
      · rw [if_neg h0] at h
        by_cases h1 : hd n < d
        · rw [if_pos h1] at h; omega
        · rw [if_neg h1] at h
          by_cases h2 : lt n l = 0
          · exact ⟨n, by omega, by omega, by omega, h2⟩
          · rw [if_neg h2] at h; omega
    · rintro ⟨j, a, b, c, e⟩
      by_cases hj : j = n
      · subst hj
        split
        · rfl
        · clear i
          grind
      · rw [if_pos (i.mpr ⟨j, a, by omega, c, e⟩)]
theorem al_all (lt : Int → Int → Int) (hd : Int → Int) (d l : Int) (n : Nat) : alR lt hd d l n = allR lt hd d l n 0 := by
  have h1 := alR_c lt hd d l n
  have h2 := allR_c lt hd d l n 0
  have h3 := alR_01 lt hd d l n
  have h4 := allR_01 lt hd d l n 0
  have h5 : (alR lt hd d l n = 0) ↔ (allR lt hd d l n 0 = 0) := by
    rw [h1, h2]
    constructor
    · rintro ⟨j, a, b, c⟩; exact ⟨j, a, by omega, c⟩
    · rintro ⟨j, a, b, c⟩; exact ⟨j, a, by omega, c⟩
  clear h1 h2
  omega
theorem leanR_c (p : Int → Int) : ∀ (n : Nat) (k : Int), 0 ≤ k → (leanR p n k = -9 ∧ ∀ j, k ≤ j → j < k + n → p j = 0) ∨ (k ≤ leanR p n k ∧ p (leanR p n k) ≠ 0)
  | 0, k, _ => Or.inl ⟨rfl, fun j h1 h2 => by omega⟩
  | n + 1, k, hk => by
    have u : leanR p (n + 1) k = if p k = 0 then leanR p n (k + 1) else k := rfl
    rw [u]
    by_cases h : p k = 0
    · rw [if_pos h]
      rcases leanR_c p n (k + 1) (by omega) with ⟨a, b⟩ | ⟨a, b⟩
      · refine Or.inl ⟨a, fun j h1 h2 => ?_⟩
        by_cases e : j = k
        · subst e; exact h
        · exact b j (by omega) (by omega)
      · exact Or.inr ⟨by omega, b⟩
    · rw [if_neg h]
      exact Or.inr ⟨by omega, h⟩
theorem leanR_lt (p : Int → Int) : ∀ (n : Nat) (k : Int), leanR p n k < k + n ∨ leanR p n k = -9
  | 0, k => Or.inr rfl
  | n + 1, k => by
    have u : leanR p (n + 1) k = if p k = 0 then leanR p n (k + 1) else k := rfl
    have := leanR_lt p n (k + 1)
    rw [u]
    split
    · rcases this with h | h
      · exact Or.inl (by omega)
      · exact Or.inr h
    · exact Or.inl (by omega)
/-- the reference goes down from the day d on -/
def sinR (g : Int → Int) : Nat → Int
  | 0 => -9
  | n + 1 => if g n < 0 then sinR g n else n
theorem m_since_L {z : ZI} {w : Int} (hw : w = 0 ∨ w = 1) (hK : JK z) : ∀ (n f : Nat), n ≤ 1001 → n < f → X11_since_L24 f z w ((n : Int) - 1) = some (if sinR (leanF z) n < 0 then -9 else if w = 0 then sinR (leanF z) n else leanF z (sinR (leanF z) n), z) := by
  intro n
  induction n with
  | zero =>
    intro f _ hf
    obtain ⟨f, rfl⟩ : ∃ g, f = g + 1 := ⟨f - 1, by omega⟩
    rfl
  | succ n ih =>
    intro f h hf
    obtain ⟨f, rfl⟩ : ∃ g, f = g + 1 := ⟨f - 1, by omega⟩
    have e := ih f (by omega) (by omega)
    have hl := m_leaned (d := n) hK
    have u : sinR (leanF z) (n + 1) = if leanF z n < 0 then sinR (leanF z) n else (n : Int) := rfl
    clear ih
    show X11_since_L24b (X11_since_L24 f) z w _ = _
    unfold X11_since_L24b X11_since_b38 X11_since_b47
    rw [u, show (((n + 1 : Nat) : Int) - 1) = (n : Int) by omega, hl, Yb_some]
    by_cases h1 : leanF z n < 0
    · grind [Zgd_i]
    · grind [Zgd_i]
theorem sinR_up (g : Int → Int) (m : Nat) : ∀ n : Nat, m ≤ n → (∀ j : Nat, m ≤ j → j < n → g j < 0) → sinR g n = sinR g m
  | 0, h, _ => by rw [show m = 0 by omega]
  | n + 1, h, hh => by
    by_cases e : m = n + 1
    · rw [e]
    · have u : sinR g (n + 1) = if g n < 0 then sinR g n else (n : Int) := rfl
      rw [u, if_pos (hh n (by omega) (by omega))]
      exact sinR_up g m n (by omega) (fun j h1 h2 => hh j h1 (by omega))
theorem leanF_al (z : ZI) (d : Int) : leanF z d = if befR (ltb (z 92) (z 93)) (z 91) d (z 68 35).toNat 0 = 0 then -9 else leanR (fun l => allR (ltb (z 92) (z 93)) (z 91) d l (z 68 35).toNat 0) 301 0 := by
  unfold leanF
  simp only [al_all]
set_option maxHeartbeats 1000000 in
theorem t_since {n : Int} {z : ZI} (hK : K z) (hN : JN n z) (hn : n ≤ 1000) (w : Int) : Both (F_X10_since z w) (fun z1 => F_X11_since z1 w) (fun z2 => K z2 ∧ JN (n + 1) z2) := by
  have hR := hN.R hn
  have hl := links hK
  have hK0 := hK
  obtain ⟨hD, hH, hP, hS, hL, hT, hE, hV, hA, hU, hC, hK, hW, hB, hG, hX, hQ, hO⟩ := hK
  by_cases c1 : ¬ (0 ≤ w ∧ w ≤ 1)
  · refine Both_ref hK0 hN (w := -2) hn (by omega) ?_ ?_
    · unfold F_X10_since X10_since_b16 X10_since_b79 X10_since_b44
      grind (gen := 20) [Yb_some, Zgd_i, Zl_eq, bi, e_refuse, x_fnt, x_lean, F_X8_dayOf]
    · show F_X11_since (zR z (-2)) w = _
      unfold F_X11_since 
      grind (gen := 20) [Yb_some, Zgd_i, Zl_eq, bi, zR_d, zR_k, e_no, e_isIn]
  have hw : w = 0 ∨ w = 1 := by omega
  have hx := x_fnt hK
  have hc := fntR_c (ltb (z 92) (z 93)) (z 68 35).toNat 0 (Int.le_refl _)
  have hNN : (((z 68 35).toNat : Nat) : Int) = z 68 35 := by have := hK.2.1; omega
  have n60 := hK.2.2.1
  have hrow := hK.2.2.2.1
  have hmon := hK.2.2.2.2
  obtain ⟨dd, hdd⟩ : ∃ dd : Nat, z 68 11 = dd := ⟨(z 68 11).toNat, by omega⟩
  have hm := m_since_L hw hK (dd + 2) Zfuel (by omega) (by unfold Zfuel; omega)
  have em : F_X11_since z w = some (if sinR (leanF z) (dd + 2) < 0 then -9 else if w = 0 then sinR (leanF z) (dd + 2) else leanF z (sinR (leanF z) (dd + 2)), z) := by
    unfold F_X11_since
    rw [e_isIn, Yb_some, bi_t (by omega), if_neg (by decide), Zgd_t (by omega), ← hm]
    congr 1
    omega
  have hu : sinR (leanF z) (dd + 2) = if leanF z ((dd + 1 : Nat) : Int) < 0 then sinR (leanF z) (dd + 1) else ((dd + 1 : Nat) : Int) := rfl
  rcases hc with ⟨c1, c2⟩ | ⟨c1, c2, c3, c4⟩
  · -- all are true
    have hb : ¬ befR (ltb (z 92) (z 93)) (z 91) ((dd + 1 : Nat) : Int) (z 68 35).toNat 0 = 0 := by
      rw [befR_c]
      rintro ⟨j, j1, j2, j3, j4⟩
      exact c2 j j1 j2 j4
    have ha : ¬ allR (ltb (z 92) (z 93)) (z 91) ((dd + 1 : Nat) : Int) 0 (z 68 35).toNat 0 = 0 := by
      rw [allR_c]
      rintro ⟨j, j1, j2, j3, j4⟩
      exact c2 j j1 j2 j4
    have hl : leanF z ((dd + 1 : Nat) : Int) = 0 := by
      rw [leanF_al, if_neg hb]
      show (if allR (ltb (z 92) (z 93)) (z 91) ((dd + 1 : Nat) : Int) 0 (z 68 35).toNat 0 = 0 then _ else (0 : Int)) = 0
      rw [if_neg ha]
    rw [hl, if_neg (by decide)] at hu
    refine ⟨if w = 0 then z 68 11 + 1 else 0, z, z, ?_, ?_, hK0, JN_1 hN⟩
    · unfold F_X10_since X10_since_b16 X10_since_b79 X10_since_b44
      rw [hx, c1]
      clear hrow hmon c2 hm em
      grind [Yb_some, Zgd_i]
    · show F_X11_since z w = _
      rw [em, hu, hl, hdd]
      rcases hw with rfl | rfl
      · simp; omega
      · simp; omega
  · -- the first that isn't true
    obtain ⟨i, hi⟩ : ∃ i : Int, fntR (ltb (z 92) (z 93)) (z 68 35).toNat 0 = i := ⟨_, rfl⟩
    rw [hi] at c1 c2 c3 c4 hx
    have hri := hrow i c1 (by omega)
    obtain ⟨df, hdf⟩ : ∃ df : Nat, z 91 i = df := ⟨(z 91 i).toNat, by omega⟩
    have hup : ∀ j : Nat, df + 1 ≤ j → j < dd + 2 → leanF z j < 0 := by
      intro j j1 j2
      have hb : befR (ltb (z 92) (z 93)) (z 91) (j : Int) (z 68 35).toNat 0 = 0 := by
        rw [befR_c]
        exact ⟨i, c1, by omega, by omega, c3⟩
      rw [leanF_al, if_pos hb]
      decide
    have hs1 := sinR_up (leanF z) (df + 1) (dd + 2) (by omega) hup
    have hs2 : sinR (leanF z) (df + 1) = if leanF z df < 0 then sinR (leanF z) df else (df : Int) := rfl
    have hb : ¬ befR (ltb (z 92) (z 93)) (z 91) (df : Int) (z 68 35).toNat 0 = 0 := by
      rw [befR_c]
      rintro ⟨j, j1, j2, j3, j4⟩
      rcases Int.lt_or_le j i with h | h
      · exact c4 j j1 h j4
      · by_cases e : j = i
        · subst e; omega
        · have := hmon i j c1 (by omega) (by omega); omega
    have hl : leanF z df = leanR (fun l => allR (ltb (z 92) (z 93)) (z 91) (z 91 i) l (z 68 35).toNat 0) 301 0 := by
      rw [leanF_al, if_neg hb, hdf]
    have hx2 := x_lean (i := i) ⟨c1, by omega⟩ hK
    rw [← hl] at hx2
    have hlc := leanR_c (fun l => allR (ltb (z 92) (z 93)) (z 91) (z 91 i) l (z 68 35).toNat 0) 301 0 (Int.le_refl _)
    rw [← hl] at hlc
    have hin : sinR (leanF z) (dd + 2) = if leanF z df < 0 then -9 else (df : Int) := by
      rw [hs1, hs2]
      split
      · rename_i hneg
        rcases hlc with ⟨e1, e2⟩ | ⟨e1, e2⟩
        · refine (sinR_up (leanF z) 0 df (Nat.zero_le _) (fun j j1 j2 => ?_)).trans rfl
          rw [leanF_al]
          split
          · decide
          · rcases leanR_c (fun l => allR (ltb (z 92) (z 93)) (z 91) (j : Int) l (z 68 35).toNat 0) 301 0 (Int.le_refl _) with ⟨q1, q2⟩ | ⟨q1, q2⟩
            · rw [q1]; decide
            · exfalso
              refine q2 ?_
              have hle := leanR_lt (fun l => allR (ltb (z 92) (z 93)) (z 91) (j : Int) l (z 68 35).toNat 0) 301 0
              have hz := e2 _ q1 (by omega)
              rw [allR_c] at hz ⊢
              obtain ⟨k, k1, k2, k3, k4⟩ := hz
              exact ⟨k, k1, k2, by omega, k4⟩
        · omega
      · rfl
    have hne : leanF z df = -9 ∨ 0 ≤ leanF z df := by
      rcases hlc with ⟨e1, e2⟩ | ⟨e1, e2⟩
      · exact Or.inl e1
      · exact Or.inr e1
    refine ⟨if leanF z df < 0 then -9 else if w = 0 then (df : Int) else leanF z df, z, z, ?_, ?_, hK0, JN_1 hN⟩
    · unfold F_X10_since X10_since_b16 X10_since_b79 X10_since_b44
      unfold F_X8_dayOf
      rw [hx]
      clear hrow hmon c4 hm em hup hs1 hs2 hb hl hlc hin hu
      grind [Yb_some, Zgd_i]
    · show F_X11_since z w = _
      rw [em, hin]
      clear hrow hmon c4 hm em hup hs1 hs2 hb hl hlc hin hu hx hx2
      by_cases h : leanF z df < 0
      · simp [h]
      · rw [if_neg h, if_neg (by omega), if_neg h]
