/-! rain: what is foul -/
def own1 (lw w g : Int → Int) (c : Int) : Int → Int := if 0 < lw c ∧ lw c ≤ w c then fupd g c 1 else g
def gS (ht lw w g : Int → Int) (c : Int) : Int → Int := if 0 ≤ dnH ht c then fupd (own1 lw w g c) (dnH ht c) (if own1 lw w g c (dnH ht c) = 0 ∧ own1 lw w g c c = 0 then 0 else 1) else own1 lw w g c
def gR (ht D pi lw : Int → Int) (rain : Int) : Nat → Int → Int
  | 0 => fun _ => 0
  | i + 1 => if D (pi i) = 0 then gS ht lw (pR ht D pi rain i) (gR ht D pi lw rain i) (pi i) else gR ht D pi lw rain i
def isFl (ht D : Int → Int) (own : Int → Prop) (f : Int → Int) : Prop := ∀ c : Int, 0 ≤ c → c < 144 → (f c = 0 ∨ f c = 1) ∧ (f c = 1 ↔ (own c ∨ ∃ j : Int, 0 ≤ j ∧ j < 144 ∧ D j = 0 ∧ dnH ht j = c ∧ f j = 1))
theorem own1_i (lw w g : Int → Int) (c x : Int) (h : g x = 0 ∨ g x = 1) : (own1 lw w g c x = 0 ∨ own1 lw w g c x = 1) ∧ (own1 lw w g c x = 1 ↔ ((x = c ∧ 0 < lw c ∧ lw c ≤ w c) ∨ g x = 1)) := by
  unfold own1 fupd
  by_cases q : 0 < lw c ∧ lw c ≤ w c
  · rw [if_pos q]
    by_cases r : x = c
    · simp [r, q]
    · simp [r, h]
  · rw [if_neg q]
    refine ⟨h, ⟨fun e => Or.inr e, fun e => ?_⟩⟩
    rcases e with e | e
    · exact absurd e.2 q
    · exact e
theorem gS_o {ht lw w g : Int → Int} {c x : Int} (h1 : x ≠ c) (h2 : x ≠ dnH ht c) : gS ht lw w g c x = g x := by
  unfold gS own1 fupd
  repeat' split
  all_goals simp [h1, h2]
theorem gS_s {ht lw w g : Int → Int} {c : Int} : gS ht lw w g c c = own1 lw w g c c := by
  have lt := dnH_lt ht c
  unfold gS
  split
  · refine if_neg (fun e => ?_)
    rw [← e] at lt
    omega
  · rfl
theorem gS_d {ht lw w g : Int → Int} {c : Int} (h : 0 ≤ dnH ht c) : gS ht lw w g c (dnH ht c) = if own1 lw w g c (dnH ht c) = 0 ∧ own1 lw w g c c = 0 then 0 else 1 := by
  unfold gS
  rw [if_pos h]
  exact if_pos rfl
section
variable {ht D pi lw : Int → Int} {rain : Int}
theorem gR_t {i : Nat} (h : D (pi i) = 0) : gR ht D pi lw rain (i + 1) = gS ht lw (pR ht D pi rain i) (gR ht D pi lw rain i) (pi i) := if_pos h
theorem gR_f {i : Nat} (h : ¬ D (pi i) = 0) : gR ht D pi lw rain (i + 1) = gR ht D pi lw rain i := if_neg h
theorem gR_01 : ∀ (i : Nat) (c : Int), gR ht D pi lw rain i c = 0 ∨ gR ht D pi lw rain i c = 1
  | 0, _ => Or.inl rfl
  | i + 1, c => by
    have ih := gR_01 i
    by_cases h : D (pi i) = 0
    · rw [gR_t h]
      by_cases h2 : c = pi i
      · rw [h2, gS_s]
        exact (own1_i _ _ _ _ _ (ih _)).1
      · by_cases h3 : c = dnH ht (pi i)
        · by_cases h4 : 0 ≤ dnH ht (pi i)
          · rw [h3, gS_d h4]
            split
            · exact Or.inl rfl
            · exact Or.inr rfl
          · unfold gS
            rw [if_neg h4]
            exact (own1_i _ _ _ _ _ (ih _)).1
        · rw [gS_o h2 h3]
          exact ih c
    · rw [gR_f h]
      exact ih c
theorem gR_st {j : Nat} (h : ordH ht pi) (hj : j < 144) : ∀ d : Nat, j + 1 + d ≤ 144 → gR ht D pi lw rain (j + 1 + d) (pi j) = gR ht D pi lw rain (j + 1) (pi j)
  | 0, _ => rfl
  | d + 1, hd => by
    have i := gR_st h hj d (by omega)
    rw [← i, show j + 1 + (d + 1) = (j + 1 + d) + 1 by omega]
    by_cases c : D (pi ((j + 1 + d : Nat) : Int)) = 0
    · rw [gR_t c]
      have lt := dnH_lt ht (pi ((j + 1 + d : Nat) : Int))
      have so := h.2.2 j ((j + 1 + d : Nat) : Int) (by omega) (by omega) (by omega)
      have r := h.1 j (by omega) (by omega)
      refine gS_o (h.2.1 j ((j + 1 + d : Nat) : Int) (by omega) (by omega) (by omega)) (fun e => ?_)
      rw [← e] at lt
      omega
    · rw [gR_f c]
theorem gR_i (h : ordH ht pi) : ∀ i : Nat, i ≤ 144 → ∀ c : Int, 0 ≤ c → (gR ht D pi lw rain i c = 1 ↔ ((∃ j : Nat, j < i ∧ pi j = c ∧ D c = 0 ∧ 0 < lw c ∧ lw c ≤ pR ht D pi rain j c) ∨ ∃ j : Nat, j < i ∧ D (pi j) = 0 ∧ dnH ht (pi j) = c ∧ gR ht D pi lw rain (j + 1) (pi j) = 1))
  | 0, _, c, _ => by
    constructor
    · intro e
      have e : (0 : Int) = 1 := e
      omega
    · rintro (⟨j, q, -⟩ | ⟨j, q, -⟩) <;> omega
  | i + 1, hi, c, hc => by
    have ih := gR_i h i (by omega) c hc
    have mono : ∀ {P : Nat → Prop}, (∃ j : Nat, j < i + 1 ∧ P j) ↔ ((∃ j : Nat, j < i ∧ P j) ∨ P i) := by
      intro P
      constructor
      · rintro ⟨j, q, r⟩
        by_cases e : j = i
        · rw [e] at r; exact Or.inr r
        · exact Or.inl ⟨j, by omega, r⟩
      · rintro (⟨j, q, r⟩ | r)
        · exact ⟨j, by omega, r⟩
        · exact ⟨i, by omega, r⟩
    rw [mono, mono]
    by_cases q : D (pi i) = 0
    · have o1 := own1_i lw (pR ht D pi rain i) (gR ht D pi lw rain i) (pi i) c (gR_01 i c)
      have o2 := own1_i lw (pR ht D pi rain i) (gR ht D pi lw rain i) (pi i) (pi i) (gR_01 i (pi i))
      have es : gR ht D pi lw rain (i + 1) (pi i) = own1 lw (pR ht D pi rain i) (gR ht D pi lw rain i) (pi i) (pi i) := by rw [gR_t q, gS_s]
      rw [es]
      have main : gR ht D pi lw rain (i + 1) c = 1 ↔ (own1 lw (pR ht D pi rain i) (gR ht D pi lw rain i) (pi i) c = 1 ∨ (dnH ht (pi i) = c ∧ own1 lw (pR ht D pi rain i) (gR ht D pi lw rain i) (pi i) (pi i) = 1)) := by
        rw [gR_t q]
        by_cases e : c = dnH ht (pi i)
        · have h0 : 0 ≤ dnH ht (pi i) := by omega
          rw [e] at o1 ⊢
          rw [gS_d h0]
          split <;> omega
        · have ne : ¬ dnH ht (pi i) = c := fun z => e z.symm
          have : gS ht lw (pR ht D pi rain i) (gR ht D pi lw rain i) (pi i) c = own1 lw (pR ht D pi rain i) (gR ht D pi lw rain i) (pi i) c := by
            unfold gS
            split
            · exact if_neg e
            · rfl
          rw [this]
          constructor
          · exact Or.inl
          · rintro (z | z)
            · exact z
            · exact absurd z.1 ne
      rw [main, o1.2, ih]
      constructor
      · rintro ((⟨z1, z2⟩ | (z | z)) | z)
        · exact Or.inl (Or.inr ⟨z1.symm, by rw [z1]; exact q, by rw [z1]; exact z2.1, by rw [z1]; exact z2.2⟩)
        · exact Or.inl (Or.inl z)
        · exact Or.inr (Or.inl z)
        · exact Or.inr (Or.inr ⟨q, z⟩)
      · rintro ((z | z) | (z | z))
        · exact Or.inl (Or.inr (Or.inl z))
        · exact Or.inl (Or.inl ⟨z.1.symm, by rw [z.1]; exact z.2.2⟩)
        · exact Or.inl (Or.inr (Or.inr z))
        · exact Or.inr z.2
    · rw [gR_f q, ih]
      constructor
      · rintro (z | z)
        · exact Or.inl (Or.inl z)
        · exact Or.inr (Or.inl z)
      · rintro ((z | z) | (z | z))
        · exact Or.inl z
        · exact absurd (by rw [z.1]; exact z.2.1) q
        · exact Or.inr z
        · exact absurd z.1 q
theorem gR_fl (h : ordH ht pi) : isFl ht D (fun c => D c = 0 ∧ 0 < lw c ∧ lw c ≤ pR ht D pi rain 144 c) (gR ht D pi lw rain 144) := by
  intro c h0 h1
  refine ⟨gR_01 144 c, ?_⟩
  rw [gR_i h 144 (Nat.le_refl _) c h0]
  have sw : ∀ j : Nat, j < 144 → pR ht D pi rain 144 (pi j) = pR ht D pi rain j (pi j) := by
    intro j hj
    have e := pR_st (D := D) (rain := rain) h hj (144 - j) (by omega)
    rwa [show j + (144 - j) = 144 by omega] at e
  have sg : ∀ j : Nat, j < 144 → gR ht D pi lw rain 144 (pi j) = gR ht D pi lw rain (j + 1) (pi j) := by
    intro j hj
    have e := gR_st (D := D) (lw := lw) (rain := rain) h hj (144 - (j + 1)) (by omega)
    rwa [show j + 1 + (144 - (j + 1)) = 144 by omega] at e
  constructor
  · rintro (⟨j, hj, e, q1, q2, q3⟩ | ⟨j, hj, q1, q2, q3⟩)
    · left
      refine ⟨q1, q2, ?_⟩
      rw [← e, sw j hj, e]
      exact q3
    · right
      have r := h.1 j (by omega) (by omega)
      exact ⟨pi j, r.1, r.2, q1, q2, by rw [sg j hj]; exact q3⟩
  · rintro (⟨q1, q2, q3⟩ | ⟨x, x0, x1, q1, q2, q3⟩)
    · obtain ⟨j, hj, e⟩ := ordH_onto h ⟨h0, h1⟩
      left
      refine ⟨j, hj, e, q1, q2, ?_⟩
      rw [← e, ← sw j hj, e]
      exact q3
    · obtain ⟨j, hj, e⟩ := ordH_onto h ⟨x0, x1⟩
      right
      refine ⟨j, hj, by rw [e]; exact q1, by rw [e]; exact q2, ?_⟩
      rw [← sg j hj, e]
      exact q3
end
theorem fl_le {ht D D2 : Int → Int} {o o2 : Int → Prop} {v w : Int → Int} (hh : ∀ c : Int, 0 ≤ c → c < 144 → 0 ≤ ht c ∧ ht c ≤ 99) (hv : isFl ht D o v) (hw : isFl ht D2 o2 w) (ho : ∀ c : Int, 0 ≤ c → c < 144 → o c → o2 c) (hD : ∀ c : Int, 0 ≤ c → c < 144 → D c = 0 → D2 c = 0) : ∀ m : Nat, ∀ c : Int, 0 ≤ c → c < 144 → 100 - ht c ≤ m → v c = 1 → w c = 1
  | 0, c, h0, h1, hm, _ => by
    have := hh c h0 h1
    omega
  | m + 1, c, h0, h1, hm, e => by
    rw [(hw c h0 h1).2]
    rcases (hv c h0 h1).2.mp e with q | ⟨j, j0, j1, q1, q2, q3⟩
    · exact Or.inl (ho c h0 h1 q)
    · have lt := dnH_lt ht j
      exact Or.inr ⟨j, j0, j1, hD j j0 j1 q1, q2, fl_le hh hv hw ho hD m j j0 j1 (by rw [q2] at lt; omega) q3⟩
theorem fl_un {ht D : Int → Int} {o o2 : Int → Prop} {v w : Int → Int} (hh : ∀ c : Int, 0 ≤ c → c < 144 → 0 ≤ ht c ∧ ht c ≤ 99) (hv : isFl ht D o v) (hw : isFl ht D o2 w) (ho : ∀ c : Int, 0 ≤ c → c < 144 → (o c ↔ o2 c)) {c : Int} (hc : 0 ≤ c ∧ c < 144) : v c = w c := by
  have q := hh c hc.1 hc.2
  have a := fl_le hh hv hw (fun c a b => (ho c a b).mp) (fun _ _ _ e => e) 100 c hc.1 hc.2 (by omega)
  have b := fl_le hh hw hv (fun c a b => (ho c a b).mpr) (fun _ _ _ e => e) 100 c hc.1 hc.2 (by omega)
  have e1 := (hv c hc.1 hc.2).1
  have e2 := (hw c hc.1 hc.2).1
  omega
/-- the reference's order -/
def hgR (ht base : Int → Int) : Nat → Int → Int
  | 0 => base
  | m + 1 => insF (hgR ht base m) m (posR (fun i => ht (hgR ht base m i)) (ht m) m) m
theorem posR_ge {B : Int → Int} {v : Int} : ∀ m : Nat, ∀ i : Int, posR B v m ≤ i → i < m → B i < v
  | 0, i, h1, h2 => by omega
  | m + 1, i, h1, h2 => by
    have u : posR B v (m + 1) = if B m < v then posR B v m else m + 1 := rfl
    rw [u] at h1
    by_cases c : B m < v
    · rw [if_pos c] at h1
      by_cases e : i = m
      · rw [e]; exact c
      · exact posR_ge m i h1 (by omega)
    · rw [if_neg c] at h1
      omega
theorem posR_lt {B : Int → Int} {v : Int} : ∀ m : Nat, posR B v m = 0 ∨ v ≤ B ((posR B v m : Int) - 1)
  | 0 => Or.inl rfl
  | m + 1 => by
    have u : posR B v (m + 1) = if B m < v then posR B v m else m + 1 := rfl
    rw [u]
    by_cases c : B m < v
    · rw [if_pos c]
      exact posR_lt m
    · rw [if_neg c]
      right
      rw [show ((m + 1 : Nat) : Int) - 1 = m by omega]
      omega
theorem hgR_ord (ht base : Int → Int) : ∀ m : Nat, (∀ i : Int, 0 ≤ i → i < m → 0 ≤ hgR ht base m i ∧ hgR ht base m i < m) ∧ (∀ i j : Int, 0 ≤ i → i < j → j < m → hgR ht base m i ≠ hgR ht base m j) ∧ (∀ i j : Int, 0 ≤ i → i < j → j < m → ht (hgR ht base m j) ≤ ht (hgR ht base m i))
  | 0 => ⟨fun i h1 h2 => by omega, fun i j h1 h2 h3 => by omega, fun i j h1 h2 h3 => by omega⟩
  | m + 1 => by
    obtain ⟨a, b, c⟩ := hgR_ord ht base m
    have u : hgR ht base (m + 1) = insF (hgR ht base m) m (posR (fun i => ht (hgR ht base m i)) (ht m) m) m := rfl
    rw [u]
    have le := posR_le (fun i => ht (hgR ht base m i)) (ht m) m
    have pg := posR_ge (B := fun i => ht (hgR ht base m i)) (v := ht m) m
    have pl := posR_lt (B := fun i => ht (hgR ht base m i)) (v := ht m) m
    generalize posR (fun i => ht (hgR ht base m i)) (ht m) m = q at *
    generalize hgR ht base m = A at *
    have lo : ∀ i : Int, 0 ≤ i → i < q → ht m ≤ ht (A i) := by
      intro i i0 i1
      rcases pl with z | z
      · omega
      · by_cases e : i = (q : Int) - 1
        · rw [e]; exact z
        · have := c i ((q : Int) - 1) i0 (by omega) (by omega)
          have z : ht m ≤ ht (A ((q : Int) - 1)) := z
          omega
    have pg : ∀ i : Int, (q : Int) ≤ i → i < m → ht (A i) < ht m := pg
    have v : ∀ i : Int, insF A m q m i = if i = q then (m : Int) else if (q : Int) < i ∧ i ≤ m then A (i - 1) else A i := fun _ => rfl
    refine ⟨fun i h1 h2 => ?_, fun i j h1 h2 h3 => ?_, fun i j h1 h2 h3 => ?_⟩
    · rw [v]
      by_cases e : i = q
      · rw [if_pos e]; omega
      · rw [if_neg e]
        by_cases e2 : (q : Int) < i ∧ i ≤ m
        · rw [if_pos e2]
          have := a (i - 1) (by omega) (by omega)
          omega
        · rw [if_neg e2]
          have := a i h1 (by omega)
          omega
    · rw [v, v]
      by_cases e : i = q
      · rw [if_pos e, if_neg (by omega), if_pos (by omega)]
        have := a (j - 1) (by omega) (by omega)
        omega
      · rw [if_neg e]
        by_cases f : j = q
        · rw [if_pos f, if_neg (by omega)]
          have := a i h1 (by omega)
          omega
        · rw [if_neg f]
          by_cases e2 : (q : Int) < i ∧ i ≤ m
          · rw [if_pos e2, if_pos (by omega)]
            exact b (i - 1) (j - 1) (by omega) (by omega) (by omega)
          · rw [if_neg e2]
            by_cases f2 : (q : Int) < j ∧ j ≤ m
            · rw [if_pos f2]
              exact b i (j - 1) h1 (by omega) (by omega)
            · rw [if_neg f2]
              exact b i j h1 h2 (by omega)
    · rw [v, v]
      by_cases e : i = q
      · rw [if_pos e, if_neg (by omega), if_pos (by omega)]
        have := pg (j - 1) (by omega) (by omega)
        omega
      · rw [if_neg e]
        by_cases f : j = q
        · rw [if_pos f, if_neg (by omega)]
          exact lo i h1 (by omega)
        · rw [if_neg f]
          by_cases e2 : (q : Int) < i ∧ i ≤ m
          · rw [if_pos e2, if_pos (by omega)]
            exact c (i - 1) (j - 1) (by omega) (by omega) (by omega)
          · rw [if_neg e2]
            by_cases f2 : (q : Int) < j ∧ j ≤ m
            · rw [if_pos f2]
              by_cases g : i = j - 1
              · omega
              · exact c i (j - 1) h1 (by omega) (by omega)
            · rw [if_neg f2]
              exact c i j h1 h2 (by omega)
theorem hgR_o (ht base : Int → Int) : ordH ht (hgR ht base 144) := hgR_ord ht base 144
/-! the canon -/
def Dr (z : ZI) (s c : Int) : Int := if srch (z 110) c (z 68 62).toNat 0 ≠ -9 ∧ bitT s (srch (z 110) c (z 68 62).toNat 0) = 1 then 1 else 0
def WS (z : ZI) (s r : Int) : Int → Int := pR (z 70) (Dr z s) (hgR (z 70) (fun _ => 0) 144) r 144
def FS (z : ZI) (s r : Int) : Int → Int := gR (z 70) (Dr z s) (hgR (z 70) (fun _ => 0) 144) (z 4) r 144
def fwR (f wc : Int → Int) : Nat → Int
  | 0 => 0
  | n + 1 => if f (wc n) = 0 then fwR f wc n else jor (fwR f wc n) (jshl 1 n)
def fS (z : ZI) (s r : Int) : Int := fwR (FS z s r) (z 95) (z 68 47).toNat
