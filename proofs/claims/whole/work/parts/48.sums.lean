/-! rain: sums over cells, and what comes down in an order from high to low -/
def sumR (f : Nat → Int) : Nat → Int
  | 0 => 0
  | n + 1 => sumR f n + f n
theorem sumR_s (f : Nat → Int) (n : Nat) : sumR f (n + 1) = sumR f n + f n := rfl
theorem sumR_cg {f g : Nat → Int} : ∀ n : Nat, (∀ j, j < n → f j = g j) → sumR f n = sumR g n
  | 0, _ => rfl
  | n + 1, h => by rw [sumR_s, sumR_s, sumR_cg n (fun j q => h j (by omega)), h n (by omega)]
theorem sumR_0 : ∀ n : Nat, sumR (fun _ => 0) n = 0
  | 0 => rfl
  | n + 1 => by rw [sumR_s, sumR_0 n]; rfl
theorem sumR_nn {f : Nat → Int} : ∀ n : Nat, (∀ j, j < n → 0 ≤ f j) → 0 ≤ sumR f n
  | 0, _ => Int.le_refl _
  | n + 1, h => by
    have := sumR_nn n (fun j q => h j (by omega))
    have := h n (by omega)
    rw [sumR_s]; omega
theorem sumR_mono {f g : Nat → Int} : ∀ n : Nat, (∀ j, j < n → f j ≤ g j) → sumR f n ≤ sumR g n
  | 0, _ => Int.le_refl _
  | n + 1, h => by
    have := sumR_mono n (fun j q => h j (by omega))
    have := h n (by omega)
    rw [sumR_s, sumR_s]; omega
theorem sumR_one {f : Nat → Int} {k : Nat} : ∀ n : Nat, k < n → (∀ j, j < n → j ≠ k → f j = 0) → sumR f n = f k
  | 0, hk, _ => by omega
  | n + 1, hk, h => by
    rw [sumR_s]
    by_cases c : k = n
    · subst c
      have e : sumR f k = 0 := by
        rw [sumR_cg (g := fun _ => 0) k (fun j q => h j (by omega) (by omega))]
        exact sumR_0 k
      omega
    · have i := sumR_one (f := f) (k := k) n (by omega) (fun j q => h j (by omega))
      have := h n (by omega) (fun q => c q.symm)
      omega
theorem sumR_up {f g : Nat → Int} {k : Nat} : ∀ n : Nat, k < n → (∀ j, j < n → j ≠ k → f j = g j) → sumR f n = sumR g n + (f k - g k)
  | 0, hk, _ => by omega
  | n + 1, hk, h => by
    rw [sumR_s, sumR_s]
    by_cases c : k = n
    · subst c
      rw [sumR_cg k (fun j q => h j (by omega) (by omega))]
      omega
    · have i := sumR_up (f := f) (g := g) (k := k) n (by omega) (fun j q => h j (by omega))
      have := h n (by omega) (fun q => c q.symm)
      omega
theorem sumR_le {f : Nat → Int} {k : Nat} : ∀ n : Nat, k < n → (∀ j, j < n → 0 ≤ f j) → f k ≤ sumR f n
  | 0, hk, _ => by omega
  | n + 1, hk, h => by
    rw [sumR_s]
    have p := h n (by omega)
    by_cases c : k = n
    · subst c
      have := sumR_nn k (fun j q => h j (by omega))
      omega
    · have i := sumR_le (f := f) (k := k) n (by omega) (fun j q => h j (by omega))
      omega
theorem sumR_le2 {f : Nat → Int} {k l : Nat} : ∀ n : Nat, k < n → l < n → k ≠ l → (∀ j, j < n → 0 ≤ f j) → f k + f l ≤ sumR f n
  | 0, hk, _, _, _ => by omega
  | n + 1, hk, hl, hkl, h => by
    rw [sumR_s]
    have p := h n (by omega)
    by_cases c : k = n
    · subst c
      have := sumR_le (f := f) (k := l) k (by omega) (fun j q => h j (by omega))
      omega
    · by_cases c2 : l = n
      · subst c2
        have := sumR_le (f := f) (k := k) l (by omega) (fun j q => h j (by omega))
        omega
      · have i := sumR_le2 (f := f) (k := k) (l := l) n (by omega) (by omega) hkl (fun j q => h j (by omega))
        omega
theorem sumR_k (v : Int) : ∀ n : Nat, sumR (fun _ => v) n = n * v
  | 0 => by rw [show ((0 : Nat) : Int) = 0 from rfl, Int.zero_mul]; rfl
  | n + 1 => by
    rw [sumR_s, sumR_k v n, show ((n + 1 : Nat) : Int) = (n : Int) + 1 by omega, Int.add_mul, Int.one_mul]
theorem sumR_add {f g : Nat → Int} : ∀ n : Nat, sumR (fun j => f j + g j) n = sumR f n + sumR g n
  | 0 => rfl
  | n + 1 => by
    rw [sumR_s, sumR_s, sumR_s, sumR_add n]
    omega
theorem sumR_swap {f : Nat → Nat → Int} (m : Nat) : ∀ n : Nat, sumR (fun j => sumR (f j) m) n = sumR (fun c => sumR (fun j => f j c) n) m
  | 0 => (sumR_0 m).symm
  | n + 1 => by
    rw [sumR_s, sumR_swap m n]
    have : (fun c => sumR (fun j => f j c) (n + 1)) = fun c => sumR (fun j => f j c) n + f n c := rfl
    rw [this, sumR_add]
/-- in another order the same sum -/
theorem sumR_perm {n : Nat} {p : Nat → Nat} {g : Nat → Int} (h1 : ∀ j, j < n → p j < n) (h2 : ∀ i j, i < j → j < n → p i ≠ p j) : sumR (fun j => g (p j)) n = sumR g n := by
  have e1 : sumR (fun j => g (p j)) n = sumR (fun j => sumR (fun c => if p j = c then g c else 0) n) n := by
    refine sumR_cg n (fun j hj => ?_)
    have := sumR_one (f := fun c => if p j = c then g c else 0) (k := p j) n (h1 j hj) (fun c _ hc => if_neg (fun q => hc q.symm))
    rw [this]
    exact (if_pos rfl).symm
  rw [e1, sumR_swap]
  refine sumR_cg n (fun c hc => ?_)
  obtain ⟨i, hi, e⟩ := fb_onto h1 h2 hc
  have := sumR_one (f := fun j => if p j = c then g c else 0) (k := i) n hi (fun j hj hne => if_neg (fun q => by
    rcases Nat.lt_or_gt_of_ne hne with r | r
    · exact h2 j i r hi (q.trans e.symm)
    · exact h2 i j r hj (e.trans q.symm)))
  rw [this]
  exact if_pos e
/-! which cell a cell's water goes to is lower -/
theorem lowr_lt (ht : Int → Int) (c best to : Int) (h : best = -9 ∨ ht best < ht c) : lowr ht c best to = -9 ∨ ht (lowr ht c best to) < ht c := by
  unfold lowr
  split
  · exact Or.inr (by omega)
  · exact h
theorem dnH_lt (ht : Int → Int) (c : Int) : dnH ht c = -9 ∨ ht (dnH ht c) < ht c := by
  have a1 : dn1 ht c = -9 ∨ ht (dn1 ht c) < ht c := by
    unfold dn1
    split
    · exact Or.inl rfl
    · exact lowr_lt ht c _ _ (Or.inl rfl)
  have a2 : dn2 ht c = -9 ∨ ht (dn2 ht c) < ht c := by
    unfold dn2
    split
    · exact a1
    · exact lowr_lt ht c _ _ a1
  have a3 : dn3 ht c = -9 ∨ ht (dn3 ht c) < ht c := by
    unfold dn3
    split
    · exact a2
    · exact lowr_lt ht c _ _ a2
  unfold dnH
  split
  · exact a3
  · exact lowr_lt ht c _ _ a3
/-- an order of the cells from high to low -/
def ordH (ht pi : Int → Int) : Prop := (∀ i : Int, 0 ≤ i → i < 144 → 0 ≤ pi i ∧ pi i < 144) ∧ (∀ i j : Int, 0 ≤ i → i < j → j < 144 → pi i ≠ pi j) ∧ (∀ i j : Int, 0 ≤ i → i < j → j < 144 → ht (pi j) ≤ ht (pi i))
theorem ordH_onto {ht pi : Int → Int} (h : ordH ht pi) {c : Int} (hc : 0 ≤ c ∧ c < 144) : ∃ j : Nat, j < 144 ∧ pi j = c := by
  obtain ⟨h1, h2, -⟩ := h
  obtain ⟨i, hi, e⟩ := fb_onto (n := 144) (f := fun j => (pi j).toNat) (fun j hj => by
    have := h1 j (by omega) (by omega)
    try dsimp only
    omega) (fun i j hij hj => by
    have a := h1 i (by omega) (by omega)
    have b := h1 j (by omega) (by omega)
    have c := h2 i j (by omega) (by omega) (by omega)
    try dsimp only
    omega) (y := c.toNat) (by omega)
  have := h1 i (by omega) (by omega)
  try dsimp only at e
  exact ⟨i, hi, by omega⟩
theorem ordH_sum {ht pi : Int → Int} (h : ordH ht pi) (g : Int → Int) : sumR (fun j => g (pi j)) 144 = sumR (fun j => g j) 144 := by
  obtain ⟨h1, h2, -⟩ := h
  have e := sumR_perm (n := 144) (p := fun j => (pi j).toNat) (g := fun j => g j) (fun j hj => by
    have := h1 j (by omega) (by omega)
    try dsimp only
    omega) (fun i j hij hj => by
    have a := h1 i (by omega) (by omega)
    have b := h1 j (by omega) (by omega)
    have c := h2 i j (by omega) (by omega) (by omega)
    try dsimp only
    omega)
  rw [← e]
  refine sumR_cg 144 (fun j hj => ?_)
  have := h1 j (by omega) (by omega)
  show g (pi j) = g ((pi j).toNat : Int)
  rw [show ((pi j).toNat : Int) = pi j by omega]
def pR (ht D pi : Int → Int) (rain : Int) : Nat → Int → Int
  | 0 => fun _ => rain
  | i + 1 => if D (pi i) = 0 ∧ 0 ≤ dnH ht (pi i) then fupd (pR ht D pi rain i) (dnH ht (pi i)) (pR ht D pi rain i (dnH ht (pi i)) + pR ht D pi rain i (pi i)) else pR ht D pi rain i
def isWtr (ht D : Int → Int) (rain : Int) (w : Int → Int) : Prop := ∀ c : Int, 0 ≤ c → c < 144 → w c = rain + sumR (fun j => if D j = 0 ∧ dnH ht j = c then w j else 0) 144
section
variable {ht D pi : Int → Int} {rain : Int}
theorem pR_t {i : Nat} (h : D (pi i) = 0 ∧ 0 ≤ dnH ht (pi i)) : pR ht D pi rain (i + 1) = fupd (pR ht D pi rain i) (dnH ht (pi i)) (pR ht D pi rain i (dnH ht (pi i)) + pR ht D pi rain i (pi i)) := if_pos h
theorem pR_f {i : Nat} (h : ¬ (D (pi i) = 0 ∧ 0 ≤ dnH ht (pi i))) : pR ht D pi rain (i + 1) = pR ht D pi rain i := if_neg h
theorem pR_st {j : Nat} (h : ordH ht pi) (hj : j < 144) : ∀ d : Nat, j + d ≤ 144 → pR ht D pi rain (j + d) (pi j) = pR ht D pi rain j (pi j)
  | 0, _ => rfl
  | d + 1, hd => by
    have i := pR_st h hj d (by omega)
    rw [← i]
    by_cases c : D (pi ((j + d : Nat) : Int)) = 0 ∧ 0 ≤ dnH ht (pi ((j + d : Nat) : Int))
    · rw [show j + (d + 1) = (j + d) + 1 by omega, pR_t c]
      have lt := dnH_lt ht (pi ((j + d : Nat) : Int))
      have : dnH ht (pi ((j + d : Nat) : Int)) ≠ pi j := by
        intro e
        rw [e] at lt c
        by_cases d0 : d = 0
        · rw [d0, Nat.add_zero] at lt
          omega
        · have := h.2.2 j ((j + d : Nat) : Int) (by omega) (by omega) (by omega)
          omega
      exact if_neg (fun q => this q.symm)
    · rw [show j + (d + 1) = (j + d) + 1 by omega, pR_f c]
theorem pR_sum (c : Int) (hc : 0 ≤ c) : ∀ i : Nat, pR ht D pi rain i c = rain + sumR (fun j => if D (pi j) = 0 ∧ dnH ht (pi j) = c then pR ht D pi rain j (pi j) else 0) i
  | 0 => by
    show rain = rain + 0
    omega
  | i + 1 => by
    have ih := pR_sum c hc i
    rw [sumR_s]
    by_cases q : D (pi i) = 0 ∧ 0 ≤ dnH ht (pi i)
    · rw [pR_t q]
      by_cases e : dnH ht (pi i) = c
      · rw [if_pos ⟨q.1, e⟩, e]
        have : fupd (pR ht D pi rain i) c (pR ht D pi rain i c + pR ht D pi rain i (pi i)) c = pR ht D pi rain i c + pR ht D pi rain i (pi i) := if_pos rfl
        rw [this]
        omega
      · rw [if_neg (fun r => e r.2)]
        have : fupd (pR ht D pi rain i) (dnH ht (pi i)) (pR ht D pi rain i (dnH ht (pi i)) + pR ht D pi rain i (pi i)) c = pR ht D pi rain i c := if_neg (fun r => e r.symm)
        rw [this]
        omega
    · rw [pR_f q, if_neg (fun r => q ⟨r.1, by omega⟩)]
      omega
theorem pR_w (h : ordH ht pi) : isWtr ht D rain (pR ht D pi rain 144) := by
  intro c h0 h1
  rw [pR_sum c h0 144, ← ordH_sum h (fun j => if D j = 0 ∧ dnH ht j = c then pR ht D pi rain 144 j else 0)]
  have key : ∀ a b : Int, a = b → rain + a = rain + b := fun a b e => by rw [e]
  refine key _ _ (sumR_cg 144 (fun j hj => ?_))
  have e := pR_st (D := D) (rain := rain) h hj (144 - j) (by omega)
  rw [show j + (144 - j) = 144 by omega] at e
  rw [e]
/-- all that is still to go down together is no more than fell -/
theorem pR_b (h : ordH ht pi) (hr : 0 ≤ rain) : ∀ i : Nat, i ≤ 144 → (∀ c, 0 ≤ pR ht D pi rain i c) ∧ sumR (fun j => if i ≤ j then pR ht D pi rain i (pi j) else 0) 144 ≤ 144 * rain
  | 0, _ => by
    refine ⟨fun _ => hr, ?_⟩
    have : (fun j : Nat => if 0 ≤ j then pR ht D pi rain 0 (pi j) else 0) = fun _ => rain := by
      funext j
      exact if_pos (Nat.zero_le _)
    rw [this, sumR_k]
    omega
  | i + 1, hi => by
    obtain ⟨a, b⟩ := pR_b h hr i (by omega)
    have e1 : sumR (fun j => if i + 1 ≤ j then pR ht D pi rain i (pi j) else 0) 144 = sumR (fun j => if i ≤ j then pR ht D pi rain i (pi j) else 0) 144 + (0 - pR ht D pi rain i (pi i)) := by
      have := sumR_up (f := fun j => if i + 1 ≤ j then pR ht D pi rain i (pi j) else 0) (g := fun j => if i ≤ j then pR ht D pi rain i (pi j) else 0) (k := i) 144 (by omega) (fun j _ hj => by
        try dsimp only
        by_cases q : i + 1 ≤ j
        · rw [if_pos q, if_pos (by omega)]
        · rw [if_neg q, if_neg (by omega)])
      rw [this]
      try dsimp only
      rw [if_neg (by omega), if_pos (Nat.le_refl _)]
    have p := a (pi i)
    by_cases q : D (pi i) = 0 ∧ 0 ≤ dnH ht (pi i)
    · rw [pR_t q]
      have lt := dnH_lt ht (pi i)
      have r := dnH_r ht (h.1 i (by omega) (by omega))
      refine ⟨fun c => ?_, ?_⟩
      · unfold fupd
        split
        · have := a (dnH ht (pi i)); omega
        · exact a c
      · obtain ⟨k, hk, ek⟩ := ordH_onto h (c := dnH ht (pi i)) (by omega)
        have ki : i < k := by
          rcases Nat.lt_or_ge i k with z | z
          · exact z
          · exfalso
            by_cases w : k = i
            · rw [w] at ek
              rw [← ek] at lt
              omega
            · have := h.2.2 k i (by omega) (by omega) (by omega)
              rw [ek] at this
              omega
        have := sumR_up (f := fun j => if i + 1 ≤ j then fupd (pR ht D pi rain i) (dnH ht (pi i)) (pR ht D pi rain i (dnH ht (pi i)) + pR ht D pi rain i (pi i)) (pi j) else 0) (g := fun j => if i + 1 ≤ j then pR ht D pi rain i (pi j) else 0) (k := k) 144 hk (fun j hj hne => by
          try dsimp only
          by_cases z : i + 1 ≤ j
          · rw [if_pos z, if_pos z]
            refine if_neg (fun w => ?_)
            rcases Nat.lt_or_gt_of_ne hne with s | s
            · exact h.2.1 j k (by omega) (by omega) (by omega) (w.trans ek.symm)
            · exact h.2.1 k j (by omega) (by omega) (by omega) (ek.trans w.symm)
          · rw [if_neg z, if_neg z])
        rw [this, e1]
        try dsimp only
        rw [if_pos (by omega), if_pos (by omega)]
        have e2 : fupd (pR ht D pi rain i) (dnH ht (pi i)) (pR ht D pi rain i (dnH ht (pi i)) + pR ht D pi rain i (pi i)) (pi k) = pR ht D pi rain i (dnH ht (pi i)) + pR ht D pi rain i (pi i) := if_pos ek
        rw [e2, ek]
        omega
    · rw [pR_f q]
      exact ⟨a, by rw [e1]; omega⟩
theorem pR_2 (h : ordH ht pi) (hr : 0 ≤ rain) {i : Nat} (hi : i < 144) (hd : 0 ≤ dnH ht (pi i)) : 0 ≤ pR ht D pi rain i (dnH ht (pi i)) ∧ 0 ≤ pR ht D pi rain i (pi i) ∧ pR ht D pi rain i (dnH ht (pi i)) + pR ht D pi rain i (pi i) ≤ 144 * rain := by
  obtain ⟨a, b⟩ := pR_b (D := D) h hr i (by omega)
  have lt := dnH_lt ht (pi i)
  have r := dnH_r ht (h.1 i (by omega) (by omega))
  obtain ⟨k, hk, ek⟩ := ordH_onto h (c := dnH ht (pi i)) (by omega)
  have ki : i < k := by
    rcases Nat.lt_or_ge i k with z | z
    · exact z
    · exfalso
      by_cases w : k = i
      · rw [w] at ek
        rw [← ek] at lt
        omega
      · have := h.2.2 k i (by omega) (by omega) (by omega)
        rw [ek] at this
        omega
  have := sumR_le2 (f := fun j => if i ≤ j then pR ht D pi rain i (pi j) else 0) (k := k) (l := i) 144 hk hi (by omega) (fun j hj => by
    try dsimp only
    split
    · exact a _
    · exact Int.le_refl _)
  try dsimp only at this
  rw [if_pos (by omega), if_pos (Nat.le_refl _), ek] at this
  exact ⟨a _, a _, by omega⟩
end
/-- water is what it is, and no more with more drains -/
theorem wtr_le {ht D D2 : Int → Int} {rain : Int} {v w : Int → Int} (hh : ∀ c : Int, 0 ≤ c → c < 144 → 0 ≤ ht c ∧ ht c ≤ 99) (hv : isWtr ht D rain v) (hw : isWtr ht D2 rain w) (hw0 : ∀ c : Int, 0 ≤ c → c < 144 → 0 ≤ w c) (hD : ∀ c : Int, 0 ≤ c → c < 144 → D c = 0 → D2 c = 0) : ∀ m : Nat, ∀ c : Int, 0 ≤ c → c < 144 → 100 - ht c ≤ m → v c ≤ w c
  | 0, c, h0, h1, hm => by
    have := hh c h0 h1
    omega
  | m + 1, c, h0, h1, hm => by
    rw [hv c h0 h1, hw c h0 h1]
    have : sumR (fun j => if D j = 0 ∧ dnH ht j = c then v j else 0) 144 ≤ sumR (fun j => if D2 j = 0 ∧ dnH ht j = c then w j else 0) 144 := by
      refine sumR_mono 144 (fun j hj => ?_)
      try dsimp only
      by_cases q : D j = 0 ∧ dnH ht j = c
      · have lt := dnH_lt ht j
        rw [if_pos q, if_pos ⟨hD j (by omega) (by omega) q.1, q.2⟩]
        exact wtr_le hh hv hw hw0 hD m j (by omega) (by omega) (by rw [q.2] at lt; omega)
      · rw [if_neg q]
        split
        · exact hw0 _ (by omega) (by omega)
        · exact Int.le_refl _
    omega
theorem wtr_un {ht D : Int → Int} {rain : Int} {v w : Int → Int} (hh : ∀ c : Int, 0 ≤ c → c < 144 → 0 ≤ ht c ∧ ht c ≤ 99) (hv : isWtr ht D rain v) (hw : isWtr ht D rain w) (hv0 : ∀ c : Int, 0 ≤ c → c < 144 → 0 ≤ v c) (hw0 : ∀ c : Int, 0 ≤ c → c < 144 → 0 ≤ w c) {c : Int} (hc : 0 ≤ c ∧ c < 144) : v c = w c := by
  have q := hh c hc.1 hc.2
  have a := wtr_le hh hv hw hw0 (fun _ _ _ e => e) 100 c hc.1 hc.2 (by omega)
  have b := wtr_le hh hw hv hv0 (fun _ _ _ e => e) 100 c hc.1 hc.2 (by omega)
  omega
