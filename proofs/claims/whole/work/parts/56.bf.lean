/-! fire: the quickest ways -/
section
variable {n : Nat} {nx : Int → Int → Int} {wt : Int → Int}
def rlx (nx : Int → Int → Int) (wt : Int → Int) (u d : Int) (p : (Int → Int) × Int) : (Int → Int) × Int := if 0 ≤ nx u d ∧ p.1 u + wt d < p.1 (nx u d) then (fupd p.1 (nx u d) (p.1 u + wt d), 1) else p
def sidR (nx : Int → Int → Int) (wt : Int → Int) (u : Int) : Nat → (Int → Int) × Int → (Int → Int) × Int
  | 0, p => p
  | d + 1, p => rlx nx wt u d (sidR nx wt u d p)
def rndR (nx : Int → Int → Int) (wt : Int → Int) : Nat → (Int → Int) × Int → (Int → Int) × Int
  | 0, p => p
  | u + 1, p => sidR nx wt u 4 (rndR nx wt u p)
/-- lower, and if so then marked -/
def ltP (n : Nat) (p q : (Int → Int) × Int) : Prop := (∀ v : Int, q.1 v ≤ p.1 v) ∧ ((q = p) ∨ (q.2 = 1 ∧ ∃ v : Int, 0 ≤ v ∧ v < n ∧ q.1 v < p.1 v))
theorem ltP.rf (p : (Int → Int) × Int) : ltP n p p := ⟨fun _ => Int.le_refl _, Or.inl rfl⟩
theorem ltP.tr {p q r : (Int → Int) × Int} (h : ltP n p q) (g : ltP n q r) : ltP n p r := by
  refine ⟨fun v => Int.le_trans (g.1 v) (h.1 v), ?_⟩
  rcases g.2 with g2 | ⟨g2, v, v0, v1, v2⟩
  · rw [g2]; exact h.2
  · refine Or.inr ⟨g2, v, v0, v1, ?_⟩
    have := h.1 v
    omega
theorem rlx_lt (hnx : ∀ u d : Int, 0 ≤ u → u < n → 0 ≤ d → d < 4 → nx u d = -9 ∨ (0 ≤ nx u d ∧ nx u d < n)) {u d : Int} (hu : 0 ≤ u ∧ u < n) (hd : 0 ≤ d ∧ d < 4) (p : (Int → Int) × Int) : ltP n p (rlx nx wt u d p) := by
  unfold rlx
  by_cases c : 0 ≤ nx u d ∧ p.1 u + wt d < p.1 (nx u d)
  · have r := hnx u d hu.1 hu.2 hd.1 hd.2
    rw [if_pos c]
    refine ⟨fun v => ?_, Or.inr ⟨rfl, nx u d, c.1, by omega, ?_⟩⟩
    · show fupd p.1 (nx u d) (p.1 u + wt d) v ≤ p.1 v
      unfold fupd
      by_cases e : v = nx u d
      · rw [if_pos e, e]; omega
      · rw [if_neg e]; exact Int.le_refl _
    · show fupd p.1 (nx u d) (p.1 u + wt d) (nx u d) < _
      unfold fupd
      rw [if_pos rfl]
      exact c.2
  · rw [if_neg c]
    exact ltP.rf p
theorem sidR_lt (hnx : ∀ u d : Int, 0 ≤ u → u < n → 0 ≤ d → d < 4 → nx u d = -9 ∨ (0 ≤ nx u d ∧ nx u d < n)) {u : Int} (hu : 0 ≤ u ∧ u < n) : ∀ (d : Nat), d ≤ 4 → ∀ p : (Int → Int) × Int, ltP n p (sidR nx wt u d p)
  | 0, _, p => ltP.rf p
  | d + 1, hd, p => (sidR_lt hnx hu d (by omega) p).tr (rlx_lt hnx hu (by omega) _)
theorem rndR_lt (hnx : ∀ u d : Int, 0 ≤ u → u < n → 0 ≤ d → d < 4 → nx u d = -9 ∨ (0 ≤ nx u d ∧ nx u d < n)) : ∀ (u : Nat), u ≤ n → ∀ p : (Int → Int) × Int, ltP n p (rndR nx wt u p)
  | 0, _, p => ltP.rf p
  | u + 1, hu, p => (rndR_lt hnx u (by omega) p).tr (sidR_lt hnx (by omega) 4 (Nat.le_refl _) _)
/-- behind a step a way over it is no better -/
theorem rlx_up (p : (Int → Int) × Int) {u d : Int} (h : 0 ≤ nx u d) : (rlx nx wt u d p).1 (nx u d) ≤ p.1 u + wt d := by
  unfold rlx
  by_cases c : 0 ≤ nx u d ∧ p.1 u + wt d < p.1 (nx u d)
  · rw [if_pos c]
    show fupd p.1 (nx u d) (p.1 u + wt d) (nx u d) ≤ _
    unfold fupd
    rw [if_pos rfl]
    exact Int.le_refl _
  · rw [if_neg c]
    omega
theorem rndR_up (hnx : ∀ u d : Int, 0 ≤ u → u < n → 0 ≤ d → d < 4 → nx u d = -9 ∨ (0 ≤ nx u d ∧ nx u d < n)) (p : (Int → Int) × Int) {u d : Nat} (hu : u < n) (hd : d < 4) (h : 0 ≤ nx u d) : (rndR nx wt n p).1 (nx u d) ≤ p.1 u + wt d := by
  have s1 : (sidR nx wt u (d + 1) (rndR nx wt u p)).1 (nx u d) ≤ p.1 u + wt d := by
    have a := rlx_up (nx := nx) (wt := wt) (sidR nx wt u d (rndR nx wt u p)) (u := u) (d := d) h
    have b := (sidR_lt (wt := wt) hnx (u := (u : Int)) (by omega) d (by omega) (rndR nx wt u p)).1 u
    have c := (rndR_lt (wt := wt) hnx u (by omega) p).1 u
    have e : sidR nx wt u (d + 1) (rndR nx wt u p) = rlx nx wt u d (sidR nx wt u d (rndR nx wt u p)) := rfl
    rw [e]
    omega
  have mono1 : ∀ k : Nat, d + 1 + k ≤ 4 → (sidR nx wt u (d + 1 + k) (rndR nx wt u p)).1 (nx u d) ≤ p.1 u + wt d := by
    intro k
    induction k with
    | zero => intro _; exact s1
    | succ k ih =>
      intro hk
      have i := ih (by omega)
      have e : sidR nx wt u (d + 1 + (k + 1)) (rndR nx wt u p) = rlx nx wt u ((d + 1 + k : Nat) : Int) (sidR nx wt u (d + 1 + k) (rndR nx wt u p)) := rfl
      rw [e]
      have := (rlx_lt (wt := wt) hnx (u := (u : Int)) (d := ((d + 1 + k : Nat) : Int)) (by omega) (by omega) (sidR nx wt u (d + 1 + k) (rndR nx wt u p))).1 (nx u d)
      omega
  have s2 : (rndR nx wt (u + 1) p).1 (nx u d) ≤ p.1 u + wt d := by
    have := mono1 (3 - d) (by omega)
    rw [show d + 1 + (3 - d) = 4 by omega] at this
    exact this
  have mono2 : ∀ k : Nat, u + 1 + k ≤ n → (rndR nx wt (u + 1 + k) p).1 (nx u d) ≤ p.1 u + wt d := by
    intro k
    induction k with
    | zero => intro _; exact s2
    | succ k ih =>
      intro hk
      have i := ih (by omega)
      have e : rndR nx wt (u + 1 + (k + 1)) p = sidR nx wt ((u + 1 + k : Nat) : Int) 4 (rndR nx wt (u + 1 + k) p) := rfl
      rw [e]
      have := (sidR_lt (wt := wt) hnx (u := ((u + 1 + k : Nat) : Int)) (by omega) 4 (Nat.le_refl _) (rndR nx wt (u + 1 + k) p)).1 (nx u d)
      omega
  have := mono2 (n - (u + 1)) (by omega)
  rwa [show u + 1 + (n - (u + 1)) = n by omega] at this
/-- what is nowhere above a closed one stays so -/
def clsD (n : Nat) (nx : Int → Int → Int) (wt D : Int → Int) : Prop := ∀ u d : Int, 0 ≤ u → u < n → 0 ≤ d → d < 4 → 0 ≤ nx u d → D (nx u d) ≤ D u + wt d
def geD (n : Nat) (D : Int → Int) (p : (Int → Int) × Int) : Prop := ∀ v : Int, 0 ≤ v → v < n → D v ≤ p.1 v
theorem rlx_ge {D : Int → Int} (hD : clsD n nx wt D) {u d : Int} (hu : 0 ≤ u ∧ u < n) (hd : 0 ≤ d ∧ d < 4) {p : (Int → Int) × Int} (h : geD n D p) : geD n D (rlx nx wt u d p) := by
  unfold rlx
  by_cases c : 0 ≤ nx u d ∧ p.1 u + wt d < p.1 (nx u d)
  · rw [if_pos c]
    intro v v0 v1
    show D v ≤ fupd p.1 (nx u d) (p.1 u + wt d) v
    unfold fupd
    by_cases e : v = nx u d
    · rw [if_pos e, e]
      have := hD u d hu.1 hu.2 hd.1 hd.2 c.1
      have := h u hu.1 hu.2
      omega
    · rw [if_neg e]; exact h v v0 v1
  · rw [if_neg c]; exact h
theorem sidR_ge {D : Int → Int} (hD : clsD n nx wt D) {u : Int} (hu : 0 ≤ u ∧ u < n) {p : (Int → Int) × Int} (h : geD n D p) : ∀ d : Nat, d ≤ 4 → geD n D (sidR nx wt u d p)
  | 0, _ => h
  | d + 1, hd => rlx_ge hD hu (by omega) (sidR_ge hD hu h d (by omega))
theorem rndR_ge {D : Int → Int} (hD : clsD n nx wt D) {p : (Int → Int) × Int} (h : geD n D p) : ∀ u : Nat, u ≤ n → geD n D (rndR nx wt u p)
  | 0, _ => h
  | u + 1, hu => sidR_ge hD (by omega) (rndR_ge hD h u (by omega)) 4 (Nat.le_refl _)
/-! by so many steps at most -/
def jacS (nx : Int → Int → Int) (wt B : Int → Int) (u v : Int) : Nat → Int → Int
  | 0, x => x
  | d + 1, x => if nx u d = v ∧ B u + wt d < jacS nx wt B u v d x then B u + wt d else jacS nx wt B u v d x
def jacR (nx : Int → Int → Int) (wt B : Int → Int) (v : Int) : Nat → Int
  | 0 => B v
  | u + 1 => jacS nx wt B u v 4 (jacR nx wt B v u)
theorem jacS_p (B : Int → Int) (u v : Int) (x : Int) : ∀ d : Nat, (jacS nx wt B u v d x ≤ x) ∧ (∀ e : Nat, e < d → nx u e = v → jacS nx wt B u v d x ≤ B u + wt e) ∧ (jacS nx wt B u v d x = x ∨ ∃ e : Nat, e < d ∧ nx u e = v ∧ jacS nx wt B u v d x = B u + wt e)
  | 0 => ⟨Int.le_refl _, fun e h => by omega, Or.inl rfl⟩
  | d + 1 => by
    obtain ⟨a, b, c⟩ := jacS_p B u v x d
    have e : jacS nx wt B u v (d + 1) x = if nx u d = v ∧ B u + wt d < jacS nx wt B u v d x then B u + wt d else jacS nx wt B u v d x := rfl
    rw [e]
    by_cases q : nx u d = v ∧ B u + wt d < jacS nx wt B u v d x
    · rw [if_pos q]
      refine ⟨by omega, fun k hk ek => ?_, Or.inr ⟨d, by omega, q.1, rfl⟩⟩
      by_cases s : k = d
      · rw [s]; exact Int.le_refl _
      · have := b k (by omega) ek
        omega
    · rw [if_neg q]
      refine ⟨a, fun k hk ek => ?_, ?_⟩
      · by_cases s : k = d
        · rw [s] at ek ⊢
          apply Classical.byContradiction
          intro w
          exact q ⟨ek, by omega⟩
        · exact b k (by omega) ek
      · rcases c with c | ⟨k, k1, k2, k3⟩
        · exact Or.inl c
        · exact Or.inr ⟨k, by omega, k2, k3⟩
theorem jacR_p (B : Int → Int) (v : Int) : ∀ u : Nat, (jacR nx wt B v u ≤ B v) ∧ (∀ (w e : Nat), w < u → e < 4 → nx w e = v → jacR nx wt B v u ≤ B w + wt e) ∧ (jacR nx wt B v u = B v ∨ ∃ w e : Nat, w < u ∧ e < 4 ∧ nx w e = v ∧ jacR nx wt B v u = B w + wt e)
  | 0 => ⟨Int.le_refl _, fun w e h => by omega, Or.inl rfl⟩
  | u + 1 => by
    obtain ⟨a, b, c⟩ := jacR_p B v u
    obtain ⟨a2, b2, c2⟩ := jacS_p (nx := nx) (wt := wt) B u v (jacR nx wt B v u) 4
    have e : jacR nx wt B v (u + 1) = jacS nx wt B u v 4 (jacR nx wt B v u) := rfl
    rw [e]
    refine ⟨by omega, fun w k hw hk ek => ?_, ?_⟩
    · by_cases s : w = u
      · rw [s] at ek ⊢
        exact b2 k hk ek
      · have := b w k (by omega) hk ek
        omega
    · rcases c2 with c2 | ⟨k, k1, k2, k3⟩
      · rw [c2]
        rcases c with c | ⟨w, k, w1, w2, w3, w4⟩
        · exact Or.inl c
        · exact Or.inr ⟨w, k, by omega, w2, w3, w4⟩
      · exact Or.inr ⟨u, k, by omega, k1, k2, k3⟩
def BJ (nx : Int → Int → Int) (wt : Int → Int) (n : Nat) (B0 : Int → Int) : Nat → Int → Int
  | 0 => B0
  | k + 1 => fun v => jacR nx wt (BJ nx wt n B0 k) v n
theorem BJ_p (B0 : Int → Int) (k : Nat) (v : Int) : (BJ nx wt n B0 (k + 1) v ≤ BJ nx wt n B0 k v) ∧ (∀ (w e : Nat), w < n → e < 4 → nx w e = v → BJ nx wt n B0 (k + 1) v ≤ BJ nx wt n B0 k w + wt e) ∧ (BJ nx wt n B0 (k + 1) v = BJ nx wt n B0 k v ∨ ∃ w e : Nat, w < n ∧ e < 4 ∧ nx w e = v ∧ BJ nx wt n B0 (k + 1) v = BJ nx wt n B0 k w + wt e) := jacR_p (BJ nx wt n B0 k) v n
theorem BJ_mono (B0 : Int → Int) (v : Int) : ∀ j k : Nat, k ≤ j → BJ nx wt n B0 j v ≤ BJ nx wt n B0 k v
  | 0, k, h => by
    obtain rfl : k = 0 := by omega
    exact Int.le_refl _
  | j + 1, k, h => by
    by_cases e : k = j + 1
    · rw [e]; exact Int.le_refl _
    · have i := BJ_mono B0 v j k (by omega)
      have := (BJ_p (nx := nx) (wt := wt) (n := n) B0 j v).1
      omega
theorem BJ_ch (hw : ∀ d : Nat, d < 4 → 1 ≤ wt d) (B0 : Int → Int) : ∀ (k : Nat) (v : Nat), v < n → BJ nx wt n B0 (k + 1) v < BJ nx wt n B0 k v → ∃ f : Nat → Nat, f (k + 1) = v ∧ (∀ i, i ≤ k + 1 → f i < n) ∧ (∀ i, i ≤ k → BJ nx wt n B0 i (f i) < BJ nx wt n B0 (i + 1) (f (i + 1)))
  | 0, v, hv, h => by
    obtain ⟨-, -, c⟩ := BJ_p (nx := nx) (wt := wt) (n := n) B0 0 v
    rcases c with c | ⟨w, e, w1, w2, w3, w4⟩
    · omega
    · have := hw e w2
      refine ⟨fun i => if i = 0 then w else v, rfl, fun i _ => ?_, fun i hi => ?_⟩
      · show (if i = 0 then w else v) < n
        split <;> omega
      · obtain rfl : i = 0 := by omega
        show BJ nx wt n B0 0 w < BJ nx wt n B0 (0 + 1) v
        omega
  | k + 1, v, hv, h => by
    obtain ⟨-, -, c⟩ := BJ_p (nx := nx) (wt := wt) (n := n) B0 (k + 1) v
    rcases c with c | ⟨w, e, w1, w2, w3, w4⟩
    · omega
    · have hp := hw e w2
      have b := (BJ_p (nx := nx) (wt := wt) (n := n) B0 k v).2.1 w e w1 w2 w3
      obtain ⟨f, f1, f2, f3⟩ := BJ_ch hw B0 k w w1 (by omega)
      refine ⟨fun i => if i = k + 2 then v else f i, if_pos rfl, fun i hi => ?_, fun i hi => ?_⟩
      · show (if i = k + 2 then v else f i) < n
        split
        · exact hv
        · exact f2 i (by omega)
      · by_cases q : i = k + 1
        · subst q
          show BJ nx wt n B0 (k + 1) ((if k + 1 = k + 2 then v else f (k + 1) : Nat) : Int) < BJ nx wt n B0 (k + 1 + 1) ((if k + 1 + 1 = k + 2 then v else f (k + 1 + 1) : Nat) : Int)
          rw [if_neg (by omega), if_pos (by omega), f1]
          omega
        · show BJ nx wt n B0 i ((if i = k + 2 then v else f i : Nat) : Int) < BJ nx wt n B0 (i + 1) ((if i + 1 = k + 2 then v else f (i + 1) : Nat) : Int)
          rw [if_neg (by omega), if_neg (by omega)]
          exact f3 i (by omega)
/-- after as many steps as there are houses nothing more comes -/
theorem BJ_end (hw : ∀ d : Nat, d < 4 → 1 ≤ wt d) (B0 : Int → Int) {v : Nat} (hv : v < n) : BJ nx wt n B0 (n + 1) v = BJ nx wt n B0 n v := by
  have a := (BJ_p (nx := nx) (wt := wt) (n := n) B0 n v).1
  apply Classical.byContradiction
  intro h
  obtain ⟨f, -, f2, f3⟩ := BJ_ch (nx := nx) (n := n) hw B0 n v hv (by omega)
  have inc : ∀ i j : Nat, i ≤ j → j ≤ n + 1 → BJ nx wt n B0 i (f i) ≤ BJ nx wt n B0 j (f j) := by
    intro i j
    induction j with
    | zero =>
      intro h1 _
      obtain rfl : i = 0 := by omega
      exact Int.le_refl _
    | succ j ih =>
      intro h1 h2
      by_cases e : i = j + 1
      · rw [e]; exact Int.le_refl _
      · have := ih (by omega) (by omega)
        have := f3 j (by omega)
        omega
  have q := fb_holes n (n + 2) f (fun i hi => f2 i (by omega)) (fun i j hij hj e => by
    have m := BJ_mono (nx := nx) (wt := wt) (n := n) B0 (f i) j i (by omega)
    have s := inc (i + 1) j (by omega) (by omega)
    have t := f3 i (by omega)
    rw [← e] at s
    omega)
  omega
theorem BJ_cls (hw : ∀ d : Nat, d < 4 → 1 ≤ wt d) (hnx : ∀ u d : Int, 0 ≤ u → u < n → 0 ≤ d → d < 4 → nx u d = -9 ∨ (0 ≤ nx u d ∧ nx u d < n)) (B0 : Int → Int) : clsD n nx wt (BJ nx wt n B0 n) := by
  intro u d u0 u1 d0 d1 h
  have r := hnx u d u0 u1 d0 d1
  have e := BJ_end (nx := nx) (n := n) hw B0 (v := (nx u d).toNat) (by omega)
  rw [show (((nx u d).toNat : Nat) : Int) = nx u d by omega] at e
  rw [← e]
  have := (BJ_p (nx := nx) (wt := wt) (n := n) B0 n (nx u d)).2.1 u.toNat d.toNat (by omega) (by omega) (by rw [show ((u.toNat : Nat) : Int) = u by omega, show ((d.toNat : Nat) : Int) = d by omega])
  rwa [show ((u.toNat : Nat) : Int) = u by omega, show ((d.toNat : Nat) : Int) = d by omega] at this
/-- the labels after r rounds -/
def LR (nx : Int → Int → Int) (wt : Int → Int) (n : Nat) (B0 : Int → Int) : Nat → Int → Int
  | 0 => B0
  | r + 1 => (rndR nx wt n (LR nx wt n B0 r, 0)).1
theorem LR_up (hnx : ∀ u d : Int, 0 ≤ u → u < n → 0 ≤ d → d < 4 → nx u d = -9 ∨ (0 ≤ nx u d ∧ nx u d < n)) (B0 : Int → Int) : ∀ (r : Nat) (v : Int), 0 ≤ v → v < n → LR nx wt n B0 r v ≤ BJ nx wt n B0 r v
  | 0, v, _, _ => Int.le_refl _
  | r + 1, v, v0, v1 => by
    have ih := LR_up hnx B0 r
    have e : LR nx wt n B0 (r + 1) = (rndR nx wt n (LR nx wt n B0 r, 0)).1 := rfl
    have m := (rndR_lt (wt := wt) hnx n (Nat.le_refl _) (LR nx wt n B0 r, 0)).1 v
    rw [e]
    obtain ⟨-, -, c⟩ := BJ_p (nx := nx) (wt := wt) (n := n) B0 r v
    rcases c with c | ⟨w, d, w1, w2, w3, w4⟩
    · rw [c]
      have := ih v v0 v1
      exact Int.le_trans m this
    · rw [w4]
      have := rndR_up (wt := wt) hnx (LR nx wt n B0 r, 0) (u := w) (d := d) w1 w2 (by omega)
      rw [w3] at this
      have q := ih w (by omega) (by omega)
      exact Int.le_trans this (by show LR nx wt n B0 r w + wt d ≤ _; omega)
theorem LR_ge {D : Int → Int} (hD : clsD n nx wt D) {B0 : Int → Int} (h : ∀ v : Int, 0 ≤ v → v < n → D v ≤ B0 v) : ∀ (r : Nat) (v : Int), 0 ≤ v → v < n → D v ≤ LR nx wt n B0 r v
  | 0, v, v0, v1 => h v v0 v1
  | r + 1, v, v0, v1 => rndR_ge hD (p := (LR nx wt n B0 r, 0)) (LR_ge hD h r) n (Nat.le_refl _) v v0 v1
/-- after as many rounds as there are houses all is settled -/
theorem LR_end (hw : ∀ d : Nat, d < 4 → 1 ≤ wt d) (hnx : ∀ u d : Int, 0 ≤ u → u < n → 0 ≤ d → d < 4 → nx u d = -9 ∨ (0 ≤ nx u d ∧ nx u d < n)) (B0 : Int → Int) : ∀ v : Int, 0 ≤ v → v < n → LR nx wt n B0 n v = BJ nx wt n B0 n v := by
  intro v v0 v1
  have a := LR_up (wt := wt) hnx B0 n v v0 v1
  have b := LR_ge (BJ_cls hw hnx B0) (B0 := B0) (fun x _ _ => BJ_mono (nx := nx) (wt := wt) (n := n) B0 x n 0 (Nat.zero_le _)) n v v0 v1
  omega
/-- a round that marks nothing changes nothing -/
theorem rnd_0 (hnx : ∀ u d : Int, 0 ≤ u → u < n → 0 ≤ d → d < 4 → nx u d = -9 ∨ (0 ≤ nx u d ∧ nx u d < n)) {L : Int → Int} (h : (rndR nx wt n (L, 0)).2 = 0) : (rndR nx wt n (L, 0)).1 = L := by
  have := rndR_lt (wt := wt) hnx n (Nat.le_refl _) (L, 0)
  rcases this.2 with q | q
  · rw [q]
  · omega
theorem rnd_fl (hnx : ∀ u d : Int, 0 ≤ u → u < n → 0 ≤ d → d < 4 → nx u d = -9 ∨ (0 ≤ nx u d ∧ nx u d < n)) {L : Int → Int} : (rndR nx wt n (L, 0)).2 = 0 ∨ ((rndR nx wt n (L, 0)).2 = 1 ∧ ∃ v : Int, 0 ≤ v ∧ v < n ∧ (rndR nx wt n (L, 0)).1 v < L v) := by
  have := rndR_lt (wt := wt) hnx n (Nat.le_refl _) (L, 0)
  rcases this.2 with q | q
  · rw [q]; exact Or.inl rfl
  · exact Or.inr q
/-- what a round leaves is settled -/
theorem LR_fix (hnx : ∀ u d : Int, 0 ≤ u → u < n → 0 ≤ d → d < 4 → nx u d = -9 ∨ (0 ≤ nx u d ∧ nx u d < n)) (B0 : Int → Int) {r : Nat} (h : (rndR nx wt n (LR nx wt n B0 r, 0)).2 = 0) : ∀ k : Nat, LR nx wt n B0 (r + k) = LR nx wt n B0 r
  | 0 => rfl
  | k + 1 => by
    have i := LR_fix hnx B0 h k
    have e : LR nx wt n B0 (r + (k + 1)) = (rndR nx wt n (LR nx wt n B0 (r + k), 0)).1 := rfl
    rw [e, i]
    exact rnd_0 hnx h
/-- the round behind the last of them marks nothing -/
theorem LR_stop (hw : ∀ d : Nat, d < 4 → 1 ≤ wt d) (hnx : ∀ u d : Int, 0 ≤ u → u < n → 0 ≤ d → d < 4 → nx u d = -9 ∨ (0 ≤ nx u d ∧ nx u d < n)) (B0 : Int → Int) : (rndR nx wt n (LR nx wt n B0 n, 0)).2 = 0 := by
  rcases rnd_fl (wt := wt) (L := LR nx wt n B0 n) hnx with q | ⟨q, v, v0, v1, v2⟩
  · exact q
  · have a := LR_end hw hnx B0 v v0 v1
    have b := LR_ge (BJ_cls hw hnx B0) (B0 := B0) (fun x _ _ => BJ_mono (nx := nx) (wt := wt) (n := n) B0 x n 0 (Nat.zero_le _)) (n + 1) v v0 v1
    have e : LR nx wt n B0 (n + 1) = (rndR nx wt n (LR nx wt n B0 n, 0)).1 := rfl
    rw [e] at b
    omega
end
