/-! leave: the list by points -/
def shf (A : Int → Int) (j m : Int) : Int → Int := fun i => if j < i ∧ i ≤ m then A (i - 1) else A i
theorem shf_m (A : Int → Int) (m : Int) : shf A m m = A := by
  funext i
  unfold shf
  rw [if_neg (by omega)]
theorem shf_j {A : Int → Int} {j m : Int} : shf A j m j = A j := if_neg (by omega)
theorem shf_b {A : Int → Int} {j m : Int} : shf A (j + 1) m j = A j := if_neg (by omega)
theorem shf_s {A : Int → Int} {j m : Int} (h : j + 1 ≤ m) : fupd (shf A (j + 1) m) (j + 1) (A j) = shf A j m := by
  funext i
  unfold fupd shf
  by_cases c : i = j + 1
  · rw [if_pos c, if_pos (by omega), c, show j + 1 - 1 = j by omega]
  · rw [if_neg c]
    by_cases c2 : j + 1 < i ∧ i ≤ m
    · rw [if_pos c2, if_pos (by omega)]
    · rw [if_neg c2, if_neg (by omega)]
def insF (A : Int → Int) (p q m : Int) : Int → Int := fun i => if i = q then p else if q < i ∧ i ≤ m then A (i - 1) else A i
theorem insF_e (A : Int → Int) (p q m : Int) : fupd (shf A q m) q p = insF A p q m := rfl
/-- where one of v points comes, behind all that have as many -/
def posR (B : Int → Int) (v : Int) : Nat → Nat
  | 0 => 0
  | m + 1 => if B m < v then posR B v m else m + 1
theorem posR_le (B : Int → Int) (v : Int) : ∀ m, posR B v m ≤ m
  | 0 => Nat.le_refl _
  | m + 1 => by
    have := posR_le B v m
    unfold posR
    split <;> omega
theorem posR_c {B C : Int → Int} (v : Int) : ∀ m : Nat, (∀ i : Int, 0 ≤ i → i < m → B i = C i) → posR B v m = posR C v m
  | 0, _ => rfl
  | m + 1, h => by
    have i := posR_c v m (fun i h1 h2 => h i h1 (by omega))
    have q := h m (by omega) (by omega)
    unfold posR
    rw [i, q]
def lsR (ln : Int → Int) (st pt : Int → Int → Int) (d : Int) (A0 B0 : Int → Int) : Nat → Nat × (Int → Int) × (Int → Int)
  | 0 => (0, A0, B0)
  | k + 1 => if st (ln k) d = 0 ∨ st (ln k) d = 2 then ((lsR ln st pt d A0 B0 k).1 + 1, insF (lsR ln st pt d A0 B0 k).2.1 (ln k) (posR (lsR ln st pt d A0 B0 k).2.2 (pt (ln k) d) (lsR ln st pt d A0 B0 k).1) (lsR ln st pt d A0 B0 k).1, insF (lsR ln st pt d A0 B0 k).2.2 (pt (ln k) d) (posR (lsR ln st pt d A0 B0 k).2.2 (pt (ln k) d) (lsR ln st pt d A0 B0 k).1) (lsR ln st pt d A0 B0 k).1) else lsR ln st pt d A0 B0 k
section
variable {ln : Int → Int} {st pt : Int → Int → Int} {d : Int}
theorem lsR_t {A0 B0 : Int → Int} {k : Nat} (h : st (ln k) d = 0 ∨ st (ln k) d = 2) : lsR ln st pt d A0 B0 (k + 1) = ((lsR ln st pt d A0 B0 k).1 + 1, insF (lsR ln st pt d A0 B0 k).2.1 (ln k) (posR (lsR ln st pt d A0 B0 k).2.2 (pt (ln k) d) (lsR ln st pt d A0 B0 k).1) (lsR ln st pt d A0 B0 k).1, insF (lsR ln st pt d A0 B0 k).2.2 (pt (ln k) d) (posR (lsR ln st pt d A0 B0 k).2.2 (pt (ln k) d) (lsR ln st pt d A0 B0 k).1) (lsR ln st pt d A0 B0 k).1) := if_pos h
theorem lsR_f {A0 B0 : Int → Int} {k : Nat} (h : ¬ (st (ln k) d = 0 ∨ st (ln k) d = 2)) : lsR ln st pt d A0 B0 (k + 1) = lsR ln st pt d A0 B0 k := if_neg h
theorem lsR_le {A0 B0 : Int → Int} : ∀ k : Nat, (lsR ln st pt d A0 B0 k).1 ≤ k
  | 0 => Nat.le_refl _
  | k + 1 => by
    have i := lsR_le (A0 := A0) (B0 := B0) k
    by_cases h : st (ln k) d = 0 ∨ st (ln k) d = 2
    · rw [lsR_t h]
      show (lsR ln st pt d A0 B0 k).1 + 1 ≤ k + 1
      omega
    · rw [lsR_f h]
      omega
/-- what lay there before has no say -/
theorem lsR_c {A0 B0 A1 B1 : Int → Int} : ∀ k : Nat, (lsR ln st pt d A0 B0 k).1 = (lsR ln st pt d A1 B1 k).1 ∧ ∀ i : Int, 0 ≤ i → i < (lsR ln st pt d A0 B0 k).1 → (lsR ln st pt d A0 B0 k).2.1 i = (lsR ln st pt d A1 B1 k).2.1 i ∧ (lsR ln st pt d A0 B0 k).2.2 i = (lsR ln st pt d A1 B1 k).2.2 i
  | 0 => ⟨rfl, fun i h1 h2 => by
    have h2 : i < ((0 : Nat) : Int) := h2
    omega⟩
  | k + 1 => by
    obtain ⟨j1, j2⟩ := lsR_c (A0 := A0) (B0 := B0) (A1 := A1) (B1 := B1) k
    by_cases h : st (ln k) d = 0 ∨ st (ln k) d = 2
    · rw [lsR_t h, lsR_t h]
      generalize lsR ln st pt d A0 B0 k = R at *
      generalize lsR ln st pt d A1 B1 k = S at *
      dsimp only
      have e : posR R.2.2 (pt (ln k) d) R.1 = posR S.2.2 (pt (ln k) d) S.1 := by
        rw [← j1]
        exact posR_c _ _ (fun i h1 h2 => (j2 i h1 h2).2)
      have le := posR_le R.2.2 (pt (ln k) d) R.1
      rw [← e, ← j1]
      refine ⟨rfl, fun i h1 h2 => ?_⟩
      unfold insF
      by_cases c : i = posR R.2.2 (pt (ln k) d) R.1
      · rw [if_pos c, if_pos c, if_pos c, if_pos c]; exact ⟨rfl, rfl⟩
      · rw [if_neg c, if_neg c, if_neg c, if_neg c]
        by_cases c2 : (posR R.2.2 (pt (ln k) d) R.1 : Int) < i ∧ i ≤ R.1
        · rw [if_pos c2, if_pos c2, if_pos c2, if_pos c2]
          exact j2 (i - 1) (by omega) (by omega)
        · rw [if_neg c2, if_neg c2, if_neg c2, if_neg c2]
          exact j2 i h1 (by omega)
    · rw [lsR_f h, lsR_f h]
      exact ⟨j1, j2⟩
/-- each of the list stands in the line and is here; none twice -/
theorem lsR_in {A0 B0 : Int → Int} : ∀ k : Nat, ∀ i : Int, 0 ≤ i → i < (lsR ln st pt d A0 B0 k).1 → ∃ j : Nat, j < k ∧ (lsR ln st pt d A0 B0 k).2.1 i = ln j ∧ (st (ln j) d = 0 ∨ st (ln j) d = 2)
  | 0 => fun i h1 h2 => by
    have h2 : i < ((0 : Nat) : Int) := h2
    omega
  | k + 1 => by
    have ih := lsR_in (A0 := A0) (B0 := B0) k
    by_cases h : st (ln k) d = 0 ∨ st (ln k) d = 2
    · rw [lsR_t h]
      generalize lsR ln st pt d A0 B0 k = R at *
      dsimp only
      have le := posR_le R.2.2 (pt (ln k) d) R.1
      intro i h1 h2
      unfold insF
      by_cases c : i = posR R.2.2 (pt (ln k) d) R.1
      · rw [if_pos c]
        exact ⟨k, by omega, rfl, h⟩
      · rw [if_neg c]
        by_cases c2 : (posR R.2.2 (pt (ln k) d) R.1 : Int) < i ∧ i ≤ R.1
        · rw [if_pos c2]
          obtain ⟨j, q1, q2⟩ := ih (i - 1) (by omega) (by omega)
          exact ⟨j, by omega, q2⟩
        · rw [if_neg c2]
          obtain ⟨j, q1, q2⟩ := ih i h1 (by omega)
          exact ⟨j, by omega, q2⟩
    · rw [lsR_f h]
      intro i h1 h2
      obtain ⟨j, q1, q2⟩ := ih i h1 h2
      exact ⟨j, by omega, q2⟩
theorem lsR_inj {A0 B0 : Int → Int} {N : Nat} (hd : ∀ k l : Int, 0 ≤ k → k < N → 0 ≤ l → l < N → ln k = ln l → k = l) : ∀ k : Nat, k ≤ N → ∀ i j : Int, 0 ≤ i → i < (lsR ln st pt d A0 B0 k).1 → 0 ≤ j → j < (lsR ln st pt d A0 B0 k).1 → (lsR ln st pt d A0 B0 k).2.1 i = (lsR ln st pt d A0 B0 k).2.1 j → i = j
  | 0, _ => fun i j h1 h2 h3 h4 e => by
    have h2 : i < ((0 : Nat) : Int) := h2
    omega
  | k + 1, hk => by
    have ih := lsR_inj (A0 := A0) (B0 := B0) hd k (by omega)
    have hin := lsR_in (ln := ln) (st := st) (pt := pt) (d := d) (A0 := A0) (B0 := B0) k
    by_cases h : st (ln k) d = 0 ∨ st (ln k) d = 2
    · rw [lsR_t h]
      generalize lsR ln st pt d A0 B0 k = R at *
      dsimp only
      have le := posR_le R.2.2 (pt (ln k) d) R.1
      have no : ∀ i : Int, 0 ≤ i → i < R.1 → R.2.1 i ≠ ln k := by
        intro i h1 h2 e
        obtain ⟨j, q1, q2, -⟩ := hin i h1 h2
        have := hd j k (by omega) (by omega) (by omega) (by omega) (q2.symm.trans e)
        omega
      intro i j h1 h2 h3 h4
      unfold insF
      by_cases c : i = posR R.2.2 (pt (ln k) d) R.1
      · by_cases g : j = posR R.2.2 (pt (ln k) d) R.1
        · intro _; omega
        · rw [if_pos c, if_neg g]
          by_cases g2 : (posR R.2.2 (pt (ln k) d) R.1 : Int) < j ∧ j ≤ R.1
          · rw [if_pos g2]
            intro e
            exact absurd e.symm (no (j - 1) (by omega) (by omega))
          · rw [if_neg g2]
            intro e
            exact absurd e.symm (no j (by omega) (by omega))
      · rw [if_neg c]
        by_cases c2 : (posR R.2.2 (pt (ln k) d) R.1 : Int) < i ∧ i ≤ R.1
        · rw [if_pos c2]
          by_cases g : j = posR R.2.2 (pt (ln k) d) R.1
          · rw [if_pos g]
            intro e
            exact absurd e (no (i - 1) (by omega) (by omega))
          · rw [if_neg g]
            by_cases g2 : (posR R.2.2 (pt (ln k) d) R.1 : Int) < j ∧ j ≤ R.1
            · rw [if_pos g2]
              intro e
              have := ih (i - 1) (j - 1) (by omega) (by omega) (by omega) (by omega) e
              omega
            · rw [if_neg g2]
              intro e
              have := ih (i - 1) j (by omega) (by omega) (by omega) (by omega) e
              omega
        · rw [if_neg c2]
          by_cases g : j = posR R.2.2 (pt (ln k) d) R.1
          · rw [if_pos g]
            intro e
            exact absurd e (no i (by omega) (by omega))
          · rw [if_neg g]
            by_cases g2 : (posR R.2.2 (pt (ln k) d) R.1 : Int) < j ∧ j ≤ R.1
            · rw [if_pos g2]
              intro e
              have := ih i (j - 1) (by omega) (by omega) (by omega) (by omega) e
              omega
            · rw [if_neg g2]
              intro e
              exact ih i j (by omega) (by omega) (by omega) (by omega) e
    · rw [lsR_f h]
      exact ih
end
def Ztwo (z : ZI) (a b : Nat) (A B : Int → Int) : ZI := fun k i => if k = a then A i else if k = b then B i else z k i
theorem Ztwo_a (z : ZI) (a b : Nat) (A B : Int → Int) : Ztwo z a b A B a = A := funext fun _ => if_pos rfl
theorem Ztwo_b {z : ZI} {a b : Nat} {A B : Int → Int} (h : b ≠ a) : Ztwo z a b A B b = B := funext fun _ => (if_neg h).trans (if_pos rfl)
theorem Ztwo_k {z : ZI} {a b k : Nat} {A B : Int → Int} (h : k ≠ a) (h2 : k ≠ b) : Ztwo z a b A B k = z k := funext fun _ => (if_neg h).trans (if_neg h2)
theorem Ztwo_ua (z : ZI) (a b : Nat) (A B : Int → Int) (i v : Int) : Zup (Ztwo z a b A B) a i v = Ztwo z a b (fupd A i v) B := by
  funext k j
  unfold Zup Ztwo fupd
  by_cases h : k = a
  · by_cases h2 : j = i
    · rw [if_pos ⟨h, h2⟩, if_pos h, if_pos h2]
    · rw [if_neg (fun q => h2 q.2), if_pos h, if_pos h, if_neg h2]
  · rw [if_neg (fun q => h q.1), if_neg h, if_neg h]
theorem Ztwo_ub {z : ZI} {a b : Nat} {A B : Int → Int} {i v : Int} (hab : b ≠ a) : Zup (Ztwo z a b A B) b i v = Ztwo z a b A (fupd B i v) := by
  funext k j
  unfold Zup Ztwo fupd
  by_cases h : k = b
  · by_cases h2 : j = i
    · rw [if_pos ⟨h, h2⟩, if_neg (by omega), if_pos h, if_pos h2]
    · rw [if_neg (fun q => h2 q.2), if_neg (by omega), if_pos h, if_neg (by omega), if_pos h, if_neg h2]
  · rw [if_neg (fun q => h q.1)]
    by_cases h3 : k = a
    · rw [if_pos h3, if_pos h3]
    · rw [if_neg h3, if_neg h, if_neg h3, if_neg h]
theorem Ztwo_z (z : ZI) (a b : Nat) : Ztwo z a b (z a) (z b) = z := by
  funext k i
  unfold Ztwo
  by_cases h : k = a
  · rw [if_pos h, h]
  · rw [if_neg h]
    by_cases h2 : k = b
    · rw [if_pos h2, h2]
    · rw [if_neg h2]
theorem x_place1_L {z : ZI} {p v : Int} {A B : Int → Int} {m : Nat} (hm : m < 60) (hn : z 59 2 = m) : ∀ (j fu : Nat), j ≤ m → j < fu → X5_place_L5 fu (Ztwo z 61 62 (shf A j m) (shf B j m)) p v j = some ((), Zup (Ztwo z 61 62 (insF A p (posR B v j) m) (insF B v (posR B v j) m)) 59 2 (m + 1)) := by
  have e59 : ∀ A' B' : Int → Int, (Ztwo z 61 62 A' B') 59 2 = m := fun _ _ => hn
  have stop : ∀ (j fu : Nat), j ≤ m → X5_place_b55 (Ztwo z 61 62 (shf A j m) (shf B j m)) p v j = some ((), Zup (Ztwo z 61 62 (insF A p j m) (insF B v j m)) 59 2 (m + 1)) := by
    intro j fu hj
    unfold X5_place_b55
    rw [Zgd_t (by omega), Zl_eq, Ztwo_ua, Zgd_t (by omega), Zl_eq, Ztwo_ub (by decide), e59, Zgd_t (by omega), Zl_eq, insF_e, insF_e]
  intro j
  induction j with
  | zero =>
    intro fu hj hf
    obtain ⟨fu, rfl⟩ : ∃ g, fu = g + 1 := ⟨fu - 1, by omega⟩
    have e := stop 0 fu hj
    show X5_place_L5b (X5_place_L5 fu) _ p v _ = _
    unfold X5_place_L5b
    rw [if_pos (by omega)]
    exact e
  | succ j ih =>
    intro fu hj hf
    obtain ⟨fu, rfl⟩ : ∃ g, fu = g + 1 := ⟨fu - 1, by omega⟩
    have e := stop (j + 1) fu hj
    have i := ih fu (by omega) (by omega)
    have u : posR B v (j + 1) = if B j < v then posR B v j else j + 1 := rfl
    have c1 : ((j + 1 : Nat) : Int) = (j : Int) + 1 := by omega
    show X5_place_L5b (X5_place_L5 fu) _ p v _ = _
    unfold X5_place_L5b
    rw [u]
    rw [c1] at e ⊢
    rw [if_neg (by omega), Zgd_t (by omega), show (j : Int) + 1 - 1 = j by omega, Zgd_t (by omega), Ztwo_b (by decide), shf_b]
    by_cases c : B j < v
    · rw [if_neg (by omega), if_pos c, Zgd_t (by omega), Zgd_t (by omega), Zgd_t (by omega), Ztwo_a, shf_b, Zl_eq, Ztwo_ua, Zgd_t (by omega), Zgd_t (by omega), Zgd_t (by omega), Ztwo_b (by decide), shf_b, Zl_eq, Ztwo_ub (by decide), Zgd_t (by omega), shf_s (by omega), shf_s (by omega), show (j : Int) + 1 + -1 = j by omega]
      exact i
    · rw [if_pos (by omega), if_neg c, e, c1]
theorem x_place1 {z : ZI} {p v : Int} {m : Nat} (hm : m < 60) (hn : z 59 2 = m) : F_X5_place z p v = some ((), Zup (Ztwo z 61 62 (insF (z 61) p (posR (z 62) v m) m) (insF (z 62) v (posR (z 62) v m) m)) 59 2 (m + 1)) := by
  have e := x_place1_L (p := p) (v := v) (A := z 61) (B := z 62) hm hn m Zfuel (Nat.le_refl _) (by unfold Zfuel; omega)
  rw [shf_m, shf_m, Ztwo_z] at e
  unfold F_X5_place
  rw [hn]
  exact e
theorem m_ins_L {k4 : ZI → Int → Int → Int → Option (Int × ZI)} {z : ZI} {d v x3 : Int} {A B : Int → Int} {m : Nat} (hm : m < 60) (hx : 0 ≤ x3 ∧ x3 < 60) : ∀ (j fu : Nat), j ≤ m → j < fu → X11_findList_L45 k4 fu (Ztwo z 123 124 (shf A j m) (shf B j m)) d m x3 v j = X11_findList_b127 k4 (Ztwo z 123 124 (insF A (z 122 x3) (posR B v j) m) (insF B v (posR B v j) m)) d (m + 1) x3 := by
  have stop : ∀ (j fu : Nat), j ≤ m → X11_findList_b102 k4 (Ztwo z 123 124 (shf A j m) (shf B j m)) d m x3 v j = X11_findList_b127 k4 (Ztwo z 123 124 (insF A (z 122 x3) j m) (insF B v j m)) d (m + 1) x3 := by
    intro j fu hj
    unfold X11_findList_b102
    rw [Zgd_t (by omega), Zl_eq, Ztwo_ub (by decide), Zgd_t (by omega), Zgd_t (by omega), Ztwo_k (k := 122) (by decide) (by decide), Zl_eq, Ztwo_ua, Zgd_t (by omega), insF_e, insF_e]
  intro j
  induction j with
  | zero =>
    intro fu hj hf
    obtain ⟨fu, rfl⟩ : ∃ g, fu = g + 1 := ⟨fu - 1, by omega⟩
    have e := stop 0 fu hj
    show X11_findList_L45b k4 (X11_findList_L45 k4 fu) _ d _ x3 v _ = _
    unfold X11_findList_L45b
    rw [if_pos (by omega)]
    exact e
  | succ j ih =>
    intro fu hj hf
    obtain ⟨fu, rfl⟩ : ∃ g, fu = g + 1 := ⟨fu - 1, by omega⟩
    have e := stop (j + 1) fu hj
    have i := ih fu (by omega) (by omega)
    have u : posR B v (j + 1) = if B j < v then posR B v j else j + 1 := rfl
    have c1 : ((j + 1 : Nat) : Int) = (j : Int) + 1 := by omega
    show X11_findList_L45b k4 (X11_findList_L45 k4 fu) _ d _ x3 v _ = _
    unfold X11_findList_L45b
    rw [u]
    rw [c1] at e ⊢
    rw [if_neg (by omega), Zgd_t (by omega), show (j : Int) + 1 - 1 = j by omega, Zgd_t (by omega), Ztwo_b (by decide), shf_b]
    by_cases c : B j < v
    · rw [if_neg (by omega), if_pos c, Zgd_t (by omega), Zgd_t (by omega), Zgd_t (by omega), Zl_eq, Ztwo_ub (by decide), Zgd_t (by omega), Zgd_t (by omega), Zgd_t (by omega), Ztwo_a, shf_b, Zl_eq, Ztwo_ua, Zgd_t (by omega), shf_s (by omega), shf_s (by omega), show (j : Int) + 1 + -1 = j by omega]
      exact i
    · rw [if_pos (by omega), if_neg c, e, c1]
