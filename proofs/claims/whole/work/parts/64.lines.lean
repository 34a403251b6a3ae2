/-! wells: lines as lists -/
def nth : List Int → Nat → Int
  | [], _ => 0
  | x :: _, 0 => x
  | _ :: l, n + 1 => nth l n
def distL (l : List Int) : Prop := ∀ i j : Nat, i < j → j < l.length → nth l i ≠ nth l j
theorem nth_app (p : List Int) (h : Int) (t : List Int) : nth (p ++ h :: t) p.length = h := by
  induction p with
  | nil => rfl
  | cons x p ih => exact ih
theorem nth_mem {l : List Int} {h : Int} : h ∈ l ↔ ∃ j : Nat, j < l.length ∧ nth l j = h := by
  induction l with
  | nil =>
    constructor
    · intro e; exact absurd e (by simp)
    · rintro ⟨j, j1, -⟩
      exact absurd j1 (by simp)
  | cons x l ih =>
    rw [List.mem_cons, ih]
    constructor
    · rintro (e | ⟨j, j1, j2⟩)
      · exact ⟨0, by rw [List.length_cons]; omega, e.symm⟩
      · exact ⟨j + 1, by rw [List.length_cons]; omega, j2⟩
    · rintro ⟨j, j1, j2⟩
      rw [List.length_cons] at j1
      cases j with
      | zero => exact Or.inl j2.symm
      | succ j => exact Or.inr ⟨j, by omega, j2⟩
theorem distL_c {h : Int} {t : List Int} (d : distL (h :: t)) : h ∉ t ∧ distL t := by
  refine ⟨fun e => ?_, fun i j hij hj => d (i + 1) (j + 1) (by omega) (by rw [List.length_cons]; omega)⟩
  obtain ⟨j, j1, j2⟩ := nth_mem.mp e
  exact d 0 (j + 1) (by omega) (by rw [List.length_cons]; omega) j2.symm
def lsm (f : Int → Int) : List Int → Int
  | [] => 0
  | h :: t => f h + lsm f t
theorem lsm_cg {f g : Int → Int} : ∀ {l : List Int}, (∀ h ∈ l, f h = g h) → lsm f l = lsm g l
  | [], _ => rfl
  | h :: t, e => by
    have a := e h List.mem_cons_self
    have b := lsm_cg (l := t) (fun x hx => e x (List.mem_cons_of_mem _ hx))
    show f h + lsm f t = g h + lsm g t
    rw [a, b]
theorem lsm_nn {f : Int → Int} (hf : ∀ h, 0 ≤ f h) : ∀ l : List Int, 0 ≤ lsm f l
  | [] => Int.le_refl _
  | h :: t => by
    have := lsm_nn hf t
    have := hf h
    show 0 ≤ f h + lsm f t
    omega
theorem lsm_0 {f : Int → Int} (hf : ∀ h, 0 ≤ f h) : ∀ {l : List Int}, lsm f l ≤ 0 → ∀ h ∈ l, f h = 0
  | [], _ => fun h e => absurd e (by simp)
  | x :: t, e => by
    have e : f x + lsm f t ≤ 0 := e
    have a := lsm_nn hf t
    have b := hf x
    intro h hh
    rcases List.mem_cons.mp hh with q | q
    · rw [q]; omega
    · exact lsm_0 hf (by omega) h q
section
variable {bl bg : Int → Int} {hr : Int}
theorem hourR_skip {h : Int} {t : List Int} {now : Int} {lk sv : Int → Int} (c : hr < bg (bl h) ∨ lk h = 0) : hourR bl bg hr (h :: t) now lk sv = hourR bl bg hr t now lk sv := if_pos c
theorem hourR_brk {h : Int} {t : List Int} {now : Int} {lk sv : Int → Int} (c : ¬ (hr < bg (bl h) ∨ lk h = 0)) (c2 : now < lk h) : hourR bl bg hr (h :: t) now lk sv = (0, fupd lk h (lk h - now), sv) := (if_neg c).trans (if_pos c2)
theorem hourR_srv {h : Int} {t : List Int} {now : Int} {lk sv : Int → Int} (c : ¬ (hr < bg (bl h) ∨ lk h = 0)) (c2 : ¬ now < lk h) : hourR bl bg hr (h :: t) now lk sv = hourR bl bg hr t (now - lk h) (fupd lk h 0) (fupd sv h hr) := (if_neg c).trans (if_neg c2)
theorem hourR_fr : ∀ (l : List Int) (now : Int) (lk sv : Int → Int) (x : Int), x ∉ l → (hourR bl bg hr l now lk sv).2.1 x = lk x ∧ (hourR bl bg hr l now lk sv).2.2 x = sv x
  | [], _, _, _, _, _ => ⟨rfl, rfl⟩
  | h :: t, now, lk, sv, x, hx => by
    have n1 : x ≠ h := fun e => hx (by rw [e]; exact List.mem_cons_self)
    have n2 : x ∉ t := fun e => hx (List.mem_cons_of_mem _ e)
    by_cases c : hr < bg (bl h) ∨ lk h = 0
    · rw [hourR_skip c]
      exact hourR_fr t now lk sv x n2
    · by_cases c2 : now < lk h
      · rw [hourR_brk c c2]
        exact ⟨if_neg n1, rfl⟩
      · rw [hourR_srv c c2]
        have i := hourR_fr t (now - lk h) (fupd lk h 0) (fupd sv h hr) x n2
        exact ⟨i.1.trans (if_neg n1), i.2.trans (if_neg n1)⟩
theorem hourR_b {M : Int} : ∀ (l : List Int) (now : Int) (lk sv : Int → Int), 0 ≤ now → (∀ h, 0 ≤ lk h ∧ lk h ≤ M) → 0 ≤ M → 0 ≤ (hourR bl bg hr l now lk sv).1 ∧ (hourR bl bg hr l now lk sv).1 ≤ now ∧ ∀ h, 0 ≤ (hourR bl bg hr l now lk sv).2.1 h ∧ (hourR bl bg hr l now lk sv).2.1 h ≤ M
  | [], now, lk, sv, h0, hb, _ => ⟨h0, Int.le_refl _, hb⟩
  | h :: t, now, lk, sv, h0, hb, hM => by
    by_cases c : hr < bg (bl h) ∨ lk h = 0
    · rw [hourR_skip c]
      exact hourR_b t now lk sv h0 hb hM
    · have bh := hb h
      by_cases c2 : now < lk h
      · rw [hourR_brk c c2]
        refine ⟨Int.le_refl _, h0, fun x => ?_⟩
        show 0 ≤ fupd lk h (lk h - now) x ∧ fupd lk h (lk h - now) x ≤ M
        unfold fupd
        have := hb x
        split <;> omega
      · rw [hourR_srv c c2]
        have i := hourR_b t (now - lk h) (fupd lk h 0) (fupd sv h hr) (by omega) (fun x => by
          unfold fupd
          have := hb x
          split <;> omega) hM
        exact ⟨i.1, by omega, i.2.2⟩
theorem hourR_0 : ∀ (l : List Int) (lk sv : Int → Int), (∀ h, 0 ≤ lk h) → hourR bl bg hr l 0 lk sv = (0, lk, sv)
  | [], _, _, _ => rfl
  | h :: t, lk, sv, hb => by
    by_cases c : hr < bg (bl h) ∨ lk h = 0
    · rw [hourR_skip c]
      exact hourR_0 t lk sv hb
    · have bh := hb h
      rw [hourR_brk c (by omega)]
      have : fupd lk h (lk h - 0) = lk := by
        funext x
        unfold fupd
        by_cases e : x = h
        · rw [if_pos e, e, Int.sub_zero]
        · rw [if_neg e]
      rw [this]
theorem hourR_sum : ∀ (l : List Int) (now : Int) (lk sv : Int → Int), distL l → lsm (hourR bl bg hr l now lk sv).2.1 l = lsm lk l - (now - (hourR bl bg hr l now lk sv).1)
  | [], now, lk, sv, _ => by
    show (0 : Int) = 0 - (now - now)
    omega
  | h :: t, now, lk, sv, d => by
    obtain ⟨d1, d2⟩ := distL_c d
    have u : ∀ f : Int → Int, lsm f (h :: t) = f h + lsm f t := fun _ => rfl
    by_cases c : hr < bg (bl h) ∨ lk h = 0
    · rw [hourR_skip c, u, u, hourR_sum t now lk sv d2, (hourR_fr t now lk sv h d1).1]
      omega
    · by_cases c2 : now < lk h
      · rw [hourR_brk c c2, u, u]
        have e1 : fupd lk h (lk h - now) h = lk h - now := if_pos rfl
        have e2 : lsm (fupd lk h (lk h - now)) t = lsm lk t := lsm_cg (fun x hx => if_neg (fun e => d1 (by rw [← e]; exact hx)))
        show fupd lk h (lk h - now) h + lsm (fupd lk h (lk h - now)) t = lk h + lsm lk t - (now - 0)
        omega
      · rw [hourR_srv c c2, u, u, hourR_sum t (now - lk h) (fupd lk h 0) (fupd sv h hr) d2, (hourR_fr t (now - lk h) (fupd lk h 0) (fupd sv h hr) h d1).1]
        have e1 : fupd lk h 0 h = 0 := if_pos rfl
        have e2 : lsm (fupd lk h 0) t = lsm lk t := lsm_cg (fun x hx => if_neg (fun e => d1 (by rw [← e]; exact hx)))
        omega
/-- how many lack something -/
def lackN (lk : Int → Int) (l : List Int) : Int := lsm (fun h => if lk h = 0 then 0 else 1) l
theorem hourR_nop : ∀ (l : List Int) (now : Int) (lk sv : Int → Int), (∀ h ∈ l, hr < bg (bl h) ∨ lk h = 0) → hourR bl bg hr l now lk sv = (now, lk, sv)
  | [], _, _, _, _ => rfl
  | h :: t, now, lk, sv, e => by
    rw [hourR_skip (e h List.mem_cons_self)]
    exact hourR_nop t now lk sv (fun x hx => e x (List.mem_cons_of_mem _ hx))
end
section
variable {bl bg : Int → Int} {yi : Int} {l : List Int}
theorem dayR_s (n : Nat) (left : Int) (lk sv : Int → Int) : dayR bl bg yi l (n + 1) left lk sv = dayR bl bg yi l n (left - (min left yi - (hourR bl bg (23 - n) l (min left yi) lk sv).1)) (hourR bl bg (23 - n) l (min left yi) lk sv).2.1 (hourR bl bg (23 - n) l (min left yi) lk sv).2.2 := rfl
theorem dayR_nop (hy : 0 ≤ yi) : ∀ (n : Nat) (left : Int) (lk sv : Int → Int), (∀ h, 0 ≤ lk h) → (left = 0 ∨ ∀ h ∈ l, lk h = 0) → dayR bl bg yi l n left lk sv = sv
  | 0, _, _, _, _, _ => rfl
  | n + 1, left, lk, sv, hb, h => by
    rw [dayR_s]
    rcases h with h | h
    · rw [h, show min 0 yi = 0 by omega, hourR_0 l lk sv hb]
      exact dayR_nop hy n _ lk sv hb (Or.inl (by show (0 : Int) - (0 - 0) = 0; omega))
    · rw [hourR_nop l (min left yi) lk sv (fun x hx => Or.inr (h x hx))]
      exact dayR_nop hy n _ lk sv hb (Or.inr h)
theorem dayR_skip {n : Nat} {left : Int} {lk sv : Int → Int} (h : ∀ x ∈ l, 23 - (n : Int) < bg (bl x)) : dayR bl bg yi l (n + 1) left lk sv = dayR bl bg yi l n left lk sv := by
  rw [dayR_s, hourR_nop l (min left yi) lk sv (fun x hx => Or.inl (h x hx))]
  show dayR bl bg yi l n (left - (min left yi - min left yi)) lk sv = _
  rw [show left - (min left yi - min left yi) = left by omega]
theorem dayR_skips {left : Int} {lk sv : Int → Int} (n : Nat) : ∀ k : Nat, (∀ x ∈ l, 24 - (n : Int) ≤ bg (bl x)) → dayR bl bg yi l (n + k) left lk sv = dayR bl bg yi l n left lk sv
  | 0, _ => rfl
  | k + 1, h => by
    rw [show n + (k + 1) = (n + k) + 1 by omega, dayR_skip (fun x hx => by
      have := h x hx
      omega)]
    exact dayR_skips n k h
end
/-- the lines: members, none twice -/
theorem lineR_mem (go nd : Int → Int) (w : Int) : ∀ (n : Nat) (h : Int), h ∈ lineR go nd w n ↔ (0 ≤ h ∧ h < n ∧ go h = w ∧ nd h ≠ 0)
  | 0, h => by
    constructor
    · intro e; exact absurd e (by simp [lineR])
    · intro e; omega
  | n + 1, h => by
    have i := lineR_mem go nd w n h
    unfold lineR
    by_cases c : go n = w ∧ nd n ≠ 0
    · rw [if_pos c, List.mem_append, i, List.mem_singleton]
      constructor
      · rintro (e | e)
        · exact ⟨e.1, by omega, e.2.2⟩
        · rw [e]; exact ⟨by omega, by omega, c⟩
      · rintro ⟨e1, e2, e3⟩
        by_cases q : h = n
        · exact Or.inr q
        · exact Or.inl ⟨e1, by omega, e3⟩
    · rw [if_neg c, i]
      constructor
      · rintro ⟨e1, e2, e3⟩; exact ⟨e1, by omega, e3⟩
      · rintro ⟨e1, e2, e3⟩
        by_cases q : h = n
        · rw [q] at e3; exact absurd e3 c
        · exact ⟨e1, by omega, e3⟩
theorem nth_l {p : List Int} (q : List Int) : ∀ {j : Nat}, j < p.length → nth (p ++ q) j = nth p j := by
  induction p with
  | nil => intro j hj; exact absurd hj (by simp)
  | cons x p ih =>
    intro j hj
    cases j with
    | zero => rfl
    | succ j => exact ih (by rw [List.length_cons] at hj; omega)
theorem distL_snoc {l : List Int} {x : Int} (d : distL l) (h : x ∉ l) : distL (l ++ [x]) := by
  intro i j hij hj
  rw [List.length_append, List.length_singleton] at hj
  by_cases c : j = l.length
  · rw [c, nth_app, nth_l [x] (by omega)]
    exact fun e => h (nth_mem.mpr ⟨i, by omega, e⟩)
  · rw [nth_l [x] (by omega), nth_l [x] (by omega)]
    exact d i j hij (by omega)
theorem lineR_d (go nd : Int → Int) (w : Int) : ∀ n : Nat, distL (lineR go nd w n)
  | 0 => fun i j hij hj => absurd hj (by simp [lineR])
  | n + 1 => by
    have i := lineR_d go nd w n
    unfold lineR
    by_cases c : go n = w ∧ nd n ≠ 0
    · rw [if_pos c]
      refine distL_snoc i (fun e => ?_)
      have := (lineR_mem go nd w n n).mp e
      omega
    · rw [if_neg c]; exact i
theorem lineR_len (go nd : Int → Int) (w : Int) : ∀ n : Nat, (lineR go nd w n).length ≤ n
  | 0 => Nat.le_refl _
  | n + 1 => by
    have i := lineR_len go nd w n
    unfold lineR
    by_cases c : go n = w ∧ nd n ≠ 0
    · rw [if_pos c, List.length_append, List.length_singleton]; omega
    · rw [if_neg c]; omega
