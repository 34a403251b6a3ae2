/-! rules for functional programs over whole numbers -/
def YP {α : Type} (o : Option (α × ZI)) (P : α → ZI → Prop) : Prop := ∃ a z, o = some (a, z) ∧ P a z
theorem YP_some {α : Type} {a : α} {z : ZI} {P : α → ZI → Prop} (p : P a z) : YP (some (a, z)) P := ⟨a, z, rfl, p⟩
theorem YP_gd {α : Type} {c : Prop} {o : Option (α × ZI)} {P : α → ZI → Prop} (h : c) (p : YP o P) : YP (Zgd c o) P := by rw [Zgd_t h]; exact p
theorem YP_l {α β : Type} {e : β} {k : β → Option (α × ZI)} {P : α → ZI → Prop} (p : YP (k e) P) : YP (Zl e k) P := p
theorem YP_call {α β : Type} {x : Option (β × ZI)} {k : β → ZI → Option (α × ZI)} {Q : β → ZI → Prop} {P : α → ZI → Prop} (h : YP x Q) (p : ∀ a z, Q a z → YP (k a z) P) : YP (Yb x k) P := by
  obtain ⟨a, z, e, q⟩ := h
  rw [e]
  exact p a z q
theorem YP_eq {α β : Type} {x : Option (β × ZI)} {a : β} {z : ZI} {k : β → ZI → Option (α × ZI)} {P : α → ZI → Prop} (h : x = some (a, z)) (p : YP (k a z) P) : YP (Yb x k) P := by rw [h]; exact p
theorem YP_ite {α : Type} {c : Prop} [Decidable c] {a b : Option (α × ZI)} {P : α → ZI → Prop} (h1 : c → YP a P) (h2 : ¬ c → YP b P) : YP (if c then a else b) P := by
  by_cases h : c
  · rw [if_pos h]; exact h1 h
  · rw [if_neg h]; exact h2 h
theorem YP_t {α : Type} {c : Prop} [Decidable c] {a b : Option (α × ZI)} {P : α → ZI → Prop} (h : c) (h1 : YP a P) : YP (if c then a else b) P := by rw [if_pos h]; exact h1
theorem YP_f {α : Type} {c : Prop} [Decidable c] {a b : Option (α × ZI)} {P : α → ZI → Prop} (h : ¬ c) (h1 : YP b P) : YP (if c then a else b) P := by rw [if_neg h]; exact h1
theorem YP_mono {α : Type} {o : Option (α × ZI)} {P Q : α → ZI → Prop} (h : YP o P) (hq : ∀ a z, P a z → Q a z) : YP o Q := by
  obtain ⟨a, z, e, p⟩ := h
  exact ⟨a, z, e, hq a z p⟩
theorem YP_is {α : Type} {o : Option (α × ZI)} {v : α} {z : ZI} (h : YP o (fun a z' => a = v ∧ z' = z)) : o = some (v, z) := by
  obtain ⟨a, z', e, rfl, rfl⟩ := h
  exact e
theorem YP_of {α : Type} {o : Option (α × ZI)} {v : α} {z : ZI} {P : α → ZI → Prop} (h : o = some (v, z)) (p : P v z) : YP o P := ⟨v, z, h, p⟩
theorem Yb_some {α β : Type} (a : α) (z : ZI) (k : α → ZI → Option β) : Yb (some (a, z)) k = k a z := rfl
theorem Zl_eq {α β : Type} (e : α) (k : α → β) : Zl e k = k e := rfl
def bi (c : Prop) [Decidable c] : Int := if c then 1 else 0
theorem bi_0 {c : Prop} [Decidable c] : bi c = 0 ↔ ¬ c := by unfold bi; split <;> simp [*]
theorem bi_1 {c : Prop} [Decidable c] : bi c = 1 ↔ c := by unfold bi; split <;> simp [*]
theorem bi_t {c : Prop} [Decidable c] (h : c) : bi c = 1 := if_pos h
theorem bi_f {c : Prop} [Decidable c] (h : ¬ c) : bi c = 0 := if_neg h
theorem bi_c {c d : Prop} [Decidable c] [Decidable d] (h : c ↔ d) : bi c = bi d := by unfold bi; split <;> split <;> simp_all
theorem Zup_k {z : ZI} {k k' : Nat} {i v : Int} (h : k' ≠ k) : Zup z k i v k' = z k' := by
  funext j
  exact if_neg (fun h2 => h h2.1)
theorem Zup_i {z : ZI} {k : Nat} {i i' v : Int} (h : i' ≠ i) : Zup z k i v k i' = z k i' := if_neg (fun h2 => h h2.2)
theorem Zup_s {z : ZI} {k : Nat} {i v : Int} : Zup z k i v k i = v := if_pos ⟨rfl, rfl⟩
theorem Zup_ki {z : ZI} {k : Nat} {i i' v : Int} : Zup z k i v k i' = if i' = i then v else z k i' := by
  by_cases h : i' = i
  · subst h; rw [Zup_s, if_pos rfl]
  · rw [Zup_i h, if_neg h]
/-- counting -/
def cntR (p : Nat → Prop) [DecidablePred p] : Nat → Int
  | 0 => 0
  | n + 1 => cntR p n + if p n then 1 else 0
theorem cntR_nn (p : Nat → Prop) [DecidablePred p] : ∀ n, 0 ≤ cntR p n ∧ cntR p n ≤ n
  | 0 => ⟨Int.le_refl _, Int.le_refl _⟩
  | n + 1 => by
    have h := cntR_nn p n
    unfold cntR
    split <;> omega
theorem Zfuel_S : ∃ f, Zfuel = f + 1 := ⟨999999, rfl⟩
theorem Zgd_T {β : Type} (a : Option β) : Zgd True a = a := Zgd_t trivial
theorem Zgd_i {β : Type} (c : Prop) [Decidable c] (a : Option β) : Zgd c a = if c then a else none := by
  by_cases h : c
  · rw [Zgd_t h, if_pos h]
  · rw [Zgd_f h, if_neg h]
