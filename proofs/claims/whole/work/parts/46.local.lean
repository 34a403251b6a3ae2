/-! the reference has no use of the class' cells -/
def mix (V z : ZI) : ZI := fun k i => if k < 68 then V k i else z k i
def mpV {α : Type} (V : ZI) (o : Option (α × ZI)) : Option (α × ZI) := o.map (fun r => (r.1, mix V r.2))
theorem loc_s {α : Type} (V : ZI) (a : α) (z : ZI) : some (a, mix V z) = mpV V (some (a, z)) := id rfl
theorem loc_g {α : Type} {V : ZI} {c : Prop} {o : Option (α × ZI)} : Zgd c (mpV V o) = mpV V (Zgd c o) := by
  by_cases h : c
  · rw [Zgd_t h, Zgd_t h]
  · rw [Zgd_f h, Zgd_f h]; rfl
theorem loc_i {α : Type} {V : ZI} {c : Prop} [Decidable c] {a b : Option (α × ZI)} : (if c then mpV V a else mpV V b) = mpV V (if c then a else b) := by
  by_cases h : c
  · rw [if_pos h, if_pos h]
  · rw [if_neg h, if_neg h]
theorem loc_y1 {α β : Type} {V : ZI} {o : Option (α × ZI)} {k : α → ZI → Option β} : Yb (mpV V o) k = Yb o (fun a z => k a (mix V z)) := by
  cases o <;> rfl
theorem loc_y2 {α β : Type} {V : ZI} {o : Option (α × ZI)} {g : α → ZI → Option (β × ZI)} : Yb o (fun a z => mpV V (g a z)) = mpV V (Yb o g) := by
  cases o <;> rfl
theorem loc_l1 {β : Type} {V z : ZI} {k : ZI → β} : Zl (mix V z) k = Zl z (fun y => k (mix V y)) := id rfl
theorem loc_l2 {α β : Type} {V : ZI} {e : α} {g : α → Option (β × ZI)} : Zl e (fun y => mpV V (g y)) = mpV V (Zl e g) := id rfl
theorem mix_up {V z : ZI} {k : Nat} {i v : Int} (h : 68 ≤ k) : Zup (mix V z) k i v = mix V (Zup z k i v) := by
  funext k' j
  unfold Zup mix
  by_cases c : k' < 68
  · rw [if_pos c, if_neg (by omega), if_pos c]
  · rw [if_neg c, if_neg c]
theorem mix_r87_1000 (V z : ZI) : mix V z (87 + 1000) = z (87 + 1000) := id rfl
theorem mix_u87_1000 (V z : ZI) (i v : Int) : Zup (mix V z) (87 + 1000) i v = mix V (Zup z (87 + 1000) i v) := mix_up (by decide)
theorem mix_r122 (V z : ZI) : mix V z 122 = z 122 := id rfl
theorem mix_u122 (V z : ZI) (i v : Int) : Zup (mix V z) 122 i v = mix V (Zup z 122 i v) := mix_up (by decide)
theorem mix_r123 (V z : ZI) : mix V z 123 = z 123 := id rfl
theorem mix_u123 (V z : ZI) (i v : Int) : Zup (mix V z) 123 i v = mix V (Zup z 123 i v) := mix_up (by decide)
theorem mix_r124 (V z : ZI) : mix V z 124 = z 124 := id rfl
theorem mix_u124 (V z : ZI) (i v : Int) : Zup (mix V z) 124 i v = mix V (Zup z 124 i v) := mix_up (by decide)
theorem mix_r68 (V z : ZI) : mix V z 68 = z 68 := id rfl
theorem mix_u68 (V z : ZI) (i v : Int) : Zup (mix V z) 68 i v = mix V (Zup z 68 i v) := mix_up (by decide)
theorem mix_r73 (V z : ZI) : mix V z 73 = z 73 := id rfl
theorem mix_u73 (V z : ZI) (i v : Int) : Zup (mix V z) 73 i v = mix V (Zup z 73 i v) := mix_up (by decide)
theorem mix_r74 (V z : ZI) : mix V z 74 = z 74 := id rfl
theorem mix_u74 (V z : ZI) (i v : Int) : Zup (mix V z) 74 i v = mix V (Zup z 74 i v) := mix_up (by decide)
theorem mix_r75 (V z : ZI) : mix V z 75 = z 75 := id rfl
theorem mix_u75 (V z : ZI) (i v : Int) : Zup (mix V z) 75 i v = mix V (Zup z 75 i v) := mix_up (by decide)
theorem mix_r76 (V z : ZI) : mix V z 76 = z 76 := id rfl
theorem mix_u76 (V z : ZI) (i v : Int) : Zup (mix V z) 76 i v = mix V (Zup z 76 i v) := mix_up (by decide)
theorem mix_r77 (V z : ZI) : mix V z 77 = z 77 := id rfl
theorem mix_u77 (V z : ZI) (i v : Int) : Zup (mix V z) 77 i v = mix V (Zup z 77 i v) := mix_up (by decide)
theorem mix_r78 (V z : ZI) : mix V z 78 = z 78 := id rfl
theorem mix_u78 (V z : ZI) (i v : Int) : Zup (mix V z) 78 i v = mix V (Zup z 78 i v) := mix_up (by decide)
theorem mix_r79 (V z : ZI) : mix V z 79 = z 79 := id rfl
theorem mix_u79 (V z : ZI) (i v : Int) : Zup (mix V z) 79 i v = mix V (Zup z 79 i v) := mix_up (by decide)
theorem mix_r81 (V z : ZI) : mix V z 81 = z 81 := id rfl
theorem mix_u81 (V z : ZI) (i v : Int) : Zup (mix V z) 81 i v = mix V (Zup z 81 i v) := mix_up (by decide)
theorem mix_r82 (V z : ZI) : mix V z 82 = z 82 := id rfl
theorem mix_u82 (V z : ZI) (i v : Int) : Zup (mix V z) 82 i v = mix V (Zup z 82 i v) := mix_up (by decide)
theorem mix_r83 (V z : ZI) : mix V z 83 = z 83 := id rfl
theorem mix_u83 (V z : ZI) (i v : Int) : Zup (mix V z) 83 i v = mix V (Zup z 83 i v) := mix_up (by decide)
theorem mix_r84 (V z : ZI) : mix V z 84 = z 84 := id rfl
theorem mix_u84 (V z : ZI) (i v : Int) : Zup (mix V z) 84 i v = mix V (Zup z 84 i v) := mix_up (by decide)
theorem mix_r85 (V z : ZI) : mix V z 85 = z 85 := id rfl
theorem mix_u85 (V z : ZI) (i v : Int) : Zup (mix V z) 85 i v = mix V (Zup z 85 i v) := mix_up (by decide)
theorem mix_r86 (V z : ZI) : mix V z 86 = z 86 := id rfl
theorem mix_u86 (V z : ZI) (i v : Int) : Zup (mix V z) 86 i v = mix V (Zup z 86 i v) := mix_up (by decide)
theorem mix_r1087 (V z : ZI) : mix V z 1087 = z 1087 := id rfl
theorem mix_u1087 (V z : ZI) (i v : Int) : Zup (mix V z) 1087 i v = mix V (Zup z 1087 i v) := mix_up (by decide)
theorem loc_X11_stateOn_b60 {V : ZI} {k18 : ZI → Int → Int → Int → Int → Option (Int × ZI)} (hk18 : ∀ (y : ZI) (v0 v1 v2 v3 : Int), k18 (mix V y) v0 v1 v2 v3 = mpV V (k18 y v0 v1 v2 v3)) : ∀ (z : ZI) (x1 x2 x4 y0 : Int), X11_stateOn_b60 k18 (mix V z) x1 x2 x4 y0 = mpV V (X11_stateOn_b60 k18 z x1 x2 x4 y0) := by
  intro z x1 x2 x4 y0
  unfold X11_stateOn_b60
  simp only [hk18, loc_s, loc_g, loc_i, loc_y1, loc_y2, loc_l1, loc_l2, mix_r87_1000, mix_u87_1000, mix_r122, mix_u122, mix_r123, mix_u123, mix_r124, mix_u124, mix_r68, mix_u68, mix_r73, mix_u73, mix_r74, mix_u74, mix_r75, mix_u75, mix_r76, mix_u76, mix_r77, mix_u77, mix_r78, mix_u78, mix_r79, mix_u79, mix_r81, mix_u81, mix_r82, mix_u82, mix_r83, mix_u83, mix_r84, mix_u84, mix_r85, mix_u85, mix_r86, mix_u86, mix_r1087, mix_u1087]
theorem loc_X11_stateOn_b59 {V : ZI} {k18 : ZI → Int → Int → Int → Int → Option (Int × ZI)} (hk18 : ∀ (y : ZI) (v0 v1 v2 v3 : Int), k18 (mix V y) v0 v1 v2 v3 = mpV V (k18 y v0 v1 v2 v3)) : ∀ (z : ZI) (x1 x2 x3 x4 : Int), X11_stateOn_b59 k18 (mix V z) x1 x2 x3 x4 = mpV V (X11_stateOn_b59 k18 z x1 x2 x3 x4) := by
  intro z x1 x2 x3 x4
  unfold X11_stateOn_b59
  simp only [(loc_X11_stateOn_b60 hk18), hk18, loc_s, loc_g, loc_i, loc_y1, loc_y2, loc_l1, loc_l2, mix_r87_1000, mix_u87_1000, mix_r122, mix_u122, mix_r123, mix_u123, mix_r124, mix_u124, mix_r68, mix_u68, mix_r73, mix_u73, mix_r74, mix_u74, mix_r75, mix_u75, mix_r76, mix_u76, mix_r77, mix_u77, mix_r78, mix_u78, mix_r79, mix_u79, mix_r81, mix_u81, mix_r82, mix_u82, mix_r83, mix_u83, mix_r84, mix_u84, mix_r85, mix_u85, mix_r86, mix_u86, mix_r1087, mix_u1087]
theorem loc_X11_stateOn_L18b {V : ZI} {k18 : ZI → Int → Int → Int → Int → Option (Int × ZI)} (hk18 : ∀ (y : ZI) (v0 v1 v2 v3 : Int), k18 (mix V y) v0 v1 v2 v3 = mpV V (k18 y v0 v1 v2 v3)) : ∀ (z : ZI) (x1 x2 x3 x4 : Int), X11_stateOn_L18b k18 (mix V z) x1 x2 x3 x4 = mpV V (X11_stateOn_L18b k18 z x1 x2 x3 x4) := by
  intro z x1 x2 x3 x4
  unfold X11_stateOn_L18b
  simp only [(loc_X11_stateOn_b60 hk18), (loc_X11_stateOn_b59 hk18), hk18, loc_s, loc_g, loc_i, loc_y1, loc_y2, loc_l1, loc_l2, mix_r87_1000, mix_u87_1000, mix_r122, mix_u122, mix_r123, mix_u123, mix_r124, mix_u124, mix_r68, mix_u68, mix_r73, mix_u73, mix_r74, mix_u74, mix_r75, mix_u75, mix_r76, mix_u76, mix_r77, mix_u77, mix_r78, mix_u78, mix_r79, mix_u79, mix_r81, mix_u81, mix_r82, mix_u82, mix_r83, mix_u83, mix_r84, mix_u84, mix_r85, mix_u85, mix_r86, mix_u86, mix_r1087, mix_u1087]
theorem loc_X11_stateOn_L18 {V : ZI} : ∀ (f : Nat) (z : ZI) (x0 x1 x2 x3 : Int), X11_stateOn_L18 f (mix V z) x0 x1 x2 x3 = mpV V (X11_stateOn_L18 f z x0 x1 x2 x3) := by
  intro f
  induction f with
  | zero => intros; rfl
  | succ f ih =>
    intro z x0 x1 x2 x3
    exact loc_X11_stateOn_L18b ih z x0 x1 x2 x3
theorem loc_F_X11_stateOn {V : ZI} : ∀ (z : ZI) (x1 x2 : Int), F_X11_stateOn (mix V z) x1 x2 = mpV V (F_X11_stateOn z x1 x2) := by
  intro z x1 x2
  unfold F_X11_stateOn
  simp only [loc_X11_stateOn_L18, loc_s, loc_g, loc_i, loc_y1, loc_y2, loc_l1, loc_l2, mix_r87_1000, mix_u87_1000, mix_r122, mix_u122, mix_r123, mix_u123, mix_r124, mix_u124, mix_r68, mix_u68, mix_r73, mix_u73, mix_r74, mix_u74, mix_r75, mix_u75, mix_r76, mix_u76, mix_r77, mix_u77, mix_r78, mix_u78, mix_r79, mix_u79, mix_r81, mix_u81, mix_r82, mix_u82, mix_r83, mix_u83, mix_r84, mix_u84, mix_r85, mix_u85, mix_r86, mix_u86, mix_r1087, mix_u1087]
theorem loc_X11_isHere_b21 {V : ZI} : ∀ (z : ZI) (y0 : Int), X11_isHere_b21 (mix V z) y0 = mpV V (X11_isHere_b21 z y0) := by
  intro z y0
  unfold X11_isHere_b21
  simp only [loc_s, loc_g, loc_i, loc_y1, loc_y2, loc_l1, loc_l2, mix_r87_1000, mix_u87_1000, mix_r122, mix_u122, mix_r123, mix_u123, mix_r124, mix_u124, mix_r68, mix_u68, mix_r73, mix_u73, mix_r74, mix_u74, mix_r75, mix_u75, mix_r76, mix_u76, mix_r77, mix_u77, mix_r78, mix_u78, mix_r79, mix_u79, mix_r81, mix_u81, mix_r82, mix_u82, mix_r83, mix_u83, mix_r84, mix_u84, mix_r85, mix_u85, mix_r86, mix_u86, mix_r1087, mix_u1087]
theorem loc_X11_isHere_b16 {V : ZI} : ∀ (z : ZI), X11_isHere_b16 (mix V z) = mpV V (X11_isHere_b16 z) := by
  intro z
  unfold X11_isHere_b16
  simp only [loc_X11_isHere_b21, loc_s, loc_g, loc_i, loc_y1, loc_y2, loc_l1, loc_l2, mix_r87_1000, mix_u87_1000, mix_r122, mix_u122, mix_r123, mix_u123, mix_r124, mix_u124, mix_r68, mix_u68, mix_r73, mix_u73, mix_r74, mix_u74, mix_r75, mix_u75, mix_r76, mix_u76, mix_r77, mix_u77, mix_r78, mix_u78, mix_r79, mix_u79, mix_r81, mix_u81, mix_r82, mix_u82, mix_r83, mix_u83, mix_r84, mix_u84, mix_r85, mix_u85, mix_r86, mix_u86, mix_r1087, mix_u1087]
theorem loc_F_X11_isHere {V : ZI} : ∀ (z : ZI) (x1 x2 : Int), F_X11_isHere (mix V z) x1 x2 = mpV V (F_X11_isHere z x1 x2) := by
  intro z x1 x2
  unfold F_X11_isHere
  simp only [loc_F_X11_stateOn, loc_X11_isHere_b21, loc_X11_isHere_b16, loc_s, loc_g, loc_i, loc_y1, loc_y2, loc_l1, loc_l2, mix_r87_1000, mix_u87_1000, mix_r122, mix_u122, mix_r123, mix_u123, mix_r124, mix_u124, mix_r68, mix_u68, mix_r73, mix_u73, mix_r74, mix_u74, mix_r75, mix_u75, mix_r76, mix_u76, mix_r77, mix_u77, mix_r78, mix_u78, mix_r79, mix_u79, mix_r81, mix_u81, mix_r82, mix_u82, mix_r83, mix_u83, mix_r84, mix_u84, mix_r85, mix_u85, mix_r86, mix_u86, mix_r1087, mix_u1087]
theorem loc_X11_hereOf_b41 {V : ZI} {k5 : ZI → Int → Int → Int → Int → Option (Int × ZI)} (hk5 : ∀ (y : ZI) (v0 v1 v2 v3 : Int), k5 (mix V y) v0 v1 v2 v3 = mpV V (k5 y v0 v1 v2 v3)) : ∀ (z : ZI) (x1 x2 x4 y0 y1 : Int), X11_hereOf_b41 k5 (mix V z) x1 x2 x4 y0 y1 = mpV V (X11_hereOf_b41 k5 z x1 x2 x4 y0 y1) := by
  intro z x1 x2 x4 y0 y1
  unfold X11_hereOf_b41
  simp only [hk5, loc_s, loc_g, loc_i, loc_y1, loc_y2, loc_l1, loc_l2, mix_r87_1000, mix_u87_1000, mix_r122, mix_u122, mix_r123, mix_u123, mix_r124, mix_u124, mix_r68, mix_u68, mix_r73, mix_u73, mix_r74, mix_u74, mix_r75, mix_u75, mix_r76, mix_u76, mix_r77, mix_u77, mix_r78, mix_u78, mix_r79, mix_u79, mix_r81, mix_u81, mix_r82, mix_u82, mix_r83, mix_u83, mix_r84, mix_u84, mix_r85, mix_u85, mix_r86, mix_u86, mix_r1087, mix_u1087]
theorem loc_X11_hereOf_b40 {V : ZI} {k5 : ZI → Int → Int → Int → Int → Option (Int × ZI)} (hk5 : ∀ (y : ZI) (v0 v1 v2 v3 : Int), k5 (mix V y) v0 v1 v2 v3 = mpV V (k5 y v0 v1 v2 v3)) : ∀ (z : ZI) (x1 x2 x4 y0 : Int), X11_hereOf_b40 k5 (mix V z) x1 x2 x4 y0 = mpV V (X11_hereOf_b40 k5 z x1 x2 x4 y0) := by
  intro z x1 x2 x4 y0
  unfold X11_hereOf_b40
  simp only [(loc_X11_hereOf_b41 hk5), hk5, loc_s, loc_g, loc_i, loc_y1, loc_y2, loc_l1, loc_l2, mix_r87_1000, mix_u87_1000, mix_r122, mix_u122, mix_r123, mix_u123, mix_r124, mix_u124, mix_r68, mix_u68, mix_r73, mix_u73, mix_r74, mix_u74, mix_r75, mix_u75, mix_r76, mix_u76, mix_r77, mix_u77, mix_r78, mix_u78, mix_r79, mix_u79, mix_r81, mix_u81, mix_r82, mix_u82, mix_r83, mix_u83, mix_r84, mix_u84, mix_r85, mix_u85, mix_r86, mix_u86, mix_r1087, mix_u1087]
theorem loc_X11_hereOf_L5b {V : ZI} {k5 : ZI → Int → Int → Int → Int → Option (Int × ZI)} (hk5 : ∀ (y : ZI) (v0 v1 v2 v3 : Int), k5 (mix V y) v0 v1 v2 v3 = mpV V (k5 y v0 v1 v2 v3)) : ∀ (z : ZI) (x1 x2 x3 x4 : Int), X11_hereOf_L5b k5 (mix V z) x1 x2 x3 x4 = mpV V (X11_hereOf_L5b k5 z x1 x2 x3 x4) := by
  intro z x1 x2 x3 x4
  unfold X11_hereOf_L5b
  simp only [loc_F_X11_isHere, (loc_X11_hereOf_b41 hk5), (loc_X11_hereOf_b40 hk5), hk5, loc_s, loc_g, loc_i, loc_y1, loc_y2, loc_l1, loc_l2, mix_r87_1000, mix_u87_1000, mix_r122, mix_u122, mix_r123, mix_u123, mix_r124, mix_u124, mix_r68, mix_u68, mix_r73, mix_u73, mix_r74, mix_u74, mix_r75, mix_u75, mix_r76, mix_u76, mix_r77, mix_u77, mix_r78, mix_u78, mix_r79, mix_u79, mix_r81, mix_u81, mix_r82, mix_u82, mix_r83, mix_u83, mix_r84, mix_u84, mix_r85, mix_u85, mix_r86, mix_u86, mix_r1087, mix_u1087]
theorem loc_X11_hereOf_L5 {V : ZI} : ∀ (f : Nat) (z : ZI) (x0 x1 x2 x3 : Int), X11_hereOf_L5 f (mix V z) x0 x1 x2 x3 = mpV V (X11_hereOf_L5 f z x0 x1 x2 x3) := by
  intro f
  induction f with
  | zero => intros; rfl
  | succ f ih =>
    intro z x0 x1 x2 x3
    exact loc_X11_hereOf_L5b ih z x0 x1 x2 x3
theorem loc_F_X11_hereOf {V : ZI} : ∀ (z : ZI) (x1 x2 : Int), F_X11_hereOf (mix V z) x1 x2 = mpV V (F_X11_hereOf z x1 x2) := by
  intro z x1 x2
  unfold F_X11_hereOf
  simp only [loc_X11_hereOf_L5, loc_s, loc_g, loc_i, loc_y1, loc_y2, loc_l1, loc_l2, mix_r87_1000, mix_u87_1000, mix_r122, mix_u122, mix_r123, mix_u123, mix_r124, mix_u124, mix_r68, mix_u68, mix_r73, mix_u73, mix_r74, mix_u74, mix_r75, mix_u75, mix_r76, mix_u76, mix_r77, mix_u77, mix_r78, mix_u78, mix_r79, mix_u79, mix_r81, mix_u81, mix_r82, mix_u82, mix_r83, mix_u83, mix_r84, mix_u84, mix_r85, mix_u85, mix_r86, mix_u86, mix_r1087, mix_u1087]
theorem loc_X11_forceOf_b60 {V : ZI} {k6 : ZI → Int → Int → Int → Int → Option (Int × ZI)} (hk6 : ∀ (y : ZI) (v0 v1 v2 v3 : Int), k6 (mix V y) v0 v1 v2 v3 = mpV V (k6 y v0 v1 v2 v3)) : ∀ (z : ZI) (x1 x2 x3 x4 : Int), X11_forceOf_b60 k6 (mix V z) x1 x2 x3 x4 = mpV V (X11_forceOf_b60 k6 z x1 x2 x3 x4) := by
  intro z x1 x2 x3 x4
  unfold X11_forceOf_b60
  simp only [hk6, loc_s, loc_g, loc_i, loc_y1, loc_y2, loc_l1, loc_l2, mix_r87_1000, mix_u87_1000, mix_r122, mix_u122, mix_r123, mix_u123, mix_r124, mix_u124, mix_r68, mix_u68, mix_r73, mix_u73, mix_r74, mix_u74, mix_r75, mix_u75, mix_r76, mix_u76, mix_r77, mix_u77, mix_r78, mix_u78, mix_r79, mix_u79, mix_r81, mix_u81, mix_r82, mix_u82, mix_r83, mix_u83, mix_r84, mix_u84, mix_r85, mix_u85, mix_r86, mix_u86, mix_r1087, mix_u1087]
theorem loc_X11_forceOf_b57 {V : ZI} {k6 : ZI → Int → Int → Int → Int → Option (Int × ZI)} (hk6 : ∀ (y : ZI) (v0 v1 v2 v3 : Int), k6 (mix V y) v0 v1 v2 v3 = mpV V (k6 y v0 v1 v2 v3)) : ∀ (z : ZI) (x1 x2 x4 : Int), X11_forceOf_b57 k6 (mix V z) x1 x2 x4 = mpV V (X11_forceOf_b57 k6 z x1 x2 x4) := by
  intro z x1 x2 x4
  unfold X11_forceOf_b57
  simp only [(loc_X11_forceOf_b60 hk6), hk6, loc_s, loc_g, loc_i, loc_y1, loc_y2, loc_l1, loc_l2, mix_r87_1000, mix_u87_1000, mix_r122, mix_u122, mix_r123, mix_u123, mix_r124, mix_u124, mix_r68, mix_u68, mix_r73, mix_u73, mix_r74, mix_u74, mix_r75, mix_u75, mix_r76, mix_u76, mix_r77, mix_u77, mix_r78, mix_u78, mix_r79, mix_u79, mix_r81, mix_u81, mix_r82, mix_u82, mix_r83, mix_u83, mix_r84, mix_u84, mix_r85, mix_u85, mix_r86, mix_u86, mix_r1087, mix_u1087]
theorem loc_X11_forceOf_L6b {V : ZI} {k6 : ZI → Int → Int → Int → Int → Option (Int × ZI)} (hk6 : ∀ (y : ZI) (v0 v1 v2 v3 : Int), k6 (mix V y) v0 v1 v2 v3 = mpV V (k6 y v0 v1 v2 v3)) : ∀ (z : ZI) (x1 x2 x3 x4 : Int), X11_forceOf_L6b k6 (mix V z) x1 x2 x3 x4 = mpV V (X11_forceOf_L6b k6 z x1 x2 x3 x4) := by
  intro z x1 x2 x3 x4
  unfold X11_forceOf_L6b
  simp only [(loc_X11_forceOf_b60 hk6), (loc_X11_forceOf_b57 hk6), hk6, loc_s, loc_g, loc_i, loc_y1, loc_y2, loc_l1, loc_l2, mix_r87_1000, mix_u87_1000, mix_r122, mix_u122, mix_r123, mix_u123, mix_r124, mix_u124, mix_r68, mix_u68, mix_r73, mix_u73, mix_r74, mix_u74, mix_r75, mix_u75, mix_r76, mix_u76, mix_r77, mix_u77, mix_r78, mix_u78, mix_r79, mix_u79, mix_r81, mix_u81, mix_r82, mix_u82, mix_r83, mix_u83, mix_r84, mix_u84, mix_r85, mix_u85, mix_r86, mix_u86, mix_r1087, mix_u1087]
theorem loc_X11_forceOf_L6 {V : ZI} : ∀ (f : Nat) (z : ZI) (x0 x1 x2 x3 : Int), X11_forceOf_L6 f (mix V z) x0 x1 x2 x3 = mpV V (X11_forceOf_L6 f z x0 x1 x2 x3) := by
  intro f
  induction f with
  | zero => intros; rfl
  | succ f ih =>
    intro z x0 x1 x2 x3
    exact loc_X11_forceOf_L6b ih z x0 x1 x2 x3
theorem loc_F_X11_forceOf {V : ZI} : ∀ (z : ZI) (x1 x2 : Int), F_X11_forceOf (mix V z) x1 x2 = mpV V (F_X11_forceOf z x1 x2) := by
  intro z x1 x2
  unfold F_X11_forceOf
  simp only [loc_X11_forceOf_L6, loc_s, loc_g, loc_i, loc_y1, loc_y2, loc_l1, loc_l2, mix_r87_1000, mix_u87_1000, mix_r122, mix_u122, mix_r123, mix_u123, mix_r124, mix_u124, mix_r68, mix_u68, mix_r73, mix_u73, mix_r74, mix_u74, mix_r75, mix_u75, mix_r76, mix_u76, mix_r77, mix_u77, mix_r78, mix_u78, mix_r79, mix_u79, mix_r81, mix_u81, mix_r82, mix_u82, mix_r83, mix_u83, mix_r84, mix_u84, mix_r85, mix_u85, mix_r86, mix_u86, mix_r1087, mix_u1087]
theorem loc_X11_noFacts_L2b {V : ZI} {k2 : ZI → Int → Option (Unit × ZI)} (hk2 : ∀ (y : ZI) (v0 : Int), k2 (mix V y) v0 = mpV V (k2 y v0)) : ∀ (z : ZI) (x1 : Int), X11_noFacts_L2b k2 (mix V z) x1 = mpV V (X11_noFacts_L2b k2 z x1) := by
  intro z x1
  unfold X11_noFacts_L2b
  simp only [hk2, loc_s, loc_g, loc_i, loc_y1, loc_y2, loc_l1, loc_l2, mix_r87_1000, mix_u87_1000, mix_r122, mix_u122, mix_r123, mix_u123, mix_r124, mix_u124, mix_r68, mix_u68, mix_r73, mix_u73, mix_r74, mix_u74, mix_r75, mix_u75, mix_r76, mix_u76, mix_r77, mix_u77, mix_r78, mix_u78, mix_r79, mix_u79, mix_r81, mix_u81, mix_r82, mix_u82, mix_r83, mix_u83, mix_r84, mix_u84, mix_r85, mix_u85, mix_r86, mix_u86, mix_r1087, mix_u1087]
theorem loc_X11_noFacts_L2 {V : ZI} : ∀ (f : Nat) (z : ZI) (x0 : Int), X11_noFacts_L2 f (mix V z) x0 = mpV V (X11_noFacts_L2 f z x0) := by
  intro f
  induction f with
  | zero => intros; rfl
  | succ f ih =>
    intro z x0
    exact loc_X11_noFacts_L2b ih z x0
theorem loc_F_X11_noFacts {V : ZI} : ∀ (z : ZI), F_X11_noFacts (mix V z) = mpV V (F_X11_noFacts z) := by
  intro z
  unfold F_X11_noFacts
  simp only [loc_X11_noFacts_L2, loc_s, loc_g, loc_i, loc_y1, loc_y2, loc_l1, loc_l2, mix_r87_1000, mix_u87_1000, mix_r122, mix_u122, mix_r123, mix_u123, mix_r124, mix_u124, mix_r68, mix_u68, mix_r73, mix_u73, mix_r74, mix_u74, mix_r75, mix_u75, mix_r76, mix_u76, mix_r77, mix_u77, mix_r78, mix_u78, mix_r79, mix_u79, mix_r81, mix_u81, mix_r82, mix_u82, mix_r83, mix_u83, mix_r84, mix_u84, mix_r85, mix_u85, mix_r86, mix_u86, mix_r1087, mix_u1087]
theorem loc_X11_isLetter_b53 {V : ZI} : ∀ (z : ZI) (y0 : Int), X11_isLetter_b53 (mix V z) y0 = mpV V (X11_isLetter_b53 z y0) := by
  intro z y0
  unfold X11_isLetter_b53
  simp only [loc_s, loc_g, loc_i, loc_y1, loc_y2, loc_l1, loc_l2, mix_r87_1000, mix_u87_1000, mix_r122, mix_u122, mix_r123, mix_u123, mix_r124, mix_u124, mix_r68, mix_u68, mix_r73, mix_u73, mix_r74, mix_u74, mix_r75, mix_u75, mix_r76, mix_u76, mix_r77, mix_u77, mix_r78, mix_u78, mix_r79, mix_u79, mix_r81, mix_u81, mix_r82, mix_u82, mix_r83, mix_u83, mix_r84, mix_u84, mix_r85, mix_u85, mix_r86, mix_u86, mix_r1087, mix_u1087]
theorem loc_X11_isLetter_b48 {V : ZI} : ∀ (z : ZI), X11_isLetter_b48 (mix V z) = mpV V (X11_isLetter_b48 z) := by
  intro z
  unfold X11_isLetter_b48
  simp only [loc_X11_isLetter_b53, loc_s, loc_g, loc_i, loc_y1, loc_y2, loc_l1, loc_l2, mix_r87_1000, mix_u87_1000, mix_r122, mix_u122, mix_r123, mix_u123, mix_r124, mix_u124, mix_r68, mix_u68, mix_r73, mix_u73, mix_r74, mix_u74, mix_r75, mix_u75, mix_r76, mix_u76, mix_r77, mix_u77, mix_r78, mix_u78, mix_r79, mix_u79, mix_r81, mix_u81, mix_r82, mix_u82, mix_r83, mix_u83, mix_r84, mix_u84, mix_r85, mix_u85, mix_r86, mix_u86, mix_r1087, mix_u1087]
theorem loc_F_X11_isLetter {V : ZI} : ∀ (z : ZI) (x0 : Int), F_X11_isLetter (mix V z) x0 = mpV V (F_X11_isLetter z x0) := by
  intro z x0
  unfold F_X11_isLetter
  simp only [loc_X11_isLetter_b53, loc_X11_isLetter_b48, loc_s, loc_g, loc_i, loc_y1, loc_y2, loc_l1, loc_l2, mix_r87_1000, mix_u87_1000, mix_r122, mix_u122, mix_r123, mix_u123, mix_r124, mix_u124, mix_r68, mix_u68, mix_r73, mix_u73, mix_r74, mix_u74, mix_r75, mix_u75, mix_r76, mix_u76, mix_r77, mix_u77, mix_r78, mix_u78, mix_r79, mix_u79, mix_r81, mix_u81, mix_r82, mix_u82, mix_r83, mix_u83, mix_r84, mix_u84, mix_r85, mix_u85, mix_r86, mix_u86, mix_r1087, mix_u1087]
theorem loc_X11_isDigit_b17 {V : ZI} : ∀ (z : ZI) (y0 : Int), X11_isDigit_b17 (mix V z) y0 = mpV V (X11_isDigit_b17 z y0) := by
  intro z y0
  unfold X11_isDigit_b17
  simp only [loc_s, loc_g, loc_i, loc_y1, loc_y2, loc_l1, loc_l2, mix_r87_1000, mix_u87_1000, mix_r122, mix_u122, mix_r123, mix_u123, mix_r124, mix_u124, mix_r68, mix_u68, mix_r73, mix_u73, mix_r74, mix_u74, mix_r75, mix_u75, mix_r76, mix_u76, mix_r77, mix_u77, mix_r78, mix_u78, mix_r79, mix_u79, mix_r81, mix_u81, mix_r82, mix_u82, mix_r83, mix_u83, mix_r84, mix_u84, mix_r85, mix_u85, mix_r86, mix_u86, mix_r1087, mix_u1087]
theorem loc_X11_isDigit_b16 {V : ZI} : ∀ (z : ZI), X11_isDigit_b16 (mix V z) = mpV V (X11_isDigit_b16 z) := by
  intro z
  unfold X11_isDigit_b16
  simp only [loc_X11_isDigit_b17, loc_s, loc_g, loc_i, loc_y1, loc_y2, loc_l1, loc_l2, mix_r87_1000, mix_u87_1000, mix_r122, mix_u122, mix_r123, mix_u123, mix_r124, mix_u124, mix_r68, mix_u68, mix_r73, mix_u73, mix_r74, mix_u74, mix_r75, mix_u75, mix_r76, mix_u76, mix_r77, mix_u77, mix_r78, mix_u78, mix_r79, mix_u79, mix_r81, mix_u81, mix_r82, mix_u82, mix_r83, mix_u83, mix_r84, mix_u84, mix_r85, mix_u85, mix_r86, mix_u86, mix_r1087, mix_u1087]
theorem loc_F_X11_isDigit {V : ZI} : ∀ (z : ZI) (x0 : Int), F_X11_isDigit (mix V z) x0 = mpV V (F_X11_isDigit z x0) := by
  intro z x0
  unfold F_X11_isDigit
  simp only [loc_X11_isDigit_b17, loc_X11_isDigit_b16, loc_s, loc_g, loc_i, loc_y1, loc_y2, loc_l1, loc_l2, mix_r87_1000, mix_u87_1000, mix_r122, mix_u122, mix_r123, mix_u123, mix_r124, mix_u124, mix_r68, mix_u68, mix_r73, mix_u73, mix_r74, mix_u74, mix_r75, mix_u75, mix_r76, mix_u76, mix_r77, mix_u77, mix_r78, mix_u78, mix_r79, mix_u79, mix_r81, mix_u81, mix_r82, mix_u82, mix_r83, mix_u83, mix_r84, mix_u84, mix_r85, mix_u85, mix_r86, mix_u86, mix_r1087, mix_u1087]
theorem loc_X11_rank_b43 {V : ZI} : ∀ (z : ZI) (y0 : Int), X11_rank_b43 (mix V z) y0 = mpV V (X11_rank_b43 z y0) := by
  intro z y0
  unfold X11_rank_b43
  simp only [loc_s, loc_g, loc_i, loc_y1, loc_y2, loc_l1, loc_l2, mix_r87_1000, mix_u87_1000, mix_r122, mix_u122, mix_r123, mix_u123, mix_r124, mix_u124, mix_r68, mix_u68, mix_r73, mix_u73, mix_r74, mix_u74, mix_r75, mix_u75, mix_r76, mix_u76, mix_r77, mix_u77, mix_r78, mix_u78, mix_r79, mix_u79, mix_r81, mix_u81, mix_r82, mix_u82, mix_r83, mix_u83, mix_r84, mix_u84, mix_r85, mix_u85, mix_r86, mix_u86, mix_r1087, mix_u1087]
theorem loc_X11_rank_b22 {V : ZI} : ∀ (z : ZI), X11_rank_b22 (mix V z) = mpV V (X11_rank_b22 z) := by
  intro z
  unfold X11_rank_b22
  simp only [loc_X11_rank_b43, loc_s, loc_g, loc_i, loc_y1, loc_y2, loc_l1, loc_l2, mix_r87_1000, mix_u87_1000, mix_r122, mix_u122, mix_r123, mix_u123, mix_r124, mix_u124, mix_r68, mix_u68, mix_r73, mix_u73, mix_r74, mix_u74, mix_r75, mix_u75, mix_r76, mix_u76, mix_r77, mix_u77, mix_r78, mix_u78, mix_r79, mix_u79, mix_r81, mix_u81, mix_r82, mix_u82, mix_r83, mix_u83, mix_r84, mix_u84, mix_r85, mix_u85, mix_r86, mix_u86, mix_r1087, mix_u1087]
theorem loc_X11_rank_b38 {V : ZI} : ∀ (z : ZI), X11_rank_b38 (mix V z) = mpV V (X11_rank_b38 z) := by
  intro z
  unfold X11_rank_b38
  simp only [loc_X11_rank_b43, loc_s, loc_g, loc_i, loc_y1, loc_y2, loc_l1, loc_l2, mix_r87_1000, mix_u87_1000, mix_r122, mix_u122, mix_r123, mix_u123, mix_r124, mix_u124, mix_r68, mix_u68, mix_r73, mix_u73, mix_r74, mix_u74, mix_r75, mix_u75, mix_r76, mix_u76, mix_r77, mix_u77, mix_r78, mix_u78, mix_r79, mix_u79, mix_r81, mix_u81, mix_r82, mix_u82, mix_r83, mix_u83, mix_r84, mix_u84, mix_r85, mix_u85, mix_r86, mix_u86, mix_r1087, mix_u1087]
theorem loc_F_X11_rank {V : ZI} : ∀ (z : ZI) (x0 : Int), F_X11_rank (mix V z) x0 = mpV V (F_X11_rank z x0) := by
  intro z x0
  unfold F_X11_rank
  simp only [loc_X11_rank_b43, loc_X11_rank_b22, loc_X11_rank_b38, loc_s, loc_g, loc_i, loc_y1, loc_y2, loc_l1, loc_l2, mix_r87_1000, mix_u87_1000, mix_r122, mix_u122, mix_r123, mix_u123, mix_r124, mix_u124, mix_r68, mix_u68, mix_r73, mix_u73, mix_r74, mix_u74, mix_r75, mix_u75, mix_r76, mix_u76, mix_r77, mix_u77, mix_r78, mix_u78, mix_r79, mix_u79, mix_r81, mix_u81, mix_r82, mix_u82, mix_r83, mix_u83, mix_r84, mix_u84, mix_r85, mix_u85, mix_r86, mix_u86, mix_r1087, mix_u1087]
theorem loc_X11_held_b29 {V : ZI} : ∀ (z : ZI) (y0 : Int), X11_held_b29 (mix V z) y0 = mpV V (X11_held_b29 z y0) := by
  intro z y0
  unfold X11_held_b29
  simp only [loc_s, loc_g, loc_i, loc_y1, loc_y2, loc_l1, loc_l2, mix_r87_1000, mix_u87_1000, mix_r122, mix_u122, mix_r123, mix_u123, mix_r124, mix_u124, mix_r68, mix_u68, mix_r73, mix_u73, mix_r74, mix_u74, mix_r75, mix_u75, mix_r76, mix_u76, mix_r77, mix_u77, mix_r78, mix_u78, mix_r79, mix_u79, mix_r81, mix_u81, mix_r82, mix_u82, mix_r83, mix_u83, mix_r84, mix_u84, mix_r85, mix_u85, mix_r86, mix_u86, mix_r1087, mix_u1087]
theorem loc_F_X11_held {V : ZI} : ∀ (z : ZI) (x0 : Int), F_X11_held (mix V z) x0 = mpV V (F_X11_held z x0) := by
  intro z x0
  unfold F_X11_held
  simp only [loc_X11_held_b29, loc_s, loc_g, loc_i, loc_y1, loc_y2, loc_l1, loc_l2, mix_r87_1000, mix_u87_1000, mix_r122, mix_u122, mix_r123, mix_u123, mix_r124, mix_u124, mix_r68, mix_u68, mix_r73, mix_u73, mix_r74, mix_u74, mix_r75, mix_u75, mix_r76, mix_u76, mix_r77, mix_u77, mix_r78, mix_u78, mix_r79, mix_u79, mix_r81, mix_u81, mix_r82, mix_u82, mix_r83, mix_u83, mix_r84, mix_u84, mix_r85, mix_u85, mix_r86, mix_u86, mix_r1087, mix_u1087]
theorem loc_X11_works_b206 {V : ZI} : ∀ (z : ZI), X11_works_b206 (mix V z) = mpV V (X11_works_b206 z) := by
  intro z
  unfold X11_works_b206
  simp only [loc_s, loc_g, loc_i, loc_y1, loc_y2, loc_l1, loc_l2, mix_r87_1000, mix_u87_1000, mix_r122, mix_u122, mix_r123, mix_u123, mix_r124, mix_u124, mix_r68, mix_u68, mix_r73, mix_u73, mix_r74, mix_u74, mix_r75, mix_u75, mix_r76, mix_u76, mix_r77, mix_u77, mix_r78, mix_u78, mix_r79, mix_u79, mix_r81, mix_u81, mix_r82, mix_u82, mix_r83, mix_u83, mix_r84, mix_u84, mix_r85, mix_u85, mix_r86, mix_u86, mix_r1087, mix_u1087]
theorem loc_X11_works_b185 {V : ZI} {k0 : ZI → Int → Option (Unit × ZI)} (hk0 : ∀ (y : ZI) (v0 : Int), k0 (mix V y) v0 = mpV V (k0 y v0)) : ∀ (z : ZI) (x1 y0 : Int), X11_works_b185 k0 (mix V z) x1 y0 = mpV V (X11_works_b185 k0 z x1 y0) := by
  intro z x1 y0
  unfold X11_works_b185
  simp only [loc_F_X11_held, hk0, loc_s, loc_g, loc_i, loc_y1, loc_y2, loc_l1, loc_l2, mix_r87_1000, mix_u87_1000, mix_r122, mix_u122, mix_r123, mix_u123, mix_r124, mix_u124, mix_r68, mix_u68, mix_r73, mix_u73, mix_r74, mix_u74, mix_r75, mix_u75, mix_r76, mix_u76, mix_r77, mix_u77, mix_r78, mix_u78, mix_r79, mix_u79, mix_r81, mix_u81, mix_r82, mix_u82, mix_r83, mix_u83, mix_r84, mix_u84, mix_r85, mix_u85, mix_r86, mix_u86, mix_r1087, mix_u1087]
theorem loc_X11_works_b184 {V : ZI} {k0 : ZI → Int → Option (Unit × ZI)} (hk0 : ∀ (y : ZI) (v0 : Int), k0 (mix V y) v0 = mpV V (k0 y v0)) : ∀ (z : ZI) (x1 : Int), X11_works_b184 k0 (mix V z) x1 = mpV V (X11_works_b184 k0 z x1) := by
  intro z x1
  unfold X11_works_b184
  simp only [(loc_X11_works_b185 hk0), hk0, loc_s, loc_g, loc_i, loc_y1, loc_y2, loc_l1, loc_l2, mix_r87_1000, mix_u87_1000, mix_r122, mix_u122, mix_r123, mix_u123, mix_r124, mix_u124, mix_r68, mix_u68, mix_r73, mix_u73, mix_r74, mix_u74, mix_r75, mix_u75, mix_r76, mix_u76, mix_r77, mix_u77, mix_r78, mix_u78, mix_r79, mix_u79, mix_r81, mix_u81, mix_r82, mix_u82, mix_r83, mix_u83, mix_r84, mix_u84, mix_r85, mix_u85, mix_r86, mix_u86, mix_r1087, mix_u1087]
theorem loc_X11_works_b180 {V : ZI} {k0 : ZI → Int → Option (Unit × ZI)} (hk0 : ∀ (y : ZI) (v0 : Int), k0 (mix V y) v0 = mpV V (k0 y v0)) : ∀ (z : ZI) (x1 : Int), X11_works_b180 k0 (mix V z) x1 = mpV V (X11_works_b180 k0 z x1) := by
  intro z x1
  unfold X11_works_b180
  simp only [(loc_X11_works_b185 hk0), hk0, loc_s, loc_g, loc_i, loc_y1, loc_y2, loc_l1, loc_l2, mix_r87_1000, mix_u87_1000, mix_r122, mix_u122, mix_r123, mix_u123, mix_r124, mix_u124, mix_r68, mix_u68, mix_r73, mix_u73, mix_r74, mix_u74, mix_r75, mix_u75, mix_r76, mix_u76, mix_r77, mix_u77, mix_r78, mix_u78, mix_r79, mix_u79, mix_r81, mix_u81, mix_r82, mix_u82, mix_r83, mix_u83, mix_r84, mix_u84, mix_r85, mix_u85, mix_r86, mix_u86, mix_r1087, mix_u1087]
theorem loc_X11_works_L0b {V : ZI} {k0 : ZI → Int → Option (Unit × ZI)} (hk0 : ∀ (y : ZI) (v0 : Int), k0 (mix V y) v0 = mpV V (k0 y v0)) : ∀ (z : ZI) (x1 : Int), X11_works_L0b k0 (mix V z) x1 = mpV V (X11_works_L0b k0 z x1) := by
  intro z x1
  unfold X11_works_L0b
  simp only [loc_F_X11_rank, loc_X11_works_b206, (loc_X11_works_b185 hk0), (loc_X11_works_b184 hk0), (loc_X11_works_b180 hk0), hk0, loc_s, loc_g, loc_i, loc_y1, loc_y2, loc_l1, loc_l2, mix_r87_1000, mix_u87_1000, mix_r122, mix_u122, mix_r123, mix_u123, mix_r124, mix_u124, mix_r68, mix_u68, mix_r73, mix_u73, mix_r74, mix_u74, mix_r75, mix_u75, mix_r76, mix_u76, mix_r77, mix_u77, mix_r78, mix_u78, mix_r79, mix_u79, mix_r81, mix_u81, mix_r82, mix_u82, mix_r83, mix_u83, mix_r84, mix_u84, mix_r85, mix_u85, mix_r86, mix_u86, mix_r1087, mix_u1087]
theorem loc_X11_works_L0 {V : ZI} : ∀ (f : Nat) (z : ZI) (x0 : Int), X11_works_L0 f (mix V z) x0 = mpV V (X11_works_L0 f z x0) := by
  intro f
  induction f with
  | zero => intros; rfl
  | succ f ih =>
    intro z x0
    exact loc_X11_works_L0b ih z x0
theorem loc_F_X11_works {V : ZI} : ∀ (z : ZI) (x1 : Int), F_X11_works (mix V z) x1 = mpV V (F_X11_works z x1) := by
  intro z x1
  unfold F_X11_works
  simp only [loc_X11_works_L0, loc_s, loc_g, loc_i, loc_y1, loc_y2, loc_l1, loc_l2, mix_r87_1000, mix_u87_1000, mix_r122, mix_u122, mix_r123, mix_u123, mix_r124, mix_u124, mix_r68, mix_u68, mix_r73, mix_u73, mix_r74, mix_u74, mix_r75, mix_u75, mix_r76, mix_u76, mix_r77, mix_u77, mix_r78, mix_u78, mix_r79, mix_u79, mix_r81, mix_u81, mix_r82, mix_u82, mix_r83, mix_u83, mix_r84, mix_u84, mix_r85, mix_u85, mix_r86, mix_u86, mix_r1087, mix_u1087]
theorem loc_X11_worth_b230 {V : ZI} : ∀ (z : ZI), X11_worth_b230 (mix V z) = mpV V (X11_worth_b230 z) := by
  intro z
  unfold X11_worth_b230
  simp only [loc_F_X11_works, loc_s, loc_g, loc_i, loc_y1, loc_y2, loc_l1, loc_l2, mix_r87_1000, mix_u87_1000, mix_r122, mix_u122, mix_r123, mix_u123, mix_r124, mix_u124, mix_r68, mix_u68, mix_r73, mix_u73, mix_r74, mix_u74, mix_r75, mix_u75, mix_r76, mix_u76, mix_r77, mix_u77, mix_r78, mix_u78, mix_r79, mix_u79, mix_r81, mix_u81, mix_r82, mix_u82, mix_r83, mix_u83, mix_r84, mix_u84, mix_r85, mix_u85, mix_r86, mix_u86, mix_r1087, mix_u1087]
theorem loc_X11_worth_b227 {V : ZI} {k12 : ZI → Int → Int → Option (Int × ZI)} (hk12 : ∀ (y : ZI) (v0 v1 : Int), k12 (mix V y) v0 v1 = mpV V (k12 y v0 v1)) : ∀ (z : ZI) (x1 x2 : Int), X11_worth_b227 k12 (mix V z) x1 x2 = mpV V (X11_worth_b227 k12 z x1 x2) := by
  intro z x1 x2
  unfold X11_worth_b227
  simp only [hk12, loc_s, loc_g, loc_i, loc_y1, loc_y2, loc_l1, loc_l2, mix_r87_1000, mix_u87_1000, mix_r122, mix_u122, mix_r123, mix_u123, mix_r124, mix_u124, mix_r68, mix_u68, mix_r73, mix_u73, mix_r74, mix_u74, mix_r75, mix_u75, mix_r76, mix_u76, mix_r77, mix_u77, mix_r78, mix_u78, mix_r79, mix_u79, mix_r81, mix_u81, mix_r82, mix_u82, mix_r83, mix_u83, mix_r84, mix_u84, mix_r85, mix_u85, mix_r86, mix_u86, mix_r1087, mix_u1087]
theorem loc_X11_worth_b145 {V : ZI} {k12 : ZI → Int → Int → Option (Int × ZI)} (hk12 : ∀ (y : ZI) (v0 v1 : Int), k12 (mix V y) v0 v1 = mpV V (k12 y v0 v1)) : ∀ (z : ZI) (x1 x2 x4 : Int), X11_worth_b145 k12 (mix V z) x1 x2 x4 = mpV V (X11_worth_b145 k12 z x1 x2 x4) := by
  intro z x1 x2 x4
  unfold X11_worth_b145
  simp only [(loc_X11_worth_b227 hk12), hk12, loc_s, loc_g, loc_i, loc_y1, loc_y2, loc_l1, loc_l2, mix_r87_1000, mix_u87_1000, mix_r122, mix_u122, mix_r123, mix_u123, mix_r124, mix_u124, mix_r68, mix_u68, mix_r73, mix_u73, mix_r74, mix_u74, mix_r75, mix_u75, mix_r76, mix_u76, mix_r77, mix_u77, mix_r78, mix_u78, mix_r79, mix_u79, mix_r81, mix_u81, mix_r82, mix_u82, mix_r83, mix_u83, mix_r84, mix_u84, mix_r85, mix_u85, mix_r86, mix_u86, mix_r1087, mix_u1087]
theorem loc_X11_worth_L87b {V : ZI} {k12 : ZI → Int → Int → Option (Int × ZI)} {k87 : ZI → Int → Int → Int → Option (Int × ZI)} (hk12 : ∀ (y : ZI) (v0 v1 : Int), k12 (mix V y) v0 v1 = mpV V (k12 y v0 v1)) (hk87 : ∀ (y : ZI) (v0 v1 v2 : Int), k87 (mix V y) v0 v1 v2 = mpV V (k87 y v0 v1 v2)) : ∀ (z : ZI) (x1 x2 x4 : Int), X11_worth_L87b k12 k87 (mix V z) x1 x2 x4 = mpV V (X11_worth_L87b k12 k87 z x1 x2 x4) := by
  intro z x1 x2 x4
  unfold X11_worth_L87b
  simp only [loc_F_X11_isDigit, (loc_X11_worth_b145 hk12), hk12, hk87, loc_s, loc_g, loc_i, loc_y1, loc_y2, loc_l1, loc_l2, mix_r87_1000, mix_u87_1000, mix_r122, mix_u122, mix_r123, mix_u123, mix_r124, mix_u124, mix_r68, mix_u68, mix_r73, mix_u73, mix_r74, mix_u74, mix_r75, mix_u75, mix_r76, mix_u76, mix_r77, mix_u77, mix_r78, mix_u78, mix_r79, mix_u79, mix_r81, mix_u81, mix_r82, mix_u82, mix_r83, mix_u83, mix_r84, mix_u84, mix_r85, mix_u85, mix_r86, mix_u86, mix_r1087, mix_u1087]
theorem loc_X11_worth_L87 {V : ZI} {k12 : ZI → Int → Int → Option (Int × ZI)} (hk12 : ∀ (y : ZI) (v0 v1 : Int), k12 (mix V y) v0 v1 = mpV V (k12 y v0 v1)) : ∀ (f : Nat) (z : ZI) (x0 x1 x2 : Int), X11_worth_L87 k12 f (mix V z) x0 x1 x2 = mpV V (X11_worth_L87 k12 f z x0 x1 x2) := by
  intro f
  induction f with
  | zero => intros; rfl
  | succ f ih =>
    intro z x0 x1 x2
    exact loc_X11_worth_L87b hk12 ih z x0 x1 x2
theorem loc_X11_worth_b207 {V : ZI} {k12 : ZI → Int → Int → Option (Int × ZI)} (hk12 : ∀ (y : ZI) (v0 v1 : Int), k12 (mix V y) v0 v1 = mpV V (k12 y v0 v1)) : ∀ (z : ZI) (x1 x2 x3 : Int), X11_worth_b207 k12 (mix V z) x1 x2 x3 = mpV V (X11_worth_b207 k12 z x1 x2 x3) := by
  intro z x1 x2 x3
  unfold X11_worth_b207
  simp only [(loc_X11_worth_b227 hk12), hk12, loc_s, loc_g, loc_i, loc_y1, loc_y2, loc_l1, loc_l2, mix_r87_1000, mix_u87_1000, mix_r122, mix_u122, mix_r123, mix_u123, mix_r124, mix_u124, mix_r68, mix_u68, mix_r73, mix_u73, mix_r74, mix_u74, mix_r75, mix_u75, mix_r76, mix_u76, mix_r77, mix_u77, mix_r78, mix_u78, mix_r79, mix_u79, mix_r81, mix_u81, mix_r82, mix_u82, mix_r83, mix_u83, mix_r84, mix_u84, mix_r85, mix_u85, mix_r86, mix_u86, mix_r1087, mix_u1087]
theorem loc_X11_worth_L12b {V : ZI} {k12 : ZI → Int → Int → Option (Int × ZI)} (hk12 : ∀ (y : ZI) (v0 v1 : Int), k12 (mix V y) v0 v1 = mpV V (k12 y v0 v1)) : ∀ (z : ZI) (x1 x2 : Int), X11_worth_L12b k12 (mix V z) x1 x2 = mpV V (X11_worth_L12b k12 z x1 x2) := by
  intro z x1 x2
  unfold X11_worth_L12b
  simp only [loc_F_X11_isLetter, loc_F_X11_isDigit, loc_F_X11_rank, loc_F_X11_works, loc_X11_worth_b230, (loc_X11_worth_b227 hk12), (loc_X11_worth_L87 hk12), (loc_X11_worth_b207 hk12), hk12, loc_s, loc_g, loc_i, loc_y1, loc_y2, loc_l1, loc_l2, mix_r87_1000, mix_u87_1000, mix_r122, mix_u122, mix_r123, mix_u123, mix_r124, mix_u124, mix_r68, mix_u68, mix_r73, mix_u73, mix_r74, mix_u74, mix_r75, mix_u75, mix_r76, mix_u76, mix_r77, mix_u77, mix_r78, mix_u78, mix_r79, mix_u79, mix_r81, mix_u81, mix_r82, mix_u82, mix_r83, mix_u83, mix_r84, mix_u84, mix_r85, mix_u85, mix_r86, mix_u86, mix_r1087, mix_u1087]
theorem loc_X11_worth_L12 {V : ZI} : ∀ (f : Nat) (z : ZI) (x0 x1 : Int), X11_worth_L12 f (mix V z) x0 x1 = mpV V (X11_worth_L12 f z x0 x1) := by
  intro f
  induction f with
  | zero => intros; rfl
  | succ f ih =>
    intro z x0 x1
    exact loc_X11_worth_L12b ih z x0 x1
theorem loc_F_X11_worth {V : ZI} : ∀ (z : ZI) (x1 : Int), F_X11_worth (mix V z) x1 = mpV V (F_X11_worth z x1) := by
  intro z x1
  unfold F_X11_worth
  simp only [loc_X11_worth_L12, loc_s, loc_g, loc_i, loc_y1, loc_y2, loc_l1, loc_l2, mix_r87_1000, mix_u87_1000, mix_r122, mix_u122, mix_r123, mix_u123, mix_r124, mix_u124, mix_r68, mix_u68, mix_r73, mix_u73, mix_r74, mix_u74, mix_r75, mix_u75, mix_r76, mix_u76, mix_r77, mix_u77, mix_r78, mix_u78, mix_r79, mix_u79, mix_r81, mix_u81, mix_r82, mix_u82, mix_r83, mix_u83, mix_r84, mix_u84, mix_r85, mix_u85, mix_r86, mix_u86, mix_r1087, mix_u1087]
theorem loc_X11_pointsOf_b85 {V : ZI} : ∀ (z : ZI) (x1 x2 x3 y1 y2 : Int), X11_pointsOf_b85 (mix V z) x1 x2 x3 y1 y2 = mpV V (X11_pointsOf_b85 z x1 x2 x3 y1 y2) := by
  intro z x1 x2 x3 y1 y2
  unfold X11_pointsOf_b85
  simp only [loc_F_X11_hereOf, loc_F_X11_worth, loc_s, loc_g, loc_i, loc_y1, loc_y2, loc_l1, loc_l2, mix_r87_1000, mix_u87_1000, mix_r122, mix_u122, mix_r123, mix_u123, mix_r124, mix_u124, mix_r68, mix_u68, mix_r73, mix_u73, mix_r74, mix_u74, mix_r75, mix_u75, mix_r76, mix_u76, mix_r77, mix_u77, mix_r78, mix_u78, mix_r79, mix_u79, mix_r81, mix_u81, mix_r82, mix_u82, mix_r83, mix_u83, mix_r84, mix_u84, mix_r85, mix_u85, mix_r86, mix_u86, mix_r1087, mix_u1087]
theorem loc_F_X11_pointsOf {V : ZI} : ∀ (z : ZI) (x1 x2 : Int), F_X11_pointsOf (mix V z) x1 x2 = mpV V (F_X11_pointsOf z x1 x2) := by
  intro z x1 x2
  unfold F_X11_pointsOf
  simp only [loc_F_X11_stateOn, loc_F_X11_forceOf, loc_F_X11_noFacts, loc_X11_pointsOf_b85, loc_s, loc_g, loc_i, loc_y1, loc_y2, loc_l1, loc_l2, mix_r87_1000, mix_u87_1000, mix_r122, mix_u122, mix_r123, mix_u123, mix_r124, mix_u124, mix_r68, mix_u68, mix_r73, mix_u73, mix_r74, mix_u74, mix_r75, mix_u75, mix_r76, mix_u76, mix_r77, mix_u77, mix_r78, mix_u78, mix_r79, mix_u79, mix_r81, mix_u81, mix_r82, mix_u82, mix_r83, mix_u83, mix_r84, mix_u84, mix_r85, mix_u85, mix_r86, mix_u86, mix_r1087, mix_u1087]
theorem loc_X11_findList_b127 {V : ZI} {k4 : ZI → Int → Int → Int → Option (Int × ZI)} (hk4 : ∀ (y : ZI) (v0 v1 v2 : Int), k4 (mix V y) v0 v1 v2 = mpV V (k4 y v0 v1 v2)) : ∀ (z : ZI) (x1 x2 x3 : Int), X11_findList_b127 k4 (mix V z) x1 x2 x3 = mpV V (X11_findList_b127 k4 z x1 x2 x3) := by
  intro z x1 x2 x3
  unfold X11_findList_b127
  simp only [hk4, loc_s, loc_g, loc_i, loc_y1, loc_y2, loc_l1, loc_l2, mix_r87_1000, mix_u87_1000, mix_r122, mix_u122, mix_r123, mix_u123, mix_r124, mix_u124, mix_r68, mix_u68, mix_r73, mix_u73, mix_r74, mix_u74, mix_r75, mix_u75, mix_r76, mix_u76, mix_r77, mix_u77, mix_r78, mix_u78, mix_r79, mix_u79, mix_r81, mix_u81, mix_r82, mix_u82, mix_r83, mix_u83, mix_r84, mix_u84, mix_r85, mix_u85, mix_r86, mix_u86, mix_r1087, mix_u1087]
theorem loc_X11_findList_b102 {V : ZI} {k4 : ZI → Int → Int → Int → Option (Int × ZI)} (hk4 : ∀ (y : ZI) (v0 v1 v2 : Int), k4 (mix V y) v0 v1 v2 = mpV V (k4 y v0 v1 v2)) : ∀ (z : ZI) (x1 x2 x3 x4 x5 : Int), X11_findList_b102 k4 (mix V z) x1 x2 x3 x4 x5 = mpV V (X11_findList_b102 k4 z x1 x2 x3 x4 x5) := by
  intro z x1 x2 x3 x4 x5
  unfold X11_findList_b102
  simp only [(loc_X11_findList_b127 hk4), hk4, loc_s, loc_g, loc_i, loc_y1, loc_y2, loc_l1, loc_l2, mix_r87_1000, mix_u87_1000, mix_r122, mix_u122, mix_r123, mix_u123, mix_r124, mix_u124, mix_r68, mix_u68, mix_r73, mix_u73, mix_r74, mix_u74, mix_r75, mix_u75, mix_r76, mix_u76, mix_r77, mix_u77, mix_r78, mix_u78, mix_r79, mix_u79, mix_r81, mix_u81, mix_r82, mix_u82, mix_r83, mix_u83, mix_r84, mix_u84, mix_r85, mix_u85, mix_r86, mix_u86, mix_r1087, mix_u1087]
theorem loc_X11_findList_L45b {V : ZI} {k4 : ZI → Int → Int → Int → Option (Int × ZI)} {k45 : ZI → Int → Int → Int → Int → Int → Option (Int × ZI)} (hk4 : ∀ (y : ZI) (v0 v1 v2 : Int), k4 (mix V y) v0 v1 v2 = mpV V (k4 y v0 v1 v2)) (hk45 : ∀ (y : ZI) (v0 v1 v2 v3 v4 : Int), k45 (mix V y) v0 v1 v2 v3 v4 = mpV V (k45 y v0 v1 v2 v3 v4)) : ∀ (z : ZI) (x1 x2 x3 x4 x5 : Int), X11_findList_L45b k4 k45 (mix V z) x1 x2 x3 x4 x5 = mpV V (X11_findList_L45b k4 k45 z x1 x2 x3 x4 x5) := by
  intro z x1 x2 x3 x4 x5
  unfold X11_findList_L45b
  simp only [(loc_X11_findList_b102 hk4), hk4, hk45, loc_s, loc_g, loc_i, loc_y1, loc_y2, loc_l1, loc_l2, mix_r87_1000, mix_u87_1000, mix_r122, mix_u122, mix_r123, mix_u123, mix_r124, mix_u124, mix_r68, mix_u68, mix_r73, mix_u73, mix_r74, mix_u74, mix_r75, mix_u75, mix_r76, mix_u76, mix_r77, mix_u77, mix_r78, mix_u78, mix_r79, mix_u79, mix_r81, mix_u81, mix_r82, mix_u82, mix_r83, mix_u83, mix_r84, mix_u84, mix_r85, mix_u85, mix_r86, mix_u86, mix_r1087, mix_u1087]
theorem loc_X11_findList_L45 {V : ZI} {k4 : ZI → Int → Int → Int → Option (Int × ZI)} (hk4 : ∀ (y : ZI) (v0 v1 v2 : Int), k4 (mix V y) v0 v1 v2 = mpV V (k4 y v0 v1 v2)) : ∀ (f : Nat) (z : ZI) (x0 x1 x2 x3 x4 : Int), X11_findList_L45 k4 f (mix V z) x0 x1 x2 x3 x4 = mpV V (X11_findList_L45 k4 f z x0 x1 x2 x3 x4) := by
  intro f
  induction f with
  | zero => intros; rfl
  | succ f ih =>
    intro z x0 x1 x2 x3 x4
    exact loc_X11_findList_L45b hk4 ih z x0 x1 x2 x3 x4
theorem loc_X11_findList_L4b {V : ZI} {k4 : ZI → Int → Int → Int → Option (Int × ZI)} (hk4 : ∀ (y : ZI) (v0 v1 v2 : Int), k4 (mix V y) v0 v1 v2 = mpV V (k4 y v0 v1 v2)) : ∀ (z : ZI) (x1 x2 x3 : Int), X11_findList_L4b k4 (mix V z) x1 x2 x3 = mpV V (X11_findList_L4b k4 z x1 x2 x3) := by
  intro z x1 x2 x3
  unfold X11_findList_L4b
  simp only [loc_F_X11_isHere, loc_F_X11_pointsOf, (loc_X11_findList_b127 hk4), (loc_X11_findList_L45 hk4), hk4, loc_s, loc_g, loc_i, loc_y1, loc_y2, loc_l1, loc_l2, mix_r87_1000, mix_u87_1000, mix_r122, mix_u122, mix_r123, mix_u123, mix_r124, mix_u124, mix_r68, mix_u68, mix_r73, mix_u73, mix_r74, mix_u74, mix_r75, mix_u75, mix_r76, mix_u76, mix_r77, mix_u77, mix_r78, mix_u78, mix_r79, mix_u79, mix_r81, mix_u81, mix_r82, mix_u82, mix_r83, mix_u83, mix_r84, mix_u84, mix_r85, mix_u85, mix_r86, mix_u86, mix_r1087, mix_u1087]
theorem loc_X11_findList_L4 {V : ZI} : ∀ (f : Nat) (z : ZI) (x0 x1 x2 : Int), X11_findList_L4 f (mix V z) x0 x1 x2 = mpV V (X11_findList_L4 f z x0 x1 x2) := by
  intro f
  induction f with
  | zero => intros; rfl
  | succ f ih =>
    intro z x0 x1 x2
    exact loc_X11_findList_L4b ih z x0 x1 x2
theorem loc_F_X11_findList {V : ZI} : ∀ (z : ZI) (x1 : Int), F_X11_findList (mix V z) x1 = mpV V (F_X11_findList z x1) := by
  intro z x1
  unfold F_X11_findList
  simp only [loc_X11_findList_L4, loc_s, loc_g, loc_i, loc_y1, loc_y2, loc_l1, loc_l2, mix_r87_1000, mix_u87_1000, mix_r122, mix_u122, mix_r123, mix_u123, mix_r124, mix_u124, mix_r68, mix_u68, mix_r73, mix_u73, mix_r74, mix_u74, mix_r75, mix_u75, mix_r76, mix_u76, mix_r77, mix_u77, mix_r78, mix_u78, mix_r79, mix_u79, mix_r81, mix_u81, mix_r82, mix_u82, mix_r83, mix_u83, mix_r84, mix_u84, mix_r85, mix_u85, mix_r86, mix_u86, mix_r1087, mix_u1087]
