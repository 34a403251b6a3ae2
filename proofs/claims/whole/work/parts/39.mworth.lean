/-! texts: the reference works a text out in its stacks -/
def stk (a : Int → Int) : List Int → Prop
  | [] => True
  | x :: l => a l.length = x ∧ stk a l
theorem stk_c {a b : Int → Int} : ∀ {l : List Int}, stk a l → (∀ i : Int, 0 ≤ i → i < l.length → b i = a i) → stk b l
  | [], _, _ => trivial
  | x :: l, h, e => ⟨(e l.length (by omega) (by rw [List.length_cons]; omega)).trans h.1, stk_c h.2 (fun i h1 h2 => e i h1 (by rw [List.length_cons]; omega))⟩
def WV (z : ZI) (ws vs : List Int) : Prop := z 68 26 = ws.length ∧ z 68 27 = vs.length ∧ stk (z 86) ws ∧ stk (z (87 + 1000)) vs ∧ ∀ v ∈ vs, InR v
/-- but for the stacks nothing has changed -/
def FrW (z z2 : ZI) : Prop := ∀ k i, (z2 k i = z k i) ∨ (k = 68 ∧ (i = 26 ∨ i = 27)) ∨ k = 86 ∨ k = 87 + 1000
def Zwv (z : ZI) (w v : Int) (A B : Int → Int) : ZI := fun k i => if k = 68 ∧ i = 26 then w else if k = 68 ∧ i = 27 then v else if k = 86 then A i else if k = 87 + 1000 then B i else z k i
theorem FrW.eq {z z2 : ZI} (h : FrW z z2) : z2 = Zwv z (z2 68 26) (z2 68 27) (z2 86) (z2 (87 + 1000)) := by
  funext k i
  unfold Zwv
  by_cases h1 : k = 68 ∧ i = 26
  · rw [if_pos h1, h1.1, h1.2]
  · rw [if_neg h1]
    by_cases h2 : k = 68 ∧ i = 27
    · rw [if_pos h2, h2.1, h2.2]
    · rw [if_neg h2]
      by_cases h3 : k = 86
      · rw [if_pos h3, h3]
      · rw [if_neg h3]
        by_cases h4 : k = 87 + 1000
        · rw [if_pos h4, h4]
        · rw [if_neg h4]
          rcases h k i with q | q | q | q
          · exact q
          · omega
          · omega
          · omega
theorem FrW.rf (z : ZI) : FrW z z := fun _ _ => Or.inl rfl
theorem FrW.tr {z z2 z3 : ZI} (h : FrW z z2) (g : FrW z2 z3) : FrW z z3 := by
  intro k i
  rcases h k i with q | q
  · rcases g k i with r | r
    · exact Or.inl (r.trans q)
    · exact Or.inr r
  · exact Or.inr q
theorem FrW.k {z z2 : ZI} (h : FrW z z2) {k : Nat} (h1 : k ≠ 68) (h2 : k ≠ 86) (h3 : k ≠ 87 + 1000) : z2 k = z k := by
  funext i
  rcases h k i with q | q | q | q
  · exact q
  · omega
  · omega
  · omega
theorem FrW_w (z : ZI) (v : Int) : FrW z (Zup z 68 26 v) := by
  intro k i
  by_cases h : k = 68 ∧ i = 26
  · exact Or.inr (Or.inl ⟨h.1, Or.inl h.2⟩)
  · exact Or.inl (if_neg h)
theorem FrW_v (z : ZI) (v : Int) : FrW z (Zup z 68 27 v) := by
  intro k i
  by_cases h : k = 68 ∧ i = 27
  · exact Or.inr (Or.inl ⟨h.1, Or.inr h.2⟩)
  · exact Or.inl (if_neg h)
theorem FrW_a (z : ZI) (j v : Int) : FrW z (Zup z 86 j v) := by
  intro k i
  by_cases h : k = 86 ∧ i = j
  · exact Or.inr (Or.inr (Or.inl h.1))
  · exact Or.inl (if_neg h)
theorem FrW_b (z : ZI) (j v : Int) : FrW z (Zup z (87 + 1000) j v) := by
  intro k i
  by_cases h : k = 87 + 1000 ∧ i = j
  · exact Or.inr (Or.inr (Or.inr h.1))
  · exact Or.inl (if_neg h)
theorem m_rank (z : ZI) (b : Int) : F_X11_rank z b = some (rkS b, z) := by
  unfold F_X11_rank X11_rank_b43 X11_rank_b22 X11_rank_b38 X11_rank_b43 rkS
  grind
theorem m_held (z : ZI) (v : Int) : F_X11_held z v = some (hldS v, z) := by
  unfold F_X11_held X11_held_b29 hldS jcmp
  grind
theorem opvS_r (b x y : Int) : InR (opvS b x y) := by
  have := hldS_r (if b = 43 then x + y else if b = 45 then x - y else if b = 42 then x * y else if b = 47 then dvdS x y else if b = 60 then (if x < y then 1 else 0) else if b = 62 then (if y < x then 1 else 0) else (if x = y then 1 else 0))
  unfold opvS
  omega
theorem m_work1 {k0 : ZI → Int → Option (Unit × ZI)} {z : ZI} {l b x y : Int} {ws vs : List Int} (h : WV z (b :: ws) (y :: x :: vs)) (hw : ws.length ≤ 60) (hv : vs.length ≤ 60) (hr : l ≤ rkS b) : X11_works_L0b k0 z l = k0 (Zup (Zup (Zup z 68 26 ws.length) 68 27 (vs.length + 1)) (87 + 1000) vs.length (opvS b x y)) l := by
  obtain ⟨h1, h2, h3, h4, h5⟩ := h
  have q1 : z 68 26 = (ws.length : Int) + 1 := by rw [h1, List.length_cons]; omega
  have q2 : z 68 27 = (vs.length : Int) + 2 := by rw [h2, List.length_cons, List.length_cons]; omega
  have q3 : z 86 (ws.length : Int) = b := h3.1
  have q4 : z (87 + 1000) ((vs.length : Int) + 1) = y := h4.1
  have q5 : z (87 + 1000) (vs.length : Int) = x := h4.2.1
  have ix : InR x := h5 x (List.mem_cons_of_mem _ List.mem_cons_self)
  have iy : InR y := h5 y List.mem_cons_self
  have w0 : (0 : Int) ≤ (ws.length : Int) := by omega
  have w1 : (ws.length : Int) ≤ 60 := by omega
  have v0 : (0 : Int) ≤ (vs.length : Int) := by omega
  have v1 : (vs.length : Int) ≤ 60 := by omega
  clear h1 h2 h3 h4 h5 hw hv
  generalize (ws.length : Int) = W at *
  generalize (vs.length : Int) = V at *
  unfold X11_works_L0b
  rw [q1, if_neg (by omega), Zgd_t (by omega), show W + 1 - 1 = W by omega, Zgd_t (by omega), q3, m_rank, Yb_some, if_neg (by omega), q1, show W + 1 - 1 = W by omega, Zgd_t (by omega), Zl_eq]
  have e1 : (Zup z 68 26 W) 68 26 = W := Zup_s
  have e2 : (Zup z 68 26 W) 68 27 = V + 2 := (Zup_i (by decide)).trans q2
  have e3 : (Zup z 68 26 W) 86 = z 86 := Zup_k (by decide)
  rw [e1, e2, e3, q3, Zgd_t (by omega), Zgd_t (by omega), show V + 2 - 1 = V + 1 by omega, Zl_eq]
  have f1 : (Zup (Zup z 68 26 W) 68 27 (V + 1)) 68 27 = V + 1 := Zup_s
  have f2 : (Zup (Zup z 68 26 W) 68 27 (V + 1)) (87 + 1000) = z (87 + 1000) := (Zup_k (by decide)).trans (Zup_k (by decide))
  rw [f1, f2, show V + 1 - 1 = V by omega, q4, q5, Zgd_t (by omega), Zgd_t (by omega), Zgd_t (by omega)]
  generalize Zup (Zup z 68 26 W) 68 27 (V + 1) = z12 at *
  have hb : ∀ v, X11_works_b185 k0 z12 l v = k0 (Zup z12 (87 + 1000) V (hldS v)) l := by
    intro v
    unfold X11_works_b185
    rw [f1, Zgd_t (by omega), m_held, Yb_some, show V + 1 - 1 = V by omega, Zgd_t (by omega), Zl_eq]
  have hb4 : X11_works_b184 k0 z12 l = k0 (Zup z12 (87 + 1000) V (hldS 0)) l := hb 0
  have hb0 : X11_works_b180 k0 z12 l = k0 (Zup z12 (87 + 1000) V (hldS 1)) l := hb 1
  have hm := mul_InL ix iy
  have hd := Int.natAbs_tdiv_le_natAbs x y
  have hj : ∀ u v : Int, (u < v ∧ jcmp u v = -1) ∨ (u = v ∧ jcmp u v = 0) ∨ (v < u ∧ jcmp u v = 1) := by
    intro u v
    unfold jcmp
    grind
  have j1 := hj x y
  have j2 := hj y 0
  clear hj
  rw [hb4, hb0]
  simp only [hb]
  unfold opvS
  by_cases c1 : b = 43
  · rw [if_pos c1, if_pos c1, Zgd_t (by omega)]
  rw [if_neg c1, if_neg c1]
  by_cases c2 : b = 45
  · rw [if_pos c2, if_pos c2, Zgd_t (by omega)]
  rw [if_neg c2, if_neg c2]
  by_cases c3 : b = 42
  · rw [if_pos c3, if_pos c3, Zgd_t hm]
  rw [if_neg c3, if_neg c3]
  by_cases c4 : b = 47
  · rw [if_pos c4, if_pos c4]
    by_cases c5 : y = 0
    · have ed : dvdS x y = 0 := if_pos c5
      rw [ed, if_pos (by omega)]
    · have ed : dvdS x y = x.tdiv y := if_neg c5
      rw [ed, if_neg (by omega), Zgd_t c5, Zgd_t (by omega)]
  rw [if_neg c4, if_neg c4]
  by_cases c5 : b = 60
  · rw [if_pos c5, if_pos c5]
    by_cases c6 : x < y
    · rw [if_pos c6, if_neg (by omega)]
    · rw [if_neg c6, if_pos (by omega)]
  rw [if_neg c5, if_neg c5]
  by_cases c6 : b = 62
  · rw [if_pos c6, if_pos c6]
    by_cases c7 : y < x
    · rw [if_pos c7, if_neg (by omega)]
    · rw [if_neg c7, if_pos (by omega)]
  rw [if_neg c6, if_neg c6]
  by_cases c7 : x = y
  · rw [if_pos c7, if_pos (by omega)]
  · rw [if_neg c7, if_neg (by omega)]
theorem WV_pop {z : ZI} {b x y v : Int} {ws vs : List Int} (h : WV z (b :: ws) (y :: x :: vs)) (hv : InR v) : WV (Zup (Zup (Zup z 68 26 ws.length) 68 27 (vs.length + 1)) (87 + 1000) vs.length v) ws (v :: vs) := by
  obtain ⟨h1, h2, h3, h4, h5⟩ := h
  refine ⟨?_, ?_, ?_, ⟨Zup_s, stk_c h4.2.2 (fun i i1 i2 => ?_)⟩, fun w hw => ?_⟩
  · rw [Zup_k (by decide), Zup_i (by decide), Zup_s]
  · rw [Zup_k (by decide), Zup_s, List.length_cons]; omega
  · rw [Zup_k (by decide), Zup_k (by decide), Zup_k (by decide)]
    exact h3.2
  · rw [Zup_i (by omega), Zup_k (by decide), Zup_k (by decide)]
  · rcases List.mem_cons.mp hw with q | q
    · rw [q]; exact hv
    · exact h5 w (List.mem_cons_of_mem _ (List.mem_cons_of_mem _ q))
theorem m_works_L : ∀ (ws vs : List Int) (z : ZI) (f : Nat) (l : Int) (r : List Int × List Int), WV z ws vs → ws.length ≤ 60 → vs.length ≤ 60 → ws.length < f → wkL l ws vs = some r → ∃ z2, X11_works_L0 f z l = some ((), z2) ∧ WV z2 r.1 r.2 ∧ FrW z z2 ∧ r.1.length ≤ ws.length ∧ r.2.length ≤ vs.length
  | [], vs, z, f, l, r, h, hw, hv, hf, e => by
    obtain ⟨g, rfl⟩ : ∃ g, f = g + 1 := ⟨f - 1, by omega⟩
    have e : some (([] : List Int), vs) = some r := e
    obtain rfl := Option.some.inj e
    refine ⟨z, ?_, h, FrW.rf z, Nat.le_refl _, Nat.le_refl _⟩
    show X11_works_L0b (X11_works_L0 g) z l = _
    have h1 : z 68 26 = 0 := h.1
    unfold X11_works_L0b
    rw [if_pos (by omega)]
    rfl
  | b :: ws, vs, z, f, l, r, h, hw, hv, hf, e => by
    obtain ⟨g, rfl⟩ : ∃ g, f = g + 1 := ⟨f - 1, by omega⟩
    rw [List.length_cons] at hw hf
    by_cases c : rkS b < l
    · rw [wkL_top (show TR l (b :: ws) from c)] at e
      obtain rfl := Option.some.inj e
      refine ⟨z, ?_, h, FrW.rf z, Nat.le_refl _, Nat.le_refl _⟩
      show X11_works_L0b (X11_works_L0 g) z l = _
      have q1 : z 68 26 = (ws.length : Int) + 1 := by rw [h.1, List.length_cons]; omega
      have q3 : z 86 (ws.length : Int) = b := h.2.2.1.1
      unfold X11_works_L0b
      rw [q1, if_neg (by omega), Zgd_t (by omega), show (ws.length : Int) + 1 - 1 = ws.length by omega, Zgd_t (by omega), q3, m_rank, Yb_some, if_pos c]
      rfl
    · match vs, h, hv, e with
      | [], _, _, e =>
        have e : (if rkS b < l then some (b :: ws, []) else none) = some r := e
        rw [if_neg c] at e
        exact absurd e (by simp)
      | [y], _, _, e =>
        have e : (if rkS b < l then some (b :: ws, [y]) else none) = some r := e
        rw [if_neg c] at e
        exact absurd e (by simp)
      | y :: x :: vs, h, hv, e =>
        rw [wkL_op (by omega)] at e
        rw [List.length_cons, List.length_cons] at hv
        obtain ⟨z2, i1, i2, i3, i4, i5⟩ := m_works_L ws (opvS b x y :: vs) _ g l r (WV_pop h (opvS_r b x y)) (by omega) (by rw [List.length_cons]; omega) (by omega) e
        refine ⟨z2, ?_, i2, (((FrW_w _ _).tr (FrW_v _ _)).tr (FrW_b _ _ _)).tr i3, by rw [List.length_cons]; omega, by rw [List.length_cons] at i5; rw [List.length_cons, List.length_cons]; omega⟩
        show X11_works_L0b (X11_works_L0 g) z l = _
        rw [m_work1 h (by omega) (by omega) (by omega)]
        exact i1
theorem m_works {ws vs : List Int} {z : ZI} {l : Int} {r : List Int × List Int} (h : WV z ws vs) (hw : ws.length ≤ 60) (hv : vs.length ≤ 60) (e : wkL l ws vs = some r) : ∃ z2, F_X11_works z l = some ((), z2) ∧ WV z2 r.1 r.2 ∧ FrW z z2 ∧ r.1.length ≤ ws.length ∧ r.2.length ≤ vs.length :=
  m_works_L ws vs z Zfuel l r h hw hv (by unfold Zfuel; omega) e
def Zpv (z : ZI) (x : Int) : ZI := Zup (Zup z (87 + 1000) (z 68 27) x) 68 27 (z 68 27 + 1)
def Zpw (z : ZI) (b : Int) : ZI := Zup (Zup z 86 (z 68 26) b) 68 26 (z 68 26 + 1)
theorem Zpv_F (z : ZI) (x : Int) : FrW z (Zpv z x) := (FrW_b _ _ _).tr (FrW_v _ _)
theorem Zpw_F (z : ZI) (x : Int) : FrW z (Zpw z x) := (FrW_a _ _ _).tr (FrW_w _ _)
theorem WV_pv {z : ZI} {x : Int} {ws vs : List Int} (h : WV z ws vs) (hx : InR x) : WV (Zpv z x) ws (x :: vs) := by
  obtain ⟨h1, h2, h3, h4, h5⟩ := h
  unfold Zpv
  rw [h2]
  refine ⟨?_, ?_, ?_, ⟨?_, stk_c h4 (fun i i1 i2 => ?_)⟩, fun w hw => ?_⟩
  · rw [Zup_i (by decide), Zup_k (by decide), h1]
  · rw [Zup_s, List.length_cons]; omega
  · rw [Zup_k (by decide), Zup_k (by decide)]
    exact h3
  · rw [Zup_k (by decide), Zup_s]
  · rw [Zup_k (by decide), Zup_i (by omega)]
  · rcases List.mem_cons.mp hw with q | q
    · rw [q]; exact hx
    · exact h5 w q
theorem WV_pw {z : ZI} {b : Int} {ws vs : List Int} (h : WV z ws vs) : WV (Zpw z b) (b :: ws) vs := by
  obtain ⟨h1, h2, h3, h4, h5⟩ := h
  unfold Zpw
  rw [h1]
  refine ⟨?_, ?_, ⟨?_, stk_c h3 (fun i i1 i2 => ?_)⟩, ?_, h5⟩
  · rw [Zup_s, List.length_cons]; omega
  · rw [Zup_i (by decide), Zup_k (by decide), h2]
  · rw [Zup_k (by decide), Zup_s]
  · rw [Zup_k (by decide), Zup_i (by omega)]
  · rw [Zup_k (by decide), Zup_k (by decide)]
    exact h4
theorem WV_ow {z : ZI} {b : Int} {ws vs : List Int} (h : WV z (b :: ws) vs) : WV (Zup z 68 26 (z 68 26 - 1)) ws vs := by
  obtain ⟨h1, h2, h3, h4, h5⟩ := h
  rw [h1]
  refine ⟨?_, ?_, ?_, ?_, h5⟩
  · rw [Zup_s, List.length_cons]; omega
  · rw [Zup_i (by decide), h2]
  · rw [Zup_k (by decide)]
    exact h3.2
  · rw [Zup_k (by decide)]
    exact h4
theorem m_pushv {β : Type} {K0 : ZI → Option β} {z : ZI} {x : Int} (h : 0 ≤ z 68 27 ∧ z 68 27 < 70) : (Zgd (IJ (z 68 27) 70) (Zl (Zup z (87 + 1000) (z 68 27) x) fun z2_ => Zgd (InR ((z2_ 68 27) + 1)) (Zl (Zup z2_ 68 27 ((z2_ 68 27) + 1)) fun z4_ => K0 z4_))) = K0 (Zpv z x) := by
  have e : ∀ i v, (Zup z (87 + 1000) i v) 68 27 = z 68 27 := fun i v => by rw [Zup_k (by decide)]
  rw [Zgd_t (by omega), Zl_eq, e, Zgd_t (by omega), Zl_eq]
  rfl
theorem m_pushw {k12 : ZI → Int → Int → Option (Int × ZI)} {z : ZI} {r t b : Int} (h : 0 ≤ z 68 26 ∧ z 68 26 < 70) : X11_worth_b207 k12 z r t b = k12 (Zpw z b) r t := by
  have e : ∀ i v, (Zup z 86 i v) 68 26 = z 68 26 := fun i v => by rw [Zup_k (by decide)]
  unfold X11_worth_b207
  rw [Zgd_t (by omega), Zl_eq, e, Zgd_t (by omega), Zl_eq]
  rfl
theorem m_num {k12 : ZI → Int → Int → Option (Int × ZI)} {z : ZI} {a : Int → Int} {n r : Int} (hz : z 82 r = n) (hr : 0 ≤ r ∧ r < 30) (hn : n ≤ 60) (ha : ∀ i, 0 ≤ i → i < n → z 81 (60 * r + i) = a i) : ∀ (m f : Nat) (t v : Int), m < f → 0 ≤ t → t ≤ n → 0 ≤ v → m ≤ 3 → (m = 3 → v ≤ 9) → (m = 2 → v ≤ 99) → (m = 1 → v ≤ 999) → (m = 0 → v ≤ 9999) → ¬ isDig (nxS a n (numR a n m t v).2) → X11_worth_L87 k12 f z r t v = X11_worth_b145 k12 z r (numR a n m t v).2 (numR a n m t v).1 := by
  have stop : ∀ (f : Nat) (t v : Int), 0 ≤ t → t ≤ n → ¬ isDig (nxS a n t) → X11_worth_L87 k12 (f + 1) z r t v = X11_worth_b145 k12 z r t v := by
    intro f t v h0 h1 nd
    show X11_worth_L87b k12 (X11_worth_L87 k12 f) z r t v = _
    unfold X11_worth_L87b
    rw [hz, Zgd_t (by omega)]
    rcases nx_sg (a := a) (n := n) (t := t) with ⟨k1, k2, k3⟩ | ⟨k1, k2, k3⟩
    · rw [k2] at nd
      rw [if_neg (by omega), Zgd_t (by omega), Zgd_t (by omega), Zgd_t (by omega), ha t h0 k1, m_dig, Yb_some, bi_f nd, if_pos rfl]
    · rw [if_pos k1]
  intro m
  induction m with
  | zero =>
    intro f t v hf h0 h1 h2 _ _ _ _ _ nd
    obtain ⟨f, rfl⟩ : ∃ g, f = g + 1 := ⟨f - 1, by omega⟩
    exact stop f t v h0 h1 nd
  | succ m ih =>
    intro f t v hf h0 h1 h2 h3 g3 g2 g1 g0 nd
    obtain ⟨f, rfl⟩ : ∃ g, f = g + 1 := ⟨f - 1, by omega⟩
    have u : numR a n (m + 1) t v = if isDig (nxS a n t) then numR a n m (t + 1) (10 * v + nxS a n t - 48) else (v, t) := rfl
    rw [u] at nd ⊢
    by_cases h : isDig (nxS a n t)
    · rw [if_pos h] at nd ⊢
      rcases nx_sg (a := a) (n := n) (t := t) with ⟨k1, k2, k3⟩ | ⟨k1, k2, k3⟩
      · have i := ih f (t + 1) (10 * v + nxS a n t - 48) (by omega) (by omega) (by omega) (by omega) (by omega) (by omega) (by omega) (by omega) (by omega) nd
        rw [← i]
        show X11_worth_L87b k12 (X11_worth_L87 k12 f) z r t v = _
        unfold X11_worth_L87b
        rw [k2] at h ⊢
        rw [hz, Zgd_t (by omega), if_neg (by omega), Zgd_t (by omega), Zgd_t (by omega), Zgd_t (by omega), ha t h0 k1, m_dig, Yb_some, bi_t h, if_neg (by decide), ha t h0 k1, Zgd_t (by omega), Zgd_t (by omega), Zgd_t (by omega), Zgd_t (by omega), Zgd_t (by omega), Zgd_t (by omega), Zgd_t (by omega)]
      · rw [k2] at h
        exact absurd h (by decide)
    · rw [if_neg h] at nd ⊢
      exact stop f t v h0 h1 nd
theorem endV_1 {q : Option (List Int × List Int)} {v : Int} (e : endV q = some v) : ∃ w, q = some (w, [v]) := by
  match q, e with
  | none, e => exact absurd e (by simp [endV])
  | some (w, []), e => exact absurd e (by simp [endV])
  | some (w, [x]), e =>
    have e : some x = some v := e
    exact ⟨w, by rw [Option.some.inj e]⟩
  | some (w, _ :: _ :: _), e => exact absurd e (by simp [endV])
theorem clsV_1 {q r : Option (List Int × List Int)} {R : List Int × List Int → Option Int} {v : Int} (e : (clsV q).bind R = some v) : ∃ b w u, q = some (b :: w, u) ∧ R (w, u) = some v := by
  match q, e with
  | none, e => exact absurd e (by simp [clsV])
  | some ([], u), e => exact absurd e (by simp [clsV])
  | some (b :: w, u), e => exact ⟨b, w, u, rfl, e⟩
theorem bind_1 {q : Option (List Int × List Int)} {R : List Int × List Int → Option Int} {v : Int} (e : q.bind R = some v) : ∃ w u, q = some (w, u) ∧ R (w, u) = some v := by
  match q, e with
  | none, e => exact absurd e (by simp)
  | some (w, u), e => exact ⟨w, u, rfl, e⟩
theorem m_worth_L {a : Int → Int} {n r : Int} {fa : Int → Int} (hr : 0 ≤ r ∧ r < 30) (hn : 0 ≤ n ∧ n ≤ 60) (hfa : ∀ b, isLet b → InR (fa b)) : ∀ (f : Nat) (t : Int) (ws vs : List Int) (z : ZI) (F : Nat) (v : Int), wM a n fa f t ws vs = some v → WV z ws vs → (ws.length : Int) ≤ t → (vs.length : Int) ≤ t → t ≤ n → f ≤ F → z 82 r = n → (∀ i, 0 ≤ i → i < n → z 81 (60 * r + i) = a i) → z 85 = fa → ∃ z2, X11_worth_L12 F z r t = some (v, z2) ∧ FrW z z2
  | 0, t, ws, vs, z, F, v, e, _, _, _, _, _, _, _, _ => by
    have e : none = some v := e
    exact absurd e (by simp)
  | f + 1, t, ws, vs, z, F, v, e, h, hw, hv, ht, hF, hz, ha, hf => by
    obtain ⟨G, rfl⟩ : ∃ g, F = g + 1 := ⟨F - 1, by omega⟩
    have t0 : 0 ≤ t := by omega
    have z27 : z 68 27 = vs.length := h.2.1
    have z26 : z 68 26 = ws.length := h.1
    have us : X11_worth_L12 (G + 1) z r t = X11_worth_L12b (X11_worth_L12 G) z r t := rfl
    rw [us]
    unfold X11_worth_L12b
    by_cases c0 : n ≤ t
    · rw [wM_end c0] at e
      obtain ⟨w, hk⟩ := endV_1 e
      obtain ⟨z2, i1, i2, i3, -⟩ := m_works h (by omega) (by omega) hk
      refine ⟨z2, ?_, i3⟩
      rw [Zgd_t (by omega), hz, if_pos c0]
      unfold X11_worth_b230
      have q : z2 (87 + 1000) 0 = v := i2.2.2.2.1.1
      rw [i1, Yb_some, Zgd_t (by omega), q, jl2i_id (i2.2.2.2.2 v List.mem_cons_self)]
    · rw [Zgd_t (by omega), hz, if_neg c0, Zgd_t (by omega), Zgd_t (by omega), Zgd_t (by omega), ha t t0 (by omega), Zgd_t (by omega), m_let, Yb_some]
      rw [wM.eq_2, if_neg c0] at e
      by_cases c1 : isLet (a t)
      · rw [if_pos c1] at e
        have fr := Zpv_F z (fa (a t))
        obtain ⟨z2, i1, i2⟩ := m_worth_L hr hn hfa f (t + 1) ws (fa (a t) :: vs) (Zpv z (fa (a t))) G v e (WV_pv h (hfa _ c1)) (by omega) (by rw [List.length_cons]; omega) (by omega) (by omega) (by rw [fr.k (by decide) (by decide) (by decide)]; exact hz) (by rw [fr.k (by decide) (by decide) (by decide)]; exact ha) (by rw [fr.k (by decide) (by decide) (by decide)]; exact hf)
        refine ⟨z2, ?_, fr.tr i2⟩
        rw [bi_t c1, if_neg (by decide), Zgd_t (by omega), hf]
        exact (m_pushv (K0 := fun z4 => X11_worth_b227 (X11_worth_L12 G) z4 r (t + 1)) (by omega)).trans i1
      rw [if_neg c1] at e
      rw [bi_f c1, if_pos rfl, m_dig, Yb_some]
      by_cases c2 : isDig (a t)
      · rw [if_pos c2] at e
        by_cases c3 : isDig (nxS a n (numR a n 4 t 0).2)
        · rw [if_pos c3] at e
          exact absurd e (by simp)
        rw [if_neg c3] at e
        have r4 := dgR_r a n 4 t ht
        have r5 := dgR_gt (a := a) (t := t) (n := n) (by omega) (by
          rcases nx_sg (a := a) (n := n) (t := t) with ⟨k1, k2, k3⟩ | ⟨k1, k2, k3⟩
          · rw [k3]; exact c2
          · omega)
        rw [← num_dg a n 4 t 0] at r4 r5
        have nr := numR_v a n 4 t 0 0 (by decide) (by decide) (by decide) (by decide)
        have fr := Zpv_F z (numR a n 4 t 0).1
        obtain ⟨z2, i1, i2⟩ := m_worth_L hr hn hfa f (numR a n 4 t 0).2 ws ((numR a n 4 t 0).1 :: vs) (Zpv z (numR a n 4 t 0).1) G v e (WV_pv h (by omega)) (by omega) (by rw [List.length_cons]; omega) (by omega) (by omega) (by rw [fr.k (by decide) (by decide) (by decide)]; exact hz) (by rw [fr.k (by decide) (by decide) (by decide)]; exact ha) (by rw [fr.k (by decide) (by decide) (by decide)]; exact hf)
        refine ⟨z2, ?_, fr.tr i2⟩
        have u : numR a n 4 t 0 = if isDig (nxS a n t) then numR a n 3 (t + 1) (10 * 0 + nxS a n t - 48) else (0, t) := rfl
        have k2 : nxS a n t = a t := if_pos (by omega)
        rw [k2, if_pos c2, show 10 * 0 + a t - 48 = a t - 48 by omega] at u
        rw [u] at c3 i1
        have e2 := m_num (k12 := X11_worth_L12 G) hz hr hn.2 ha 3 Zfuel (t + 1) (a t - 48) (by unfold Zfuel; omega) (by omega) (by omega) (by omega) (by omega) (by omega) (by omega) (by omega) (by omega) c3
        rw [bi_t c2, if_neg (by decide), Zgd_t (by omega), e2]
        unfold X11_worth_b145
        exact (m_pushv (K0 := fun z4 => X11_worth_b227 (X11_worth_L12 G) z4 r _) (by omega)).trans i1
      rw [if_neg c2] at e
      rw [bi_f c2, if_pos rfl]
      by_cases c3 : a t = 41
      · rw [if_pos c3] at e
        obtain ⟨b, w, u, hk, e⟩ := clsV_1 (r := none) e
        obtain ⟨z1, i1, i2, i3, i4, i5⟩ := m_works h (by omega) (by omega) hk
        rw [List.length_cons] at i4
        have i5 : u.length ≤ vs.length := i5
        have z26b : z1 68 26 = (w.length : Int) + 1 := by rw [i2.1, List.length_cons]; omega
        have fr := i3.tr (FrW_w z1 (z1 68 26 - 1))
        obtain ⟨z2, j1, j2⟩ := m_worth_L hr hn hfa f (t + 1) w u (Zup z1 68 26 (z1 68 26 - 1)) G v e (WV_ow i2) (by omega) (by omega) (by omega) (by omega) (by rw [fr.k (by decide) (by decide) (by decide)]; exact hz) (by rw [fr.k (by decide) (by decide) (by decide)]; exact ha) (by rw [fr.k (by decide) (by decide) (by decide)]; exact hf)
        refine ⟨z2, ?_, fr.tr j2⟩
        rw [if_pos c3, i1, Yb_some, Zgd_t (by omega), Zl_eq]
        exact j1
      rw [if_neg c3] at e
      rw [if_neg c3]
      by_cases c4 : a t = 40
      · rw [if_pos c4] at e
        have fr := Zpw_F z 40
        obtain ⟨z2, j1, j2⟩ := m_worth_L hr hn hfa f (t + 1) (40 :: ws) vs (Zpw z 40) G v e (WV_pw h) (by rw [List.length_cons]; omega) (by omega) (by omega) (by omega) (by rw [fr.k (by decide) (by decide) (by decide)]; exact hz) (by rw [fr.k (by decide) (by decide) (by decide)]; exact ha) (by rw [fr.k (by decide) (by decide) (by decide)]; exact hf)
        refine ⟨z2, ?_, fr.tr j2⟩
        rw [if_pos c4, m_pushw (by omega), c4]
        exact j1
      rw [if_neg c4] at e
      rw [if_neg c4, m_rank, Yb_some]
      obtain ⟨w, u, hk, e⟩ := bind_1 e
      obtain ⟨z1, i1, i2, i3, i4, i5⟩ := m_works h (by omega) (by omega) hk
      have i4 : w.length ≤ ws.length := i4
      have i5 : u.length ≤ vs.length := i5
      have z26b : z1 68 26 = w.length := i2.1
      have fr := i3.tr (Zpw_F z1 (a t))
      obtain ⟨z2, j1, j2⟩ := m_worth_L hr hn hfa f (t + 1) (a t :: w) u (Zpw z1 (a t)) G v e (WV_pw i2) (by rw [List.length_cons]; omega) (by omega) (by omega) (by omega) (by rw [fr.k (by decide) (by decide) (by decide)]; exact hz) (by rw [fr.k (by decide) (by decide) (by decide)]; exact ha) (by rw [fr.k (by decide) (by decide) (by decide)]; exact hf)
      refine ⟨z2, ?_, fr.tr j2⟩
      rw [i1, Yb_some, m_pushw (by omega)]
      exact j1
/-- what the reference works out of a rule's text -/
theorem m_worth {z : ZI} {r : Int} {lt : Int → Int} (hU : JU z) (h : 0 ≤ r ∧ r < z 68 22) (hF : ∀ b, isLet b → lt b = z 85 b) (hfa : ∀ b, isLet b → InR (z 85 b)) : ∃ z2, F_X11_worth z r = some ((pS (fun i => z 81 (60 * r + i)) (z 82 r) lt 6 0).1, z2) ∧ FrW z z2 := by
  obtain ⟨u1, u2, u3, u4⟩ := hU
  obtain ⟨v1, v2, v3, v4, v5, v6, v7⟩ := u4 r h.1 h.2
  have pe := par_eq (fun i => z 81 (60 * r + i)) lt ⟨v4, v5⟩ (fun t h1 h2 => (v6 t h1 h2).1)
  have hg : fauS (z 82 r) (pS (fun i => z 81 (60 * r + i)) (z 82 r) lt 6 0) = -9 := by
    apply Classical.byContradiction
    intro q
    rw [if_neg q] at pe
    rw [pe] at v7
    exact absurd v7 (show ¬ (0 : Int) = 1 by decide)
  have e := w_all (a := fun i => z 81 (60 * r + i)) (fa := z 85) ⟨v4, v5⟩ hF hg
  have fr := (FrW_w z 0).tr (FrW_v (Zup z 68 26 0) 0)
  obtain ⟨z2, i1, i2⟩ := m_worth_L (r := r) ⟨h.1, by omega⟩ ⟨v4, v5⟩ hfa 200 0 [] [] (Zup (Zup z 68 26 0) 68 27 0) Zfuel _ e ⟨by rw [Zup_i (by decide), Zup_s]; rfl, Zup_s, trivial, trivial, fun _ q => absurd q (by simp)⟩ (Int.le_refl _) (Int.le_refl _) v4 (by unfold Zfuel; omega) (by rw [fr.k (by decide) (by decide) (by decide)]) (by rw [fr.k (by decide) (by decide) (by decide)]; exact fun _ _ _ => rfl) (fr.k (by decide) (by decide) (by decide))
  exact ⟨z2, i1, fr.tr i2⟩
