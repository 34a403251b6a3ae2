/-! rain: the class puts its cells in order -/
def Zfp (z : ZI) (n : Int) (A B C D E : Int → Int) : ZI := fun k i => if k = 2 ∧ i = 8 then n else if k = 6 then A i else if k = 7 then B i else if k = 8 then C i else if k = 9 then D i else if k = 10 then E i else z k i
def FrP (z z2 : ZI) : Prop := ∀ k i, (z2 k i = z k i) ∨ (k = 2 ∧ i = 8) ∨ k = 6 ∨ k = 7 ∨ k = 8 ∨ k = 9 ∨ k = 10
theorem FrP.eq {z z2 : ZI} (h : FrP z z2) : z2 = Zfp z (z2 2 8) (z2 6) (z2 7) (z2 8) (z2 9) (z2 10) := by
  funext k i
  unfold Zfp
  by_cases h1 : k = 2 ∧ i = 8
  · rw [if_pos h1, h1.1, h1.2]
  · rw [if_neg h1]
    by_cases h2 : k = 6
    · rw [if_pos h2, h2]
    · rw [if_neg h2]
      by_cases h3 : k = 7
      · rw [if_pos h3, h3]
      · rw [if_neg h3]
        by_cases h4 : k = 8
        · rw [if_pos h4, h4]
        · rw [if_neg h4]
          by_cases h5 : k = 9
          · rw [if_pos h5, h5]
          · rw [if_neg h5]
            by_cases h6 : k = 10
            · rw [if_pos h6, h6]
            · rw [if_neg h6]
              rcases h k i with q | q | q | q | q | q | q
              · exact q
              all_goals omega
theorem FrP.rf (z : ZI) : FrP z z := fun _ _ => Or.inl rfl
theorem FrP.tr {z z2 z3 : ZI} (h : FrP z z2) (g : FrP z2 z3) : FrP z z3 := by
  intro k i
  rcases h k i with q | q
  · rcases g k i with r | r
    · exact Or.inl (r.trans q)
    · exact Or.inr r
  · exact Or.inr q
theorem FrP.k {z z2 : ZI} (h : FrP z z2) {k : Nat} (h1 : k ≠ 2) (h2 : k ≠ 6) (h3 : k ≠ 7) (h4 : k ≠ 8) (h5 : k ≠ 9) (h6 : k ≠ 10) : z2 k = z k := by
  funext i
  rcases h k i with q | q | q | q | q | q | q
  · exact q
  all_goals omega
theorem FrP.q {z z2 : ZI} (h : FrP z z2) {i : Int} (hi : i ≠ 8) : z2 2 i = z 2 i := by
  rcases h 2 i with q | q | q | q | q | q | q
  · exact q
  · exact absurd q.2 hi
  all_goals exact absurd q (by decide)
theorem FrP_r {z : ZI} {k : Nat} {f : Int → Int} (hk : k = 6 ∨ k = 7 ∨ k = 8 ∨ k = 9 ∨ k = 10) : FrP z (Zro z k f) := by
  intro k' i
  by_cases h : k' = k
  · rw [h]; exact Or.inr (Or.inr hk)
  · exact Or.inl (if_neg h)
theorem FrP_2 {z : ZI} {a b : Nat} {A B : Int → Int} (ha : a = 6 ∨ a = 7 ∨ a = 8 ∨ a = 9 ∨ a = 10) (hb : b = 6 ∨ b = 7 ∨ b = 8 ∨ b = 9 ∨ b = 10) : FrP z (Ztwo z a b A B) := by
  intro k' i
  by_cases h : k' = a
  · rw [h]; exact Or.inr (Or.inr ha)
  · by_cases h2 : k' = b
    · rw [h2]; exact Or.inr (Or.inr hb)
    · exact Or.inl (by rw [Ztwo_k h h2])
theorem FrP_u (z : ZI) (v : Int) : FrP z (Zup z 2 8 v) := by
  intro k i
  by_cases h : k = 2 ∧ i = 8
  · exact Or.inr (Or.inl h)
  · exact Or.inl (if_neg h)
theorem K_fp {z : ZI} {n : Int} {A B C D E : Int → Int} (hv : JV (Zfp z n A B C D E)) (h : K z) : K (Zfp z n A B C D E) := by
  obtain ⟨hD, hH, hP, hS, hL, hT, hE, hV, hA, hU, hC, hK, hW, hB, hG, hX, hQ, hO⟩ := h
  exact ⟨(JD_c rfl rfl hD), (JH_c rfl rfl rfl rfl rfl rfl rfl hH), (JP_c rfl rfl rfl rfl rfl rfl rfl rfl rfl rfl rfl rfl hP), (JS_c rfl rfl rfl rfl rfl rfl rfl rfl rfl rfl rfl hS), (JL_c rfl rfl hL), (JT_c rfl rfl rfl rfl rfl hT), (JE_c rfl rfl rfl rfl hE), hv, (JA_c rfl rfl rfl rfl hA), (JU_c rfl rfl rfl rfl rfl rfl rfl rfl rfl rfl hU), (JC_c rfl rfl rfl rfl rfl rfl rfl rfl rfl rfl hC), (JK_c rfl rfl rfl rfl rfl rfl rfl rfl rfl hK), (JW_c rfl rfl rfl rfl rfl rfl rfl rfl rfl rfl hW), (JB_c rfl rfl rfl rfl rfl rfl rfl rfl rfl rfl rfl rfl rfl rfl rfl rfl rfl rfl rfl rfl hB), (JG_c rfl rfl rfl rfl rfl hG), (JX_c rfl rfl rfl rfl rfl hX), (JQ_c rfl rfl rfl rfl rfl hQ), (JO_c rfl rfl rfl rfl rfl rfl rfl rfl rfl rfl rfl hO)⟩
theorem FrP_K {z z2 : ZI} (h : FrP z z2) (hv : JV z2) (hK : K z) : K z2 := by
  rw [h.eq] at hv ⊢
  exact K_fp hv hK
theorem JN_fp {n : Int} {z z2 : ZI} (h : JN n z) (f : FrP z z2) : JN n z2 := by
  intro i a b
  rw [f.k (k := 1) (by decide) (by decide) (by decide) (by decide) (by decide) (by decide), f.k (k := 69) (by decide) (by decide) (by decide) (by decide) (by decide) (by decide)]
  exact h i a b
/-- how many of the first n are so -/
def cnR (p : Nat → Bool) : Nat → Int
  | 0 => 0
  | n + 1 => cnR p n + if p n then 1 else 0
theorem cnR_s (p : Nat → Bool) (n : Nat) : cnR p (n + 1) = cnR p n + if p n then 1 else 0 := rfl
theorem cnR_b (p : Nat → Bool) : ∀ n : Nat, 0 ≤ cnR p n ∧ cnR p n ≤ n
  | 0 => ⟨Int.le_refl _, Int.le_refl _⟩
  | n + 1 => by
    have := cnR_b p n
    rw [cnR_s]
    split <;> omega
theorem cnR_m (p : Nat → Bool) {m : Nat} : ∀ n : Nat, m ≤ n → cnR p m ≤ cnR p n
  | 0, h => by
    obtain rfl : m = 0 := by omega
    exact Int.le_refl _
  | n + 1, h => by
    by_cases c : m = n + 1
    · rw [c]; exact Int.le_refl _
    · have := cnR_m p (m := m) n (by omega)
      rw [cnR_s]
      split <;> omega
theorem cnR_add {p q r : Nat → Bool} (h : ∀ j, (p j = true ∧ q j = false ∧ r j = true) ∨ (p j = false ∧ q j = true ∧ r j = true) ∨ (p j = false ∧ q j = false ∧ r j = false)) : ∀ n : Nat, cnR p n + cnR q n = cnR r n
  | 0 => rfl
  | n + 1 => by
    have i := cnR_add h n
    rw [cnR_s, cnR_s, cnR_s]
    rcases h n with ⟨a, b, c⟩ | ⟨a, b, c⟩ | ⟨a, b, c⟩ <;> rw [a, b, c] <;> simp only [if_true, Bool.false_eq_true, if_false] <;> omega
theorem cnR_cg {p q : Nat → Bool} : ∀ n : Nat, (∀ j, j < n → p j = q j) → cnR p n = cnR q n
  | 0, _ => rfl
  | n + 1, h => by rw [cnR_s, cnR_s, cnR_cg n (fun j hj => h j (by omega)), h n (by omega)]
theorem cnR_imp {p q : Nat → Bool} : ∀ n : Nat, (∀ j, p j = true → q j = true) → cnR p n ≤ cnR q n
  | 0, _ => Int.le_refl _
  | n + 1, h => by
    have i := cnR_imp n h
    rw [cnR_s, cnR_s]
    by_cases c : p n = true
    · rw [c, h n c]; omega
    · rw [Bool.not_eq_true] at c
      rw [c]
      simp only [Bool.false_eq_true, if_false]
      split <;> omega
/-- of the first n cells: those of height v, those above v -/
def eqN (ht : Int → Int) (v : Int) (n : Nat) : Int := cnR (fun j => decide (ht j = v)) n
def gtN (ht : Int → Int) (v : Int) (n : Nat) : Int := cnR (fun j => decide (v < ht j)) n
theorem gt_eq (ht : Int → Int) (v : Int) (n : Nat) : gtN ht (v + 1) n + eqN ht (v + 1) n = gtN ht v n := by
  refine cnR_add (fun j => ?_) n
  by_cases c : v + 1 < ht j
  · exact Or.inl ⟨decide_eq_true c, decide_eq_false (by omega), decide_eq_true (by omega)⟩
  · by_cases c2 : ht j = v + 1
    · exact Or.inr (Or.inl ⟨decide_eq_false c, decide_eq_true c2, decide_eq_true (by omega)⟩)
    · exact Or.inr (Or.inr ⟨decide_eq_false c, decide_eq_false c2, decide_eq_false (by omega)⟩)
theorem gt_mono {ht : Int → Int} {u v : Int} (h : u < v) (n : Nat) : gtN ht v n + eqN ht v n ≤ gtN ht u n := by
  have e : gtN ht v n + eqN ht v n = gtN ht (v - 1) n := by
    have := gt_eq ht (v - 1) n
    rwa [show v - 1 + 1 = v by omega] at this
  rw [e]
  refine cnR_imp n (fun j hj => ?_)
  have := of_decide_eq_true hj
  exact decide_eq_true (by omega)
/-- the place of a cell in the class' order -/
def posC (ht : Int → Int) (c : Nat) : Int := gtN ht (ht c) 144 + eqN ht (ht c) c
theorem eqN_lt {ht : Int → Int} {v : Int} {c n : Nat} (h : c < n) (e : ht c = v) : eqN ht v c < eqN ht v n := by
  have a : eqN ht v (c + 1) = eqN ht v c + if decide (ht c = v) then 1 else 0 := rfl
  rw [decide_eq_true e] at a
  have b := cnR_m (fun j => decide (ht j = v)) (m := c + 1) n (by omega)
  have b : eqN ht v (c + 1) ≤ eqN ht v n := b
  simp only [if_true] at a
  omega
theorem posC_b {ht : Int → Int} {c : Nat} (hc : c < 144) : 0 ≤ posC ht c ∧ posC ht c < 144 := by
  have a := cnR_b (fun j => decide (ht c < ht j)) 144
  have a : 0 ≤ gtN ht (ht c) 144 ∧ gtN ht (ht c) 144 ≤ 144 := a
  have b := cnR_b (fun j => decide (ht j = ht c)) c
  have b : 0 ≤ eqN ht (ht c) c ∧ eqN ht (ht c) c ≤ c := b
  have d := eqN_lt (ht := ht) (v := ht c) hc rfl
  have e := gt_eq ht (ht c - 1) 144
  rw [show ht c - 1 + 1 = ht c by omega] at e
  have f := cnR_b (fun j => decide (ht c - 1 < ht j)) 144
  have f : 0 ≤ gtN ht (ht c - 1) 144 ∧ gtN ht (ht c - 1) 144 ≤ 144 := f
  unfold posC
  omega
theorem posC_h {ht : Int → Int} {c d : Nat} (hc : c < 144) (hd : d < 144) (h : ht d < ht c) : posC ht c < posC ht d := by
  have a := gt_mono (ht := ht) h 144
  have b := eqN_lt (ht := ht) (v := ht c) hc rfl
  have e := cnR_b (fun j => decide (ht j = ht d)) d
  have e : 0 ≤ eqN ht (ht d) d ∧ _ := e
  unfold posC
  omega
theorem posC_inj {ht : Int → Int} {c d : Nat} (hc : c < 144) (hd : d < 144) (h : posC ht c = posC ht d) : c = d := by
  by_cases e : ht c = ht d
  · rcases Nat.lt_trichotomy c d with r | r | r
    · have := eqN_lt (ht := ht) (v := ht c) r rfl
      unfold posC at h
      rw [← e] at h
      omega
    · exact r
    · have := eqN_lt (ht := ht) (v := ht d) r rfl
      unfold posC at h
      rw [e] at h
      omega
  · by_cases e2 : ht c < ht d
    · have := posC_h hd hc e2; omega
    · have := posC_h hc hd (by omega : ht d < ht c); omega
theorem posC_ord {ht fr : Int → Int} (h : ∀ c : Nat, c < 144 → fr (posC ht c) = c) : ordH ht fr := by
  have on : ∀ i : Int, 0 ≤ i → i < 144 → ∃ c : Nat, c < 144 ∧ posC ht c = i := by
    intro i h0 h1
    obtain ⟨c, hc, e⟩ := fb_onto (n := 144) (f := fun c => (posC ht c).toNat) (fun c hc => by
      have := posC_b (ht := ht) hc
      show (posC ht c).toNat < 144
      omega) (fun c d hcd hd => by
      have a := posC_b (ht := ht) (c := c) (by omega)
      have b := posC_b (ht := ht) hd
      show (posC ht c).toNat ≠ (posC ht d).toNat
      intro q
      have := posC_inj (ht := ht) (c := c) (d := d) (by omega) hd (by omega)
      omega) (y := i.toNat) (by omega)
    have a := posC_b (ht := ht) hc
    have e : (posC ht c).toNat = i.toNat := e
    exact ⟨c, hc, by omega⟩
  refine ⟨fun i h0 h1 => ?_, fun i j h0 h1 h2 => ?_, fun i j h0 h1 h2 => ?_⟩
  · obtain ⟨c, hc, e⟩ := on i h0 h1
    rw [← e, h c hc]
    omega
  · obtain ⟨c, hc, e⟩ := on i h0 (by omega)
    obtain ⟨d, hd, f⟩ := on j (by omega) h2
    rw [← e, ← f, h c hc, h d hd]
    intro q
    obtain rfl : c = d := by omega
    omega
  · obtain ⟨c, hc, e⟩ := on i h0 (by omega)
    obtain ⟨d, hd, f⟩ := on j (by omega) h2
    rw [← e, ← f, h c hc, h d hd]
    apply Classical.byContradiction
    intro q
    have := posC_h hd hc (by omega : ht c < ht d)
    omega
theorem lev1_L {z : ZI} (hh : ∀ c : Int, 0 ≤ c → c < 144 → 0 ≤ z 3 c ∧ z 3 c ≤ 99) : ∀ (n k fu : Nat) (B P : Int → Int), k + n = 144 → n < fu → (∀ c : Int, 0 ≤ c → c < k → B c = dnH (z 3) c) → (∀ h : Int, 0 ≤ h → h < 100 → P h = eqN (z 3) (h + 1) k) → ∃ B2 P2, X4_level_L18 fu (Ztwo z 6 8 B P) k = X4_level_b68 (Ztwo z 6 8 B2 P2) ∧ (∀ c : Int, 0 ≤ c → c < 144 → B2 c = dnH (z 3) c) ∧ (∀ h : Int, 0 ≤ h → h < 100 → P2 h = eqN (z 3) (h + 1) 144) := by
  intro n
  induction n with
  | zero =>
    intro k fu B P hk hf hB hP
    obtain ⟨fu, rfl⟩ : ∃ g, fu = g + 1 := ⟨fu - 1, by omega⟩
    obtain rfl : k = 144 := by omega
    refine ⟨B, P, ?_, hB, hP⟩
    show X4_level_L18b (X4_level_L18 fu) _ _ = _
    unfold X4_level_L18b
    rw [if_pos (by decide)]
  | succ n ih =>
    intro k fu B P hk hf hB hP
    obtain ⟨fu, rfl⟩ : ∃ g, fu = g + 1 := ⟨fu - 1, by omega⟩
    have hc := hh k (by omega) (by omega)
    have us : ∀ v, eqN (z 3) v (k + 1) = eqN (z 3) v k + if decide (z 3 k = v) then 1 else 0 := fun _ => rfl
    have e0 : X4_level_L18 (fu + 1) (Ztwo z 6 8 B P) k = X4_level_L18b (X4_level_L18 fu) (Ztwo z 6 8 B P) k := rfl
    have el := x_lowest (z := Ztwo z 6 8 B P) (c := (k : Int)) (by omega)
    have e3 : (Ztwo z 6 8 B P) 3 = z 3 := rfl
    have B' : ∀ c : Int, 0 ≤ c → c < ((k + 1 : Nat) : Int) → fupd B k (dnH (z 3) k) c = dnH (z 3) c := by
      intro c h0 h1
      unfold fupd
      by_cases q : c = k
      · rw [if_pos q, q]
      · rw [if_neg q]; exact hB c h0 (by omega)
    rw [e3] at el
    rw [e0]
    unfold X4_level_L18b X4_level_b62
    rw [if_neg (by omega), el, Yb_some, Zgd_t (by omega), Zl_eq, Ztwo_ua, Zgd_t (by omega), Ztwo_k (k := 3) (by decide) (by decide)]
    by_cases q : z 3 k ≤ 0
    · rw [if_pos q, Zgd_t (by omega), show (k : Int) + 1 = ((k + 1 : Nat) : Int) by omega]
      refine ih (k + 1) fu _ _ (by omega) (by omega) B' (fun h h0 h1 => ?_)
      rw [hP h h0 h1, us, decide_eq_false (by omega)]
      simp only [Bool.false_eq_true, if_false, Int.add_zero]
    · have bb := cnR_b (fun j => decide (z 3 j = z 3 k)) k
      have bb : 0 ≤ eqN (z 3) (z 3 k) k ∧ eqN (z 3) (z 3 k) k ≤ k := bb
      have pv : P (z 3 k - 1) = eqN (z 3) (z 3 k) k := by
        rw [hP (z 3 k - 1) (by omega) (by omega), show z 3 k - 1 + 1 = z 3 k by omega]
      rw [if_neg q, Zgd_t (by omega), Zgd_t (by omega), Zgd_t (by omega), Ztwo_b (by decide), pv, Zgd_t (by omega), Zgd_t (by omega), Zl_eq, Ztwo_ub (by decide), Zgd_t (by omega), show (k : Int) + 1 = ((k + 1 : Nat) : Int) by omega]
      refine ih (k + 1) fu _ _ (by omega) (by omega) B' (fun h h0 h1 => ?_)
      unfold fupd
      by_cases r : h = z 3 k - 1
      · rw [if_pos r, us, decide_eq_true (by omega), r, show z 3 k - 1 + 1 = z 3 k by omega]
        rfl
      · rw [if_neg r, hP h h0 h1, us, decide_eq_false (by omega)]
        simp only [Bool.false_eq_true, if_false, Int.add_zero]
theorem lev2_L {z : ZI} : ∀ (n fu : Nat) (P : Int → Int), n ≤ 99 → n < fu → (∀ h : Int, n ≤ h → h < 100 → P h = gtN (z 3) h 144) → (∀ h : Int, 0 ≤ h → h < n → P h = eqN (z 3) (h + 1) 144) → ∃ P2, X4_level_L71 fu (Zro z 8 P) ((n : Int) - 1) = X4_level_b98 (Zro z 8 P2) ∧ (∀ h : Int, 0 ≤ h → h < 100 → P2 h = gtN (z 3) h 144) := by
  intro n
  induction n with
  | zero =>
    intro fu P hn hf h1 h2
    obtain ⟨fu, rfl⟩ : ∃ g, fu = g + 1 := ⟨fu - 1, by omega⟩
    refine ⟨P, ?_, fun h a b => h1 h (by omega) b⟩
    show X4_level_L71b (X4_level_L71 fu) _ _ = _
    unfold X4_level_L71b
    rw [if_pos (by decide)]
  | succ n ih =>
    intro fu P hn hf h1 h2
    obtain ⟨fu, rfl⟩ : ∃ g, fu = g + 1 := ⟨fu - 1, by omega⟩
    have e0 : X4_level_L71 (fu + 1) (Zro z 8 P) (((n + 1 : Nat) : Int) - 1) = X4_level_L71b (X4_level_L71 fu) (Zro z 8 P) n := by
      rw [show ((n + 1 : Nat) : Int) - 1 = n by omega]
      rfl
    have p1 := h2 n (by omega) (by omega)
    have p2 := h1 ((n : Int) + 1) (by omega) (by omega)
    have ge := gt_eq (z 3) n 144
    have b1 := cnR_b (fun j => decide (z 3 j = (n : Int) + 1)) 144
    have b1 : 0 ≤ eqN (z 3) ((n : Int) + 1) 144 ∧ eqN (z 3) ((n : Int) + 1) 144 ≤ 144 := b1
    have b2 := cnR_b (fun j => decide ((n : Int) + 1 < z 3 j)) 144
    have b2 : 0 ≤ gtN (z 3) ((n : Int) + 1) 144 ∧ gtN (z 3) ((n : Int) + 1) 144 ≤ 144 := b2
    rw [e0]
    unfold X4_level_L71b
    rw [if_neg (by omega), Zgd_t (by omega), Zgd_t (by omega), Zgd_t (by omega), Zro_s, p1, p2, Zgd_t (by omega), Zgd_t (by omega), Zl_eq, Zro_u, Zgd_t (by omega), show (n : Int) + -1 = (n : Int) - 1 by omega]
    refine ih fu _ (by omega) (by omega) (fun h a b => ?_) (fun h a b => ?_)
    · unfold fupd
      by_cases r : h = n
      · rw [if_pos r, r]; omega
      · rw [if_neg r]; exact h1 h (by omega) b
    · unfold fupd
      rw [if_neg (by omega)]
      exact h2 h a (by omega)
theorem lev3_L {z : ZI} (hh : ∀ c : Int, 0 ≤ c → c < 144 → 0 ≤ z 3 c ∧ z 3 c ≤ 99) : ∀ (n k fu : Nat) (A P : Int → Int), k + n = 144 → n < fu → (∀ h : Int, 0 ≤ h → h < 100 → P h = gtN (z 3) h 144 + eqN (z 3) h k) → (∀ c : Nat, c < k → A (posC (z 3) c) = c) → ∃ A2 P2, X4_level_L100 fu (Ztwo z 7 8 A P) k = some ((), Zup (Ztwo z 7 8 A2 P2) 2 8 1) ∧ (∀ c : Nat, c < 144 → A2 (posC (z 3) c) = c) := by
  intro n
  induction n with
  | zero =>
    intro k fu A P hk hf hP hA
    obtain ⟨fu, rfl⟩ : ∃ g, fu = g + 1 := ⟨fu - 1, by omega⟩
    obtain rfl : k = 144 := by omega
    refine ⟨A, P, ?_, hA⟩
    show X4_level_L100b (X4_level_L100 fu) _ _ = _
    unfold X4_level_L100b
    rw [if_pos (by decide), Zl_eq]
  | succ n ih =>
    intro k fu A P hk hf hP hA
    obtain ⟨fu, rfl⟩ : ∃ g, fu = g + 1 := ⟨fu - 1, by omega⟩
    have hc := hh k (by omega) (by omega)
    have us : ∀ v, eqN (z 3) v (k + 1) = eqN (z 3) v k + if decide (z 3 k = v) then 1 else 0 := fun _ => rfl
    have e0 : X4_level_L100 (fu + 1) (Ztwo z 7 8 A P) k = X4_level_L100b (X4_level_L100 fu) (Ztwo z 7 8 A P) k := rfl
    have pv : P (z 3 k) = posC (z 3) k := hP (z 3 k) (by omega) (by omega)
    have pb := posC_b (ht := z 3) (c := k) (by omega)
    rw [e0]
    unfold X4_level_L100b
    rw [if_neg (by omega), Zgd_t (by omega), Ztwo_k (k := 3) (by decide) (by decide), Zgd_t (by omega), Ztwo_b (by decide), pv, Zgd_t (by omega), Zgd_t (by omega), Zl_eq, Ztwo_ub (by decide), Zgd_t (by omega), Zl_eq, Ztwo_ua, Zgd_t (by omega), show (k : Int) + 1 = ((k + 1 : Nat) : Int) by omega]
    refine ih (k + 1) fu _ _ (by omega) (by omega) (fun h h0 h1 => ?_) (fun c hc => ?_)
    · unfold fupd
      by_cases r : h = z 3 k
      · rw [if_pos r, us, decide_eq_true (by omega), r]
        unfold posC
        simp only [if_true]
        omega
      · rw [if_neg r, hP h h0 h1, us, decide_eq_false (by omega)]
        simp only [Bool.false_eq_true, if_false, Int.add_zero]
    · unfold fupd
      by_cases r : c = k
      · rw [if_pos (by rw [r]), r]
      · have : posC (z 3) c ≠ posC (z 3) k := fun q => r (posC_inj (by omega) (by omega) q)
        rw [if_neg this]
        exact hA c (by omega)
theorem x_level {z : ZI} (hL : JL z) (hV : JV z) : ∃ y, F_X4_level z = some ((), y) ∧ FrP z y ∧ JV y ∧ y 2 8 = 1 := by
  have hh : ∀ c : Int, 0 ≤ c → c < 144 → 0 ≤ z 3 c ∧ z 3 c ≤ 99 := fun c h0 h1 => by have := hL c h0 h1; omega
  unfold F_X4_level
  rcases hV with v | ⟨v, v2⟩
  · rw [if_pos v, x_fill (by decide), Yb_some]
    generalize hp0 : (fun i => if 0 ≤ i ∧ i < ((100 : Nat) : Int) then (0 : Int) else z 8 i) = P0
    obtain ⟨B1, P1, a1, a2, a3⟩ := lev1_L (z := z) hh 144 0 Zfuel (z 6) P0 (by decide) (by unfold Zfuel; omega) (fun c h0 h1 => by omega) (fun h h0 h1 => by rw [← hp0]; exact if_pos ⟨h0, h1⟩)
    have e1 : Ztwo z 6 8 (z 6) P0 = Zro z 8 P0 := by
      funext k i
      unfold Ztwo Zro
      by_cases h6 : k = 6
      · rw [if_pos h6, if_neg (by omega), h6]
      · rw [if_neg h6]
    have a1 : X4_level_L18 Zfuel (Ztwo z 6 8 (z 6) P0) 0 = X4_level_b68 (Ztwo z 6 8 B1 P1) := a1
    rw [e1] at a1
    rw [a1]
    have e2 : Ztwo z 6 8 B1 P1 = Zro (Zro z 6 B1) 8 P1 := by
      funext k i
      unfold Ztwo Zro
      by_cases h6 : k = 6
      · rw [if_pos h6, if_neg (by omega), if_pos h6]
      · rw [if_neg h6, if_neg h6]
    have z99 : ∀ h : Int, 99 ≤ h → h < 100 → P1 h = gtN (z 3) h 144 := by
      intro h h0 h1
      obtain rfl : h = 99 := by omega
      rw [a3 99 (by decide) (by decide)]
      exact cnR_cg 144 (fun j hj => by
        have := hh j (by omega) (by omega)
        show decide (z 3 j = 99 + 1) = decide (99 < z 3 j)
        rw [decide_eq_false (by omega), decide_eq_false (by omega)])
    obtain ⟨P2, b1, b2⟩ := lev2_L (z := Zro z 6 B1) 99 Zfuel P1 (by decide) (by unfold Zfuel; omega) z99 (fun h h0 h1 => a3 h h0 (by omega))
    have b1 : X4_level_L71 Zfuel (Zro (Zro z 6 B1) 8 P1) 98 = X4_level_b98 (Zro (Zro z 6 B1) 8 P2) := b1
    unfold X4_level_b68
    rw [e2, b1]
    have e3 : Zro (Zro z 6 B1) 8 P2 = Ztwo (Zro z 6 B1) 7 8 (z 7) P2 := by
      funext k i
      unfold Ztwo Zro
      by_cases h8 : k = 8
      · rw [if_pos h8, if_neg (by omega)]
      · rw [if_neg h8]
        by_cases h7 : k = 7
        · rw [if_neg (by omega), if_pos h7, h7]
        · rw [if_neg h7]
    obtain ⟨A3, P3, c1, c2⟩ := lev3_L (z := Zro z 6 B1) hh 144 0 Zfuel (z 7) P2 (by decide) (by unfold Zfuel; omega) (fun h h0 h1 => by
      rw [b2 h h0 h1]
      show gtN (z 3) h 144 = gtN (z 3) h 144 + 0
      omega) (fun c hc => by omega)
    have c1 : X4_level_L100 Zfuel (Ztwo (Zro z 6 B1) 7 8 (z 7) P2) 0 = some ((), Zup (Ztwo (Zro z 6 B1) 7 8 A3 P3) 2 8 1) := c1
    unfold X4_level_b98
    rw [e3, c1]
    have od := posC_ord (ht := z 3) (fr := A3) c2
    refine ⟨_, rfl, ((FrP_r (by decide)).tr (FrP_2 (by decide) (by decide))).tr (FrP_u _ _), Or.inr ⟨rfl, a2, od.1, fun i j i0 i1 j0 j1 e => ?_, od.2.2⟩, rfl⟩
    rcases Int.lt_trichotomy i j with r | r | r
    · exact absurd e (od.2.1 i j i0 r j1)
    · exact r
    · exact absurd e.symm (od.2.1 j i j0 r i1)
  · rw [if_neg (by omega)]
    exact ⟨z, rfl, FrP.rf z, Or.inr ⟨v, v2⟩, v⟩
