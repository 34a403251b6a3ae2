/-! drawers: rows of kit/laws/COUNTS.to-paste -/
theorem fb_holes : ∀ (m n : Nat) (f : Nat → Nat), (∀ i, i < n → f i < m) → (∀ i j, i < j → j < n → f i ≠ f j) → n ≤ m := by
  intro m
  induction m with
  | zero =>
    intro n f h1 _
    rcases Nat.eq_zero_or_pos n with h | h
    · omega
    · exact absurd (h1 0 h) (Nat.not_lt_zero _)
  | succ m ih =>
    intro n f h1 h2
    by_cases hx : ∃ i, i < n ∧ f i = m
    · obtain ⟨a, ha, hfa⟩ := hx
      have hg := ih (n - 1) (fun i => if i < a then f i else f (i + 1)) (by
        intro i hi
        by_cases q : i < a
        · simp only [if_pos q]
          have b1 := h1 i (by omega)
          have b2 := h2 i a q ha
          omega
        · simp only [if_neg q]
          have b1 := h1 (i + 1) (by omega)
          have b2 := h2 a (i + 1) (by omega) (by omega)
          omega) (by
        intro i j hij hj
        by_cases q : i < a
        · by_cases r : j < a
          · simp only [if_pos q, if_pos r]
            exact h2 i j hij (by omega)
          · simp only [if_pos q, if_neg r]
            exact h2 i (j + 1) (by omega) (by omega)
        · have r : ¬ j < a := by omega
          simp only [if_neg q, if_neg r]
          exact h2 (i + 1) (j + 1) (by omega) (by omega))
      omega
    · have hg := ih n f (fun i hi => by
        have b1 := h1 i hi
        have b2 : f i ≠ m := fun e => hx ⟨i, hi, e⟩
        omega) h2
      omega
/-- two of them in one place -/
theorem fb_twice {m n : Nat} {f : Nat → Nat} (h : ∀ i, i < n → f i < m) (hm : m < n) : ∃ i j, i < j ∧ j < n ∧ f i = f j := by
  refine Classical.byContradiction fun hx => ?_
  have := fb_holes m n f h (fun i j hij hj e => hx ⟨i, j, hij, hj, e⟩)
  omega
/-- as many as places, none twice: each place is taken -/
theorem fb_onto {n : Nat} {f : Nat → Nat} (h : ∀ i, i < n → f i < n) (h2 : ∀ i j, i < j → j < n → f i ≠ f j) {y : Nat} (hy : y < n) : ∃ i, i < n ∧ f i = y := by
  refine Classical.byContradiction fun hx => ?_
  have hne : ∀ i, i < n → f i ≠ y := fun i hi e => hx ⟨i, hi, e⟩
  have := fb_holes (n - 1) n (fun i => if f i < y then f i else f i - 1) (by
    intro i hi
    have b1 := h i hi
    have b2 := hne i hi
    by_cases q : f i < y
    · simp only [if_pos q]; omega
    · simp only [if_neg q]; omega) (by
    intro i j hij hj
    have b1 := hne i (by omega)
    have b2 := hne j hj
    have b3 := h2 i j hij hj
    by_cases q : f i < y
    · by_cases r : f j < y
      · simp only [if_pos q, if_pos r]; exact b3
      · simp only [if_pos q, if_neg r]; omega
    · by_cases r : f j < y
      · simp only [if_neg q, if_pos r]; omega
      · simp only [if_neg q, if_neg r]; omega)
  omega
/-! the queue -/
theorem x_place_L {z : ZI} {p : Int} (hQ : JQ z) (h4 : z 59 0 = z 68 78) (h5 : 0 ≤ z 68 78 ∧ z 68 78 ≤ 60) : ∀ (n k f : Nat), k + n = (z 68 78).toNat → n < f → X5_placeOf_L2 f z p (k : Int) = some (srch (z 122) p n k, z) := by
  intro n
  induction n with
  | zero =>
    intro k f hk hf
    obtain ⟨f, rfl⟩ : ∃ g, f = g + 1 := ⟨f - 1, by omega⟩
    show X5_placeOf_L2b (X5_placeOf_L2 f) z p (k : Int) = _
    unfold X5_placeOf_L2b 
    have hc := hQ.2.2.2.1 k
    grind [Zgd_i, srch.eq_1, srch.eq_2]
  | succ n ih =>
    intro k f hk hf
    obtain ⟨f, rfl⟩ : ∃ g, f = g + 1 := ⟨f - 1, by omega⟩
    have e := ih (k + 1) f (by omega) (by omega)
    clear ih
    show X5_placeOf_L2b (X5_placeOf_L2 f) z p (k : Int) = _
    unfold X5_placeOf_L2b 
    have hc := hQ.2.2.2.1 k
    grind [Zgd_i, srch.eq_1, srch.eq_2]
theorem x_place {z : ZI} {p : Int} (hQ : JQ z) : F_X5_placeOf z p = some (srch (z 122) p (z 68 78).toNat 0, z) :=
  x_place_L hQ hQ.1 ⟨hQ.2.1, hQ.2.2.1⟩ (z 68 78).toNat 0 Zfuel (by omega) (by have := hQ.2.2.1; unfold Zfuel; omega)
theorem x_asks {z : ZI} {p : Int} (hQ : JQ z) : F_X5_asks z p = some (bi (srch (z 122) p (z 68 78).toNat 0 ≠ -9), z) := by
  unfold F_X5_asks X5_asks_b15
  rw [x_place hQ]
  grind [Zgd_i, Yb_some, bi]
theorem m_place_L {z : ZI} {p : Int} (h5 : 0 ≤ z 68 78 ∧ z 68 78 ≤ 60) : ∀ (n k f : Nat), k + n = (z 68 78).toNat → n < f → X11_placeOf_L5 f z p (srchL (z 122) p k) (k : Int) = some (srchL (z 122) p (z 68 78).toNat, z) := by
  intro n
  induction n with
  | zero =>
    intro k f hk hf
    obtain ⟨f, rfl⟩ : ∃ g, f = g + 1 := ⟨f - 1, by omega⟩
    show X11_placeOf_L5b (X11_placeOf_L5 f) z p (srchL (z 122) p k) (k : Int) = _
    unfold X11_placeOf_L5b X11_placeOf_b28
    grind [Zgd_i, srchL.eq_2]
  | succ n ih =>
    intro k f hk hf
    obtain ⟨f, rfl⟩ : ∃ g, f = g + 1 := ⟨f - 1, by omega⟩
    have e := ih (k + 1) f (by omega) (by omega)
    clear ih
    show X11_placeOf_L5b (X11_placeOf_L5 f) z p (srchL (z 122) p k) (k : Int) = _
    unfold X11_placeOf_L5b X11_placeOf_b28
    grind [Zgd_i, srchL.eq_2]
theorem m_place0 {z : ZI} {p : Int} (h5 : 0 ≤ z 68 78 ∧ z 68 78 ≤ 60) : F_X11_placeOf z p = some (srchL (z 122) p (z 68 78).toNat, z) :=
  m_place_L h5 (z 68 78).toNat 0 Zfuel (by omega) (by unfold Zfuel; omega)
/-- where none stands twice the last is the first -/
theorem srch_L {a : Int → Int} {c : Int} {n : Nat} (h : ∀ k l : Int, 0 ≤ k → k < n → 0 ≤ l → l < n → a k = a l → k = l) : srchL a c n = srch a c n 0 := by
  rcases srchL_r a c n with e | ⟨e1, e2, e3⟩
  · rw [e]
    have : ∀ m : Nat, m ≤ n → srchL a c m = -9 → ∀ j, 0 ≤ j → j < (m : Int) → a j ≠ c := by
      intro m
      induction m with
      | zero => intro _ _ j h1 h2; omega
      | succ m ih =>
        intro hm hh j h1 h2
        have u : srchL a c (m + 1) = if a m = c then (m : Int) else srchL a c m := rfl
        rw [u] at hh
        by_cases q : a m = c
        · rw [if_pos q] at hh; omega
        · rw [if_neg q] at hh
          by_cases e : j = m
          · rw [e]; exact q
          · exact ih (by omega) hh j h1 (by omega)
    exact (srch_none a c n 0 (Int.le_refl _) (fun j h1 h2 => this n (Nat.le_refl _) e j h1 (by omega))).symm
  · refine (srch_first a c n 0 (Int.le_refl _) _ e1 (by omega) e3 (fun i h1 h2 h3 => ?_)).symm
    have := h i _ h1 (by omega) e1 (by omega) (h3.trans e3.symm)
    omega
theorem m_place {z : ZI} {p : Int} (hQ : JQ z) : F_X11_placeOf z p = some (srch (z 122) p (z 68 78).toNat 0, z) := by
  rw [m_place0 ⟨hQ.2.1, hQ.2.2.1⟩, srch_L]
  intro k l h1 h2 h3 h4 h5
  have n0 := hQ.2.1
  exact hQ.2.2.2.2 k l h1 (by omega) h3 (by omega) h5
/-- who isn't in the queue finds a place -/
theorem queue_room {z : ZI} {p : Int} (hQ : JQ z) (hp : 0 ≤ p ∧ p < z 68 13) (h60 : z 68 13 ≤ 60) (hno : ∀ k, 0 ≤ k → k < z 68 78 → z 122 k ≠ p) : z 68 78 < 60 := by
  obtain ⟨a0, a1, a2, a3, a4⟩ := hQ
  have h := fb_holes (z 68 13).toNat ((z 68 78).toNat + 1) (fun i => if i < (z 68 78).toNat then (z 122 i).toNat else p.toNat) (by
    intro i hi
    by_cases q : i < (z 68 78).toNat
    · simp only [if_pos q]
      have := a3 i (by omega) (by omega)
      omega
    · simp only [if_neg q]; omega) (by
    intro i j hij hj
    have b := a3 i (by omega) (by omega)
    simp only [if_pos (show i < (z 68 78).toNat by omega)]
    by_cases q : j < (z 68 78).toNat
    · simp only [if_pos q]
      have c := a3 j (by omega) (by omega)
      intro e
      have := a4 i j (by omega) (by omega) (by omega) (by omega) (by omega)
      omega
    · simp only [if_neg q]
      intro e
      exact hno i (by omega) (by omega) (by omega))
  omega
/-- from pl on, ahead of n, each moved up by one -/
def Zsh (z : ZI) (k : Nat) (pl n : Int) : ZI := fun k' i => if k' = k ∧ pl ≤ i ∧ i < n then z k (i + 1) else z k' i
theorem Zsh_0 (z : ZI) (k : Nat) (pl : Int) : Zsh z k pl pl = z := by
  funext k' i
  unfold Zsh
  rw [if_neg (by omega)]
theorem Zsh_k {z : ZI} {k k' : Nat} {pl n : Int} (h : k' ≠ k) : Zsh z k pl n k' = z k' := by
  funext i
  unfold Zsh
  rw [if_neg (fun q => h q.1)]
theorem Zsh_s (z : ZI) (k : Nat) (pl n : Int) (h : pl ≤ n) : Zup (Zsh z k pl n) k n (Zsh z k pl n k (n + 1)) = Zsh z k pl (n + 1) := by
  funext k' i
  unfold Zup Zsh
  by_cases e : k' = k
  · subst e
    by_cases e2 : i = n
    · subst e2
      simp only [true_and, if_true, eq_self]
      rw [if_neg (by omega), if_pos (by omega)]
    · by_cases e3 : pl ≤ i ∧ i < n
      · rw [if_neg (fun q => e2 q.2), if_pos ⟨rfl, e3⟩, if_pos ⟨rfl, e3.1, by omega⟩]
      · rw [if_neg (fun q => e2 q.2), if_neg (fun q => e3 q.2), if_neg (fun q => e3 ⟨q.2.1, by omega⟩)]
  · rw [if_neg (fun q => e q.1), if_neg (fun q => e q.1), if_neg (fun q => e q.1)]
theorem x_quit_L {z : ZI} {pl : Int} (h0 : 0 ≤ pl) (hn : z 59 0 ≤ 60) : ∀ (m f : Nat) (x : Int), pl ≤ x → x + m = z 59 0 - 1 → m < f → X5_quit_L15 f (Zsh z 60 pl x) x = some ((), Zup (Zsh z 60 pl (z 59 0 - 1)) 59 0 (z 59 0 - 1)) := by
  intro m
  induction m with
  | zero =>
    intro f x h1 h2 hf
    obtain ⟨f, rfl⟩ : ∃ g, f = g + 1 := ⟨f - 1, by omega⟩
    show X5_quit_L15b (X5_quit_L15 f) (Zsh z 60 pl x) x = _
    have e : Zsh z 60 pl x 59 0 = z 59 0 := rfl
    unfold X5_quit_L15b X5_quit_b45
    rw [e, show x = z 59 0 - 1 by omega]
    rw [Zgd_t (by omega), if_pos (by omega), Zgd_t (by omega)]
    rfl
  | succ m ih =>
    intro f x h1 h2 hf
    obtain ⟨f, rfl⟩ : ∃ g, f = g + 1 := ⟨f - 1, by omega⟩
    have i := ih f (x + 1) (by omega) (by omega) (by omega)
    show X5_quit_L15b (X5_quit_L15 f) (Zsh z 60 pl x) x = _
    have e : Zsh z 60 pl x 59 0 = z 59 0 := rfl
    unfold X5_quit_L15b
    rw [e, Zgd_t (by omega), if_neg (by omega), Zgd_t (by omega), Zgd_t (by omega), Zgd_t (by omega), Zl_eq, Zgd_t (by omega), Zsh_s z 60 pl x h1]
    exact i
theorem x_quit {z : ZI} {p : Int} (hQ : JQ z) (h : srch (z 122) p (z 68 78).toNat 0 ≠ -9) : F_X5_quit z p = some ((), Zup (Zsh z 60 (srch (z 122) p (z 68 78).toNat 0) (z 68 78 - 1)) 59 0 (z 68 78 - 1)) := by
  have hr := srch_r (z 122) p (z 68 78).toNat 0 (Int.le_refl _)
  have n0 := hQ.2.1
  have n1 := hQ.2.2.1
  have a0 := hQ.1
  have e := x_quit_L (z := z) (pl := srch (z 122) p (z 68 78).toNat 0) (by omega) (by omega) (z 68 78 - 1 - srch (z 122) p (z 68 78).toNat 0).toNat Zfuel (srch (z 122) p (z 68 78).toNat 0) (Int.le_refl _) (by omega) (by unfold Zfuel; omega)
  rw [Zsh_0, a0] at e
  unfold F_X5_quit
  rw [x_place hQ, Yb_some, if_neg h]
  exact e
theorem m_quit_L {z : ZI} {pl : Int} (h0 : 0 ≤ pl) (hn : z 68 78 ≤ 60) : ∀ (m f : Nat) (x : Int), pl ≤ x → x + m = z 68 78 - 1 → m < f → X11_leaves_L6 f (Zsh z 122 pl x) x = some ((), Zup (Zsh z 122 pl (z 68 78 - 1)) 68 78 (z 68 78 - 1)) := by
  intro m
  induction m with
  | zero =>
    intro f x h1 h2 hf
    obtain ⟨f, rfl⟩ : ∃ g, f = g + 1 := ⟨f - 1, by omega⟩
    show X11_leaves_L6b (X11_leaves_L6 f) (Zsh z 122 pl x) x = _
    have e : Zsh z 122 pl x 68 78 = z 68 78 := rfl
    unfold X11_leaves_L6b X11_leaves_b36
    rw [e, show x = z 68 78 - 1 by omega]
    rw [Zgd_t (by omega), if_pos (by omega), Zgd_t (by omega)]
    rfl
  | succ m ih =>
    intro f x h1 h2 hf
    obtain ⟨f, rfl⟩ : ∃ g, f = g + 1 := ⟨f - 1, by omega⟩
    have i := ih f (x + 1) (by omega) (by omega) (by omega)
    show X11_leaves_L6b (X11_leaves_L6 f) (Zsh z 122 pl x) x = _
    have e : Zsh z 122 pl x 68 78 = z 68 78 := rfl
    unfold X11_leaves_L6b
    rw [e, Zgd_t (by omega), if_neg (by omega), Zgd_t (by omega), Zgd_t (by omega), Zgd_t (by omega), Zl_eq, Zgd_t (by omega), Zsh_s z 122 pl x h1]
    exact i
theorem m_quit {z : ZI} {p : Int} (hi : ∀ k l, 0 ≤ k → k < z 68 78 → 0 ≤ l → l < z 68 78 → z 122 k = z 122 l → k = l) (n0 : 0 ≤ z 68 78) (n1 : z 68 78 ≤ 60) (h : srch (z 122) p (z 68 78).toNat 0 ≠ -9) : F_X11_leaves z p = some ((), Zup (Zsh z 122 (srch (z 122) p (z 68 78).toNat 0) (z 68 78 - 1)) 68 78 (z 68 78 - 1)) := by
  have hr := srch_r (z 122) p (z 68 78).toNat 0 (Int.le_refl _)
  have e := m_quit_L (z := z) (pl := srch (z 122) p (z 68 78).toNat 0) (by omega) (by omega) (z 68 78 - 1 - srch (z 122) p (z 68 78).toNat 0).toNat Zfuel (srch (z 122) p (z 68 78).toNat 0) (Int.le_refl _) (by omega) (by unfold Zfuel; omega)
  rw [Zsh_0] at e
  unfold F_X11_leaves
  rw [m_place0 ⟨n0, n1⟩, srch_L (fun k l h1 h2 h3 h4 h5 => hi k l h1 (by omega) h3 (by omega) h5), Yb_some]
  exact e
/-- one left -/
theorem JQ_quit {z z2 : ZI} {pl : Int} (hQ : JQ z) (hp : 0 ≤ pl ∧ pl < z 68 78) (c0 : z2 68 78 = z 68 78 - 1) (c1 : z2 59 0 = z 68 78 - 1) (s0 : z2 68 13 = z 68 13) (e0 : ∀ j, z2 60 j = if pl ≤ j ∧ j < z 68 78 - 1 then z 60 (j + 1) else z 60 j) (e1 : ∀ j, z2 122 j = if pl ≤ j ∧ j < z 68 78 - 1 then z 122 (j + 1) else z 122 j) : JQ z2 := by
  obtain ⟨a0, a1, a2, a3, a4⟩ := hQ
  refine ⟨by omega, by omega, by omega, ?_, ?_⟩
  · intro k k1 k2
    rw [e0, e1, s0]
    by_cases h : pl ≤ k ∧ k < z 68 78 - 1
    · rw [if_pos h, if_pos h]; exact a3 (k + 1) (by omega) (by omega)
    · rw [if_neg h, if_neg h]; exact a3 k k1 (by omega)
  · intro k l k1 k2 k3 k4
    rw [e1, e1]
    by_cases h : pl ≤ k ∧ k < z 68 78 - 1
    · by_cases g : pl ≤ l ∧ l < z 68 78 - 1
      · rw [if_pos h, if_pos g]
        intro e
        have := a4 (k + 1) (l + 1) (by omega) (by omega) (by omega) (by omega) e
        omega
      · rw [if_pos h, if_neg g]
        intro e
        have := a4 (k + 1) l (by omega) (by omega) (by omega) (by omega) e
        omega
    · by_cases g : pl ≤ l ∧ l < z 68 78 - 1
      · rw [if_neg h, if_pos g]
        intro e
        have := a4 k (l + 1) (by omega) (by omega) (by omega) (by omega) e
        omega
      · rw [if_neg h, if_neg g]
        intro e
        exact a4 k l (by omega) (by omega) (by omega) (by omega) e
set_option maxHeartbeats 1000000 in
theorem t_queue {n : Int} {z : ZI} (hK : K z) (hN : JN n z) (hn : n ≤ 1000) (p b : Int) (hb : b = 0 ∨ b = 1) : Both (F_X10_queue z p b) (fun z1 => F_X11_queue z1 p b) (fun z2 => K z2 ∧ JN (n + 1) z2) := by
  have hR := hN.R hn
  have hl := links hK
  have hK0 := hK
  obtain ⟨hD, hH, hP, hS, hL, hT, hE, hV, hA, hU, hC, hK, hW, hB, hG, hX, hQ, hO⟩ := hK
  by_cases c1 : ¬ (0 ≤ p ∧ p < z 68 13)
  · refine Both_ref hK0 hN (w := -1) hn (by omega) ?_ ?_
    · unfold F_X10_queue X10_queue_b54
      grind (gen := 20) [Yb_some, Zgd_i, Zl_eq, bi, e_refuse, e_hasPerson, x_asks]
    · show F_X11_queue (zR z (-1)) p b = _
      unfold F_X11_queue X11_queue_b27 X11_queue_b65
      grind (gen := 20) [Yb_some, Zgd_i, Zl_eq, bi, zR_d, zR_k, e_no, e_isPerson, m_place]
  have hs := srch_ne (z 122) p (z 68 78).toNat 0 (Int.le_refl _)
  have hsr := srch_r (z 122) p (z 68 78).toNat 0 (Int.le_refl _)
  have ex := x_asks (p := p) hQ
  have em := m_place (p := p) hQ
  by_cases h1 : bi (srch (z 122) p (z 68 78).toNat 0 ≠ -9) = b
  · refine ⟨0, z, z, ?_, ?_, hK0, JN_1 hN⟩
    · unfold F_X10_queue X10_queue_b54
      grind (gen := 20) [Yb_some, Zgd_i, bi, e_hasPerson]
    · show F_X11_queue z p b = _
      unfold F_X11_queue X11_queue_b27 X11_queue_b65
      grind (gen := 20) [Yb_some, Zgd_i, bi, e_isPerson]
  · by_cases h2 : b = 0
    · subst h2
      have h9 : srch (z 122) p (z 68 78).toNat 0 ≠ -9 := fun h => h1 (bi_f (fun q => q h))
      have eq := x_quit (p := p) hQ h9
      have emq := m_quit (z := Zup (Zsh z 60 (srch (z 122) p (z 68 78).toNat 0) (z 68 78 - 1)) 59 0 (z 68 78 - 1)) (p := p) hQ.2.2.2.2 hQ.2.1 hQ.2.2.1 h9
      have em2 := m_place (z := z) (p := p) hQ
      refine ⟨1, Zup (Zsh z 60 (srch (z 122) p (z 68 78).toNat 0) (z 68 78 - 1)) 59 0 (z 68 78 - 1), Zup (Zsh (Zup (Zsh z 60 (srch (z 122) p (z 68 78).toNat 0) (z 68 78 - 1)) 59 0 (z 68 78 - 1)) 122 (srch (z 122) p (z 68 78).toNat 0) (z 68 78 - 1)) 68 78 (z 68 78 - 1), ?_, ?_, ?_, JN_up hN rfl rfl⟩
      · unfold F_X10_queue X10_queue_b54
        grind (gen := 20) [Yb_some, Zgd_i, bi, e_hasPerson]
      · show F_X11_queue (Zup (Zsh z 60 (srch (z 122) p (z 68 78).toNat 0) (z 68 78 - 1)) 59 0 (z 68 78 - 1)) p 0 = _
        have em3 := m_place0 (z := Zup (Zsh z 60 (srch (z 122) p (z 68 78).toNat 0) (z 68 78 - 1)) 59 0 (z 68 78 - 1)) (p := p) ⟨hQ.2.1, hQ.2.2.1⟩
        have em4 : srchL (z 122) p (z 68 78).toNat = srch (z 122) p (z 68 78).toNat 0 := srch_L (fun k l q1 q2 q3 q4 q5 => hQ.2.2.2.2 k l q1 (by omega) q3 (by omega) q5)
        have em5 : F_X11_placeOf (Zup (Zsh z 60 (srch (z 122) p (z 68 78).toNat 0) (z 68 78 - 1)) 59 0 (z 68 78 - 1)) p = some (srch (z 122) p (z 68 78).toNat 0, Zup (Zsh z 60 (srch (z 122) p (z 68 78).toNat 0) (z 68 78 - 1)) 59 0 (z 68 78 - 1)) := by
          rw [← em4]
          rw [← em4] at em3
          exact em3
        unfold F_X11_queue X11_queue_b27 X11_queue_b65
        have hb1 : bi (0 ≤ p ∧ p < (Zup (Zsh z 60 (srch (z 122) p (z 68 78).toNat 0) (z 68 78 - 1)) 59 0 (z 68 78 - 1)) 68 13) = 1 := bi_t ⟨by omega, by show p < z 68 13; omega⟩
        rw [e_isPerson, Yb_some, hb1, if_neg (by decide), em5, Yb_some, if_neg (by omega), if_neg (by decide), if_pos rfl]
        rw [emq]
        rfl
      · have hq2 := JQ_quit (z2 := Zup (Zsh (Zup (Zsh z 60 (srch (z 122) p (z 68 78).toNat 0) (z 68 78 - 1)) 59 0 (z 68 78 - 1)) 122 (srch (z 122) p (z 68 78).toNat 0) (z 68 78 - 1)) 68 78 (z 68 78 - 1)) (pl := srch (z 122) p (z 68 78).toNat 0) hQ (by omega) rfl rfl rfl (fun j => by
          show (if (60 : Nat) = 60 ∧ _ then _ else _) = _
          simp only [true_and] <;> rfl) (fun j => by
          show (if (122 : Nat) = 122 ∧ _ then _ else _) = _
          simp only [true_and] <;> rfl)
        exact ⟨(JD_c rfl rfl hD), (JH_c rfl rfl rfl rfl rfl rfl rfl hH), (JP_c rfl rfl rfl rfl rfl rfl rfl rfl rfl rfl rfl rfl hP), (JS_c rfl rfl rfl rfl rfl rfl rfl rfl rfl rfl rfl hS), (JL_c rfl rfl hL), (JT_c rfl rfl rfl rfl rfl hT), (JE_c rfl rfl rfl rfl hE), (JV_c rfl rfl rfl rfl hV), (JA_c rfl rfl rfl rfl hA), (JU_c rfl rfl rfl rfl rfl rfl rfl rfl rfl rfl hU), (JC_c rfl rfl rfl rfl rfl rfl rfl rfl rfl rfl hC), (JK_c rfl rfl rfl rfl rfl rfl rfl rfl rfl hK), (JW_c rfl rfl rfl rfl rfl rfl rfl rfl rfl rfl hW), (JB_c rfl rfl rfl rfl rfl rfl rfl rfl rfl rfl rfl rfl rfl rfl rfl rfl rfl rfl rfl rfl hB), (JG_c rfl rfl rfl rfl rfl hG), (JX_c rfl rfl rfl rfl rfl hX), hq2, (JO_c rfl rfl rfl rfl rfl rfl rfl rfl rfl rfl rfl hO)⟩
    · have hb1 : b = 1 := by omega
      subst hb1
      have h9 : srch (z 122) p (z 68 78).toNat 0 = -9 := by
        rcases hs with h | h
        · exact h
        · exact absurd (bi_t (by omega)) h1
      have hno := srch_no (z 122) p (z 68 78).toNat 0 (Int.le_refl _) h9
      have hroom := queue_room hQ (p := p) (by omega) (by omega) (fun k k1 k2 => hno k k1 (by omega))
      have em3 := m_place0 (z := Zup (Zup z 60 (z 68 78) p) 59 0 (z 68 78 + 1)) (p := p) ⟨hQ.2.1, hQ.2.2.1⟩
      have em4 : srchL (z 122) p (z 68 78).toNat = srch (z 122) p (z 68 78).toNat 0 := srch_L (fun k l q1 q2 q3 q4 q5 => hQ.2.2.2.2 k l q1 (by omega) q3 (by omega) q5)
      have em5 : F_X11_placeOf (Zup (Zup z 60 (z 68 78) p) 59 0 (z 68 78 + 1)) p = some (-9, Zup (Zup z 60 (z 68 78) p) 59 0 (z 68 78 + 1)) := by
        rw [← h9, ← em4]
        exact em3
      clear em3 em4 hno h1 hsr hs
      refine ⟨1, Zup (Zup z 60 (z 68 78) p) 59 0 (z 68 78 + 1), Zup (Zup (Zup (Zup z 60 (z 68 78) p) 59 0 (z 68 78 + 1)) 122 (z 68 78) p) 68 78 (z 68 78 + 1), ?_, ?_, ?_, JN_up hN rfl rfl⟩
      · unfold F_X10_queue X10_queue_b54
        grind (gen := 20) [Yb_some, Zgd_i, Zl_eq, bi, Zup_d, e_hasPerson, F_X5_join, X5_join_b29]
      · show F_X11_queue _ p 1 = _
        unfold F_X11_queue X11_queue_b27 X11_queue_b65
        grind (gen := 20) [Yb_some, Zgd_i, Zl_eq, bi, Zup_d, e_isPerson]
      · have hno := srch_no (z 122) p (z 68 78).toNat 0 (Int.le_refl _) h9
        exact ⟨(JD_c rfl rfl hD), (JH_c rfl rfl rfl rfl rfl rfl rfl hH), (JP_c rfl rfl rfl rfl rfl rfl rfl rfl rfl rfl rfl rfl hP), (JS_c rfl rfl rfl rfl rfl rfl rfl rfl rfl rfl rfl hS), (JL_c rfl rfl hL), (JT_c rfl rfl rfl rfl rfl hT), (JE_c rfl rfl rfl rfl hE), (JV_c rfl rfl rfl rfl hV), (JA_c rfl rfl rfl rfl hA), (JU_c rfl rfl rfl rfl rfl rfl rfl rfl rfl rfl hU), (JC_c rfl rfl rfl rfl rfl rfl rfl rfl rfl rfl hC), (JK_c rfl rfl rfl rfl rfl rfl rfl rfl rfl hK), (JW_c rfl rfl rfl rfl rfl rfl rfl rfl rfl rfl hW), (JB_c rfl rfl rfl rfl rfl rfl rfl rfl rfl rfl rfl rfl rfl rfl rfl rfl rfl rfl rfl rfl hB), (JG_c rfl rfl rfl rfl rfl hG), (JX_c rfl rfl rfl rfl rfl hX), JQ_push hQ (p := p) (by omega) (fun k q1 q2 => hno k q1 (by omega)) (by omega) rfl rfl rfl (fun j => (Zup_ki : Zup z 60 (z 68 78) (p) 60 j = _)) (fun j => (Zup_ki : Zup z 122 (z 68 78) (p) 122 j = _)), (JO_c rfl rfl rfl rfl rfl rfl rfl rfl rfl rfl rfl hO)⟩
