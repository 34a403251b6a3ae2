/-! wells: the reference's lines and draws -/
def Zfv7 (z : ZI) (A B C D E F G : Int → Int) : ZI := fun k i => if k = 99 then A i else if k = 100 then B i else if k = 101 then C i else if k = 102 then D i else if k = 103 then E i else if k = 105 then F i else if k = 106 then G i else z k i
def FrV (z z2 : ZI) : Prop := ∀ k, k ≠ 99 → k ≠ 100 → k ≠ 101 → k ≠ 102 → k ≠ 103 → k ≠ 105 → k ≠ 106 → z2 k = z k
theorem FrV.eq {z z2 : ZI} (h : FrV z z2) : z2 = Zfv7 z (z2 99) (z2 100) (z2 101) (z2 102) (z2 103) (z2 105) (z2 106) := by
  funext k i
  unfold Zfv7
  by_cases h1 : k = 99
  · rw [if_pos h1, h1]
  · rw [if_neg h1]
    by_cases h2 : k = 100
    · rw [if_pos h2, h2]
    · rw [if_neg h2]
      by_cases h3 : k = 101
      · rw [if_pos h3, h3]
      · rw [if_neg h3]
        by_cases h4 : k = 102
        · rw [if_pos h4, h4]
        · rw [if_neg h4]
          by_cases h5 : k = 103
          · rw [if_pos h5, h5]
          · rw [if_neg h5]
            by_cases h6 : k = 105
            · rw [if_pos h6, h6]
            · rw [if_neg h6]
              by_cases h7 : k = 106
              · rw [if_pos h7, h7]
              · rw [if_neg h7, h k h1 h2 h3 h4 h5 h6 h7]
theorem FrV.rf (z : ZI) : FrV z z := fun _ _ _ _ _ _ _ _ => rfl
theorem FrV.tr {z z2 z3 : ZI} (h : FrV z z2) (g : FrV z2 z3) : FrV z z3 := fun k a b c d e f i => (g k a b c d e f i).trans (h k a b c d e f i)
theorem FrV_r {z : ZI} {k : Nat} {f : Int → Int} (hk : k = 99 ∨ k = 100 ∨ k = 101 ∨ k = 102 ∨ k = 103 ∨ k = 105 ∨ k = 106) : FrV z (Zro z k f) := fun k' a b c d e g i => Zro_k (by omega)
theorem FrV_2 {z : ZI} {a b : Nat} {A B : Int → Int} (ha : a = 99 ∨ a = 100 ∨ a = 101 ∨ a = 102 ∨ a = 103 ∨ a = 105 ∨ a = 106) (hb : b = 99 ∨ b = 100 ∨ b = 101 ∨ b = 102 ∨ b = 103 ∨ b = 105 ∨ b = 106) : FrV z (Ztwo z a b A B) := fun k' q1 q2 q3 q4 q5 q6 q7 => Ztwo_k (by omega) (by omega)
theorem K_fv {z : ZI} {A B C D E F G : Int → Int} (h : K z) : K (Zfv7 z A B C D E F G) := by
  obtain ⟨hD, hH, hP, hS, hL, hT, hE, hV, hA, hU, hC, hK, hW, hB, hG, hX, hQ, hO⟩ := h
  exact ⟨(JD_c rfl rfl hD), (JH_c rfl rfl rfl rfl rfl rfl rfl hH), (JP_c rfl rfl rfl rfl rfl rfl rfl rfl rfl rfl rfl rfl hP), (JS_c rfl rfl rfl rfl rfl rfl rfl rfl rfl rfl rfl hS), (JL_c rfl rfl hL), (JT_c rfl rfl rfl rfl rfl hT), (JE_c rfl rfl rfl rfl hE), (JV_c rfl rfl rfl rfl hV), (JA_c rfl rfl rfl rfl hA), (JU_c rfl rfl rfl rfl rfl rfl rfl rfl rfl rfl hU), (JC_c rfl rfl rfl rfl rfl rfl rfl rfl rfl rfl hC), (JK_c rfl rfl rfl rfl rfl rfl rfl rfl rfl hK), (JW_c rfl rfl rfl rfl rfl rfl rfl rfl rfl rfl hW), (JB_c rfl rfl rfl rfl rfl rfl rfl rfl rfl rfl rfl rfl rfl rfl rfl rfl rfl rfl rfl rfl hB), (JG_c rfl rfl rfl rfl rfl hG), (JX_c rfl rfl rfl rfl rfl hX), (JQ_c rfl rfl rfl rfl rfl hQ), (JO_c rfl rfl rfl rfl rfl rfl rfl rfl rfl rfl rfl hO)⟩
theorem FrV_K {z z2 : ZI} (h : FrV z z2) (hK : K z) : K z2 := by
  rw [h.eq]
  exact K_fv hK
theorem JN_fv {n : Int} {z z2 : ZI} (h : JN n z) (f : FrV z z2) : JN n z2 := by
  intro i a b
  rw [f 1 (by decide) (by decide) (by decide) (by decide) (by decide) (by decide) (by decide), f 69 (by decide) (by decide) (by decide) (by decide) (by decide) (by decide) (by decide)]
  exact h i a b
theorem m_goesw_L {z y : ZI} {h : Int} {k2 : ZI → Int → Option (Unit × ZI)} (hW : JW z) (hh : 0 ≤ h ∧ h < 30) (hc : 0 ≤ z 71 h ∧ z 71 h < 144) (e71 : y 71 = z 71) (e95 : y 95 = z 95) (e68 : y 68 = z 68) {A : Int → Int} : ∀ (n k fu : Nat) (B : Int → Int), k + n = (z 68 47).toNat → n < fu → B h = nearR (z 95) (z 71 h) k → ∃ B2, X11_findNeeds_L37 k2 fu (Ztwo y 99 100 A B) h k = X11_findNeeds_b105 k2 (Ztwo y 99 100 A B2) h ∧ B2 h = goesF z h ∧ ∀ x, x ≠ h → B2 x = B x := by
  obtain ⟨-, w2, w3, w4, -⟩ := hW
  intro n
  induction n with
  | zero =>
    intro k fu B hk hf hB
    obtain ⟨fu, rfl⟩ : ∃ g, fu = g + 1 := ⟨fu - 1, by omega⟩
    obtain rfl : k = (z 68 47).toNat := by omega
    refine ⟨B, ?_, hB, fun _ _ => rfl⟩
    show X11_findNeeds_L37b k2 (X11_findNeeds_L37 k2 fu) _ _ _ = _
    unfold X11_findNeeds_L37b
    rw [Ztwo_k (k := 68) (by decide) (by decide), e68, if_pos (by omega)]
  | succ n ih =>
    intro k fu B hk hf hB
    obtain ⟨fu, rfl⟩ : ∃ g, fu = g + 1 := ⟨fu - 1, by omega⟩
    have q := w4 k (by omega) (by omega)
    have r := nearR_r (z 95) (z 71 h) k
    have e0 : X11_findNeeds_L37 k2 (fu + 1) (Ztwo y 99 100 A B) h k = X11_findNeeds_L37b k2 (X11_findNeeds_L37 k2 fu) (Ztwo y 99 100 A B) h k := rfl
    have b99 : ∀ B', X11_findNeeds_b99 k2 (X11_findNeeds_L37 k2 fu) (Ztwo y 99 100 A B') h k = X11_findNeeds_L37 k2 fu (Ztwo y 99 100 A B') h ((k + 1 : Nat) : Int) := by
      intro B'
      unfold X11_findNeeds_b99
      rw [Zgd_t (by omega), show (k : Int) + 1 = ((k + 1 : Nat) : Int) by omega]
    have b92 : X11_findNeeds_b92 k2 (X11_findNeeds_L37 k2 fu) (Ztwo y 99 100 A B) h k = X11_findNeeds_L37 k2 fu (Ztwo y 99 100 A (fupd B h k)) h ((k + 1 : Nat) : Int) := by
      unfold X11_findNeeds_b92
      rw [Zgd_t (by omega), Zl_eq, Ztwo_ub (by decide), b99]
    have us := nearR_s (z 95) (z 71 h) k
    have set : nearR (z 95) (z 71 h) (k + 1) = k → ∃ B2, X11_findNeeds_L37 k2 fu (Ztwo y 99 100 A (fupd B h k)) h ((k + 1 : Nat) : Int) = X11_findNeeds_b105 k2 (Ztwo y 99 100 A B2) h ∧ B2 h = goesF z h ∧ ∀ x, x ≠ h → B2 x = B x := by
      intro e
      obtain ⟨B2, i1, i2, i3⟩ := ih (k + 1) fu (fupd B h k) (by omega) (by omega) (by rw [e]; exact if_pos rfl)
      exact ⟨B2, i1, i2, fun x hx => (i3 x hx).trans (if_neg hx)⟩
    rw [e0]
    unfold X11_findNeeds_L37b
    rw [Ztwo_k (k := 68) (by decide) (by decide), e68, if_neg (by omega), Zgd_t (by omega), Ztwo_b (by decide), hB]
    by_cases c : nearR (z 95) (z 71 h) k < 0
    · rw [if_pos c, b92]
      exact set (by rw [us, if_pos (Or.inl c)])
    · have q2 := w4 (nearR (z 95) (z 71 h) k) (by omega) (by omega)
      have f1 := m_far (z := Ztwo y 99 100 A B) (a := z 71 h) (b := z 95 k) hc ⟨q.2.1, q.2.2.1⟩
      have f2 := m_far (z := Ztwo y 99 100 A B) (a := z 71 h) (b := z 95 (nearR (z 95) (z 71 h) k)) hc ⟨q2.2.1, q2.2.2.1⟩
      rw [if_neg c, Zgd_t (by omega), Zgd_t (by omega), Ztwo_k (k := 71) (by decide) (by decide), e71, Ztwo_k (k := 95) (by decide) (by decide), e95, f1, Yb_some, Zgd_t (by omega), Zgd_t (by omega), Ztwo_b (by decide), hB, Zgd_t (by omega), Ztwo_k (k := 71) (by decide) (by decide), e71, Ztwo_k (k := 95) (by decide) (by decide), e95, f2, Yb_some]
      by_cases c2 : farS (z 71 h) (z 95 (nearR (z 95) (z 71 h) k)) ≤ farS (z 71 h) (z 95 k)
      · rw [if_pos c2, b99]
        exact ih (k + 1) fu B (by omega) (by omega) (by rw [us, if_neg (by omega)]; exact hB)
      · rw [if_neg c2, b92]
        exact set (by rw [us, if_pos (by omega)])
theorem m_needs_L {z : ZI} (hK : K z) : ∀ (n k fu : Nat) (A B : Int → Int), k + n = (z 68 12).toNat → n < fu → (∀ h : Int, 0 ≤ h → h < k → A h = needF z h ∧ B h = goesF z h) → ∃ A2 B2, X11_findNeeds_L2 fu (Ztwo z 99 100 A B) k = some ((), Ztwo z 99 100 A2 B2) ∧ ∀ h : Int, 0 ≤ h → h < z 68 12 → A2 h = needF z h ∧ B2 h = goesF z h := by
  have hH := K_H hK
  have h30 := hH.2.1
  have h0 := hH.1
  intro n
  induction n with
  | zero =>
    intro k fu A B hk hf h
    obtain ⟨fu, rfl⟩ : ∃ g, fu = g + 1 := ⟨fu - 1, by omega⟩
    refine ⟨A, B, ?_, fun x x0 x1 => h x x0 (by omega)⟩
    show X11_findNeeds_L2b (X11_findNeeds_L2 fu) _ _ = _
    unfold X11_findNeeds_L2b
    rw [Ztwo_k (k := 68) (by decide) (by decide), if_pos (by omega)]
  | succ n ih =>
    intro k fu A B hk hf h
    obtain ⟨fu, rfl⟩ : ∃ g, fu = g + 1 := ⟨fu - 1, by omega⟩
    have q := hH.2.2.2.1 k (by omega) (by omega)
    have hb := hereH_b (z := z) (k : Int) (z 68 11) (K_P hK)
    have eh := m_hereOf (z := Ztwo z 99 100 A B) (h := (k : Int)) (d := z 68 11) (by have hP := K_P hK; exact (JP_c rfl rfl rfl rfl rfl rfl rfl rfl rfl rfl rfl rfl hP)) (by have hS := K_S hK; exact (JS_c rfl rfl rfl rfl rfl rfl rfl rfl rfl rfl rfl hS))
    have eh2 : hereH (Ztwo z 99 100 A B) k (z 68 11) = hereH z k (z 68 11) := rfl
    rw [eh2] at eh
    have e0 : X11_findNeeds_L2 (fu + 1) (Ztwo z 99 100 A B) k = X11_findNeeds_L2b (X11_findNeeds_L2 fu) (Ztwo z 99 100 A B) k := rfl
    obtain ⟨B2, g1, g2, g3⟩ := m_goesw_L (z := z) (y := z) (h := (k : Int)) (k2 := X11_findNeeds_L2 fu) (A := fupd A k (5 * hereH z k (z 68 11))) (K_W hK) (by omega) ⟨q.2.1, q.2.2.1⟩ rfl rfl rfl (z 68 47).toNat 0 Zfuel (fupd B k (-9)) (by omega) (by have := (K_W hK).2.2.1; unfold Zfuel; omega) (if_pos rfl)
    have g1 : X11_findNeeds_L37 (X11_findNeeds_L2 fu) Zfuel (Ztwo z 99 100 (fupd A k (5 * hereH z k (z 68 11))) (fupd B k (-9))) k 0 = _ := g1
    rw [e0]
    unfold X11_findNeeds_L2b
    rw [Ztwo_k (k := 68) (by decide) (by decide), if_neg (by omega), eh, Yb_some, Zgd_t (by omega), Zgd_t (by omega), Zl_eq, Ztwo_ua, Zgd_t (by omega), Zl_eq, Ztwo_ub (by decide), g1]
    unfold X11_findNeeds_b105
    rw [Zgd_t (by omega), show (k : Int) + 1 = ((k + 1 : Nat) : Int) by omega]
    refine ih (k + 1) fu _ _ (by omega) (by omega) (fun x x0 x1 => ?_)
    by_cases e : x = k
    · rw [e]
      exact ⟨if_pos rfl, g2⟩
    · have p := h x x0 (by omega)
      exact ⟨(if_neg e).trans p.1, ((g3 x e).trans (if_neg e)).trans p.2⟩
theorem m_findNeeds {z : ZI} (hK : K z) : ∃ y, F_X11_findNeeds z = some ((), y) ∧ FrV z y ∧ ∀ h : Int, 0 ≤ h → h < z 68 12 → y 99 h = needF z h ∧ y 100 h = goesF z h := by
  have h30 := (K_H hK).2.1
  obtain ⟨A, B, a1, a2⟩ := m_needs_L hK (z 68 12).toNat 0 Zfuel (z 99) (z 100) (by omega) (by unfold Zfuel; omega) (fun h h0 h1 => by omega)
  have a1 : F_X11_findNeeds (Ztwo z 99 100 (z 99) (z 100)) = some ((), Ztwo z 99 100 A B) := a1
  rw [Ztwo_z] at a1
  exact ⟨_, a1, FrV_2 (by decide) (by decide), a2⟩
/-! all lines behind each other -/
def catL (go nd : Int → Int) (n : Nat) : Nat → List Int
  | 0 => []
  | w + 1 => catL go nd n w ++ lineR go nd w n
theorem catL_s (go nd : Int → Int) (n w : Nat) : catL go nd n (w + 1) = catL go nd n w ++ lineR go nd w n := rfl
theorem catL_mem (go nd : Int → Int) (n : Nat) : ∀ (w : Nat) (h : Int), h ∈ catL go nd n w → 0 ≤ h ∧ h < n ∧ 0 ≤ go h ∧ go h < w ∧ nd h ≠ 0
  | 0, h, e => absurd e (by simp [catL])
  | w + 1, h, e => by
    rw [catL_s, List.mem_append] at e
    rcases e with e | e
    · have := catL_mem go nd n w h e
      exact ⟨this.1, this.2.1, this.2.2.1, by omega, this.2.2.2.2⟩
    · have := (lineR_mem go nd w n h).mp e
      exact ⟨this.1, this.2.1, by omega, by omega, this.2.2.2⟩
theorem nth_r (p q : List Int) (j : Nat) : nth (p ++ q) (p.length + j) = nth q j := by
  induction p with
  | nil =>
    show nth q (0 + j) = nth q j
    rw [Nat.zero_add]
  | cons x p ih =>
    rw [List.length_cons, show p.length + 1 + j = (p.length + j) + 1 by omega]
    exact ih
theorem distL_app {p q : List Int} (dp : distL p) (dq : distL q) (h : ∀ x, x ∈ p → x ∈ q → False) : distL (p ++ q) := by
  intro i j hij hj
  rw [List.length_append] at hj
  by_cases c : j < p.length
  · rw [nth_l q c, nth_l q (by omega)]
    exact dp i j hij c
  · obtain ⟨b, rfl⟩ : ∃ b, j = p.length + b := ⟨j - p.length, by omega⟩
    rw [nth_r]
    by_cases c2 : i < p.length
    · rw [nth_l q c2]
      exact fun e => h _ (nth_mem.mpr ⟨i, c2, rfl⟩) (nth_mem.mpr ⟨b, by omega, e.symm⟩)
    · obtain ⟨a, rfl⟩ : ∃ a, i = p.length + a := ⟨i - p.length, by omega⟩
      rw [nth_r]
      exact dq a b (by omega) (by omega)
theorem catL_d (go nd : Int → Int) (n : Nat) : ∀ w : Nat, distL (catL go nd n w)
  | 0 => fun i j hij hj => absurd hj (by simp [catL])
  | w + 1 => by
    rw [catL_s]
    refine distL_app (catL_d go nd n w) (lineR_d go nd w n) (fun x h1 h2 => ?_)
    have a := catL_mem go nd n w x h1
    have b := (lineR_mem go nd w n x).mp h2
    omega
theorem distL_len {l : List Int} {n : Nat} (d : distL l) (h : ∀ x ∈ l, 0 ≤ x ∧ x < n) : l.length ≤ n :=
  fb_holes n l.length (fun j => (nth l j).toNat) (fun j hj => by
    have := h _ (nth_mem.mpr ⟨j, hj, rfl⟩)
    show (nth l j).toNat < n
    omega) (fun i j hij hj => by
    have a := h _ (nth_mem.mpr ⟨i, by omega, rfl⟩)
    have b := h _ (nth_mem.mpr ⟨j, hj, rfl⟩)
    have c := d i j hij hj
    show (nth l i).toNat ≠ (nth l j).toNat
    omega)
theorem cat_len (go nd : Int → Int) (n w k : Nat) (hk : k ≤ n) : (catL go nd n w ++ lineR go nd w k).length ≤ n := by
  refine distL_len (distL_app (catL_d go nd n w) (lineR_d go nd w k) (fun x h1 h2 => ?_)) (fun x hx => ?_)
  · have a := catL_mem go nd n w x h1
    have b := (lineR_mem go nd w k x).mp h2
    omega
  · rcases List.mem_append.mp hx with e | e
    · have := catL_mem go nd n w x e
      omega
    · have := (lineR_mem go nd w k x).mp e
      omega
theorem m_drw1_L {y : ZI} {go nd : Int → Int} {n w : Nat} {k4 : ZI → Int → Int → Option (Unit × ZI)} (h30 : n ≤ 30) (e68 : y 68 12 = n) (e99 : ∀ h : Int, 0 ≤ h → h < n → y 99 h = nd h) (e100 : ∀ h : Int, 0 ≤ h → h < n → y 100 h = go h) {E : Int → Int} : ∀ (m k fu : Nat) (D : Int → Int), k + m = n → m < fu → (∀ j : Nat, j < (catL go nd n w ++ lineR go nd w k).length → D j = nth (catL go nd n w ++ lineR go nd w k) j) → ∃ D2, X11_findDrawers_L14 k4 fu (Ztwo y 105 106 D E) ((catL go nd n w ++ lineR go nd w k).length : Nat) w k = X11_findDrawers_b60 k4 (Ztwo y 105 106 D2 E) ((catL go nd n (w + 1)).length : Nat) w ∧ ∀ j : Nat, j < (catL go nd n (w + 1)).length → D2 j = nth (catL go nd n (w + 1)) j := by
  intro m
  induction m with
  | zero =>
    intro k fu D hk hf h
    obtain ⟨fu, rfl⟩ : ∃ g, fu = g + 1 := ⟨fu - 1, by omega⟩
    obtain rfl : k = n := by omega
    refine ⟨D, ?_, h⟩
    show X11_findDrawers_L14b k4 (X11_findDrawers_L14 k4 fu) _ _ _ _ = _
    unfold X11_findDrawers_L14b
    rw [Ztwo_k (k := 68) (by decide) (by decide), if_pos (by omega)]
    rfl
  | succ m ih =>
    intro k fu D hk hf h
    obtain ⟨fu, rfl⟩ : ∃ g, fu = g + 1 := ⟨fu - 1, by omega⟩
    have len := cat_len go nd n w (k + 1) (by omega)
    have us : lineR go nd w (k + 1) = if go k = w ∧ nd k ≠ 0 then lineR go nd w k ++ [(k : Int)] else lineR go nd w k := rfl
    have i := ih (k + 1) fu
    rw [us] at i len
    have e0 : X11_findDrawers_L14 k4 (fu + 1) (Ztwo y 105 106 D E) ((catL go nd n w ++ lineR go nd w k).length : Nat) w k = X11_findDrawers_L14b k4 (X11_findDrawers_L14 k4 fu) (Ztwo y 105 106 D E) ((catL go nd n w ++ lineR go nd w k).length : Nat) w k := rfl
    have b54 : ∀ D' (x : Int), X11_findDrawers_b54 k4 (X11_findDrawers_L14 k4 fu) (Ztwo y 105 106 D' E) x w k = X11_findDrawers_L14 k4 fu (Ztwo y 105 106 D' E) x w ((k + 1 : Nat) : Int) := by
      intro D' x
      unfold X11_findDrawers_b54
      rw [Zgd_t (by omega), show (k : Int) + 1 = ((k + 1 : Nat) : Int) by omega]
    rw [e0]
    unfold X11_findDrawers_L14b
    rw [Ztwo_k (k := 68) (by decide) (by decide), if_neg (by omega), Zgd_t (by omega), Ztwo_k (k := 100) (by decide) (by decide), e100 k (by omega) (by omega)]
    by_cases c1 : go k = w
    · rw [if_pos c1, Zgd_t (by omega), Ztwo_k (k := 99) (by decide) (by decide), e99 k (by omega) (by omega)]
      by_cases c2 : nd k = 0
      · rw [if_neg (fun t => t.2 c2)] at i
        rw [if_pos c2, b54]
        exact i D (by omega) (by omega) h
      · rw [if_pos ⟨c1, c2⟩, ← List.append_assoc] at i len
        rw [List.length_append, List.length_singleton] at len
        rw [if_neg c2, Zgd_t (by omega), Zl_eq, Ztwo_ua, Zgd_t (by omega), b54]
        generalize hP : catL go nd n w ++ lineR go nd w k = P at *
        have i2 := i (fupd D (P.length : Nat) k) (by omega) (by omega) (fun j hj => by
          rw [List.length_append, List.length_singleton] at hj
          unfold fupd
          by_cases c : j = P.length
          · rw [if_pos (by omega), c, nth_app]
          · rw [if_neg (by omega), nth_l [(k : Int)] (by omega)]
            exact h j (by omega))
        rw [List.length_append, List.length_singleton] at i2
        rw [show (P.length : Int) + 1 = ((P.length + 1 : Nat) : Int) by omega]
        exact i2
    · rw [if_neg (fun t => c1 t.1)] at i
      rw [if_neg c1, b54]
      exact i D (by omega) (by omega) h
theorem m_drw_L {y : ZI} {go nd : Int → Int} {n W : Nat} (h30 : n ≤ 30) (hW : W ≤ 6) (e68 : y 68 12 = n) (e47 : y 68 47 = W) (e99 : ∀ h : Int, 0 ≤ h → h < n → y 99 h = nd h) (e100 : ∀ h : Int, 0 ≤ h → h < n → y 100 h = go h) : ∀ (m w fu : Nat) (D E : Int → Int), w + m = W → m < fu → (∀ j : Nat, j < (catL go nd n w).length → D j = nth (catL go nd n w) j) → (∀ v : Nat, v < w → E v = ((catL go nd n (v + 1)).length : Nat)) → ∃ D2 E2, X11_findDrawers_L4 fu (Ztwo y 105 106 D E) ((catL go nd n w).length : Nat) w = some ((), Ztwo y 105 106 D2 E2) ∧ (∀ j : Nat, j < (catL go nd n W).length → D2 j = nth (catL go nd n W) j) ∧ (∀ v : Nat, v < W → E2 v = ((catL go nd n (v + 1)).length : Nat)) := by
  intro m
  induction m with
  | zero =>
    intro w fu D E hk hf h1 h2
    obtain ⟨fu, rfl⟩ : ∃ g, fu = g + 1 := ⟨fu - 1, by omega⟩
    obtain rfl : w = W := by omega
    refine ⟨D, E, ?_, h1, h2⟩
    show X11_findDrawers_L4b (X11_findDrawers_L4 fu) _ _ _ = _
    unfold X11_findDrawers_L4b
    rw [Ztwo_k (k := 68) (by decide) (by decide), if_pos (by omega)]
  | succ m ih =>
    intro w fu D E hk hf h1 h2
    obtain ⟨fu, rfl⟩ : ∃ g, fu = g + 1 := ⟨fu - 1, by omega⟩
    have e0 : X11_findDrawers_L4 (fu + 1) (Ztwo y 105 106 D E) ((catL go nd n w).length : Nat) w = X11_findDrawers_L4b (X11_findDrawers_L4 fu) (Ztwo y 105 106 D E) ((catL go nd n w).length : Nat) w := rfl
    have a0 : catL go nd n w ++ lineR go nd w 0 = catL go nd n w := List.append_nil _
    obtain ⟨D2, a1, a2⟩ := m_drw1_L (k4 := X11_findDrawers_L4 fu) (w := w) (E := E) h30 e68 e99 e100 n 0 Zfuel D (by omega) (by unfold Zfuel; omega) (by rw [a0]; exact h1)
    rw [a0] at a1
    have a1 : X11_findDrawers_L14 (X11_findDrawers_L4 fu) Zfuel (Ztwo y 105 106 D E) ((catL go nd n w).length : Nat) w 0 = _ := a1
    rw [e0]
    unfold X11_findDrawers_L4b
    rw [Ztwo_k (k := 68) (by decide) (by decide), if_neg (by omega), a1]
    unfold X11_findDrawers_b60
    rw [Zgd_t (by omega), Zl_eq, Ztwo_ub (by decide), Zgd_t (by omega), show (w : Int) + 1 = ((w + 1 : Nat) : Int) by omega]
    refine ih (w + 1) fu D2 _ (by omega) (by omega) a2 (fun v hv => ?_)
    unfold fupd
    by_cases c : v = w
    · rw [if_pos (by omega), c]
    · rw [if_neg (by omega)]
      exact h2 v (by omega)
