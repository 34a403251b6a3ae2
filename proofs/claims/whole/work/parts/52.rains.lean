/-! rain: the reference -/
def Zfd5 (z : ZI) (A B C D E : Int → Int) : ZI := fun k i => if k = 111 then A i else if k = 112 then B i else if k = 113 then C i else if k = 114 then D i else if k = 115 then E i else z k i
def FrD (z z2 : ZI) : Prop := ∀ k, k ≠ 111 → k ≠ 112 → k ≠ 113 → k ≠ 114 → k ≠ 115 → z2 k = z k
theorem FrD.eq {z z2 : ZI} (h : FrD z z2) : z2 = Zfd5 z (z2 111) (z2 112) (z2 113) (z2 114) (z2 115) := by
  funext k i
  unfold Zfd5
  by_cases h1 : k = 111
  · rw [if_pos h1, h1]
  · rw [if_neg h1]
    by_cases h2 : k = 112
    · rw [if_pos h2, h2]
    · rw [if_neg h2]
      by_cases h3 : k = 113
      · rw [if_pos h3, h3]
      · rw [if_neg h3]
        by_cases h4 : k = 114
        · rw [if_pos h4, h4]
        · rw [if_neg h4]
          by_cases h5 : k = 115
          · rw [if_pos h5, h5]
          · rw [if_neg h5, h k h1 h2 h3 h4 h5]
theorem FrD.rf (z : ZI) : FrD z z := fun _ _ _ _ _ _ => rfl
theorem FrD.tr {z z2 z3 : ZI} (h : FrD z z2) (g : FrD z2 z3) : FrD z z3 := fun k a b c d e => (g k a b c d e).trans (h k a b c d e)
theorem FrD_r {z : ZI} {k : Nat} {f : Int → Int} (hk : k = 111 ∨ k = 112 ∨ k = 113 ∨ k = 114 ∨ k = 115) : FrD z (Zro z k f) := fun k' a b c d e => Zro_k (by omega)
theorem FrD_2 {z : ZI} {a b : Nat} {A B : Int → Int} (ha : a = 111 ∨ a = 112 ∨ a = 113 ∨ a = 114 ∨ a = 115) (hb : b = 111 ∨ b = 112 ∨ b = 113 ∨ b = 114 ∨ b = 115) : FrD z (Ztwo z a b A B) := fun k' q1 q2 q3 q4 q5 => Ztwo_k (by omega) (by omega)
theorem K_fd5 {z : ZI} {A B C D E : Int → Int} (h : K z) : K (Zfd5 z A B C D E) := by
  obtain ⟨hD, hH, hP, hS, hL, hT, hE, hV, hA, hU, hC, hK, hW, hB, hG, hX, hQ, hO⟩ := h
  exact ⟨(JD_c rfl rfl hD), (JH_c rfl rfl rfl rfl rfl rfl rfl hH), (JP_c rfl rfl rfl rfl rfl rfl rfl rfl rfl rfl rfl rfl hP), (JS_c rfl rfl rfl rfl rfl rfl rfl rfl rfl rfl rfl hS), (JL_c rfl rfl hL), (JT_c rfl rfl rfl rfl rfl hT), (JE_c rfl rfl rfl rfl hE), (JV_c rfl rfl rfl rfl hV), (JA_c rfl rfl rfl rfl hA), (JU_c rfl rfl rfl rfl rfl rfl rfl rfl rfl rfl hU), (JC_c rfl rfl rfl rfl rfl rfl rfl rfl rfl rfl hC), (JK_c rfl rfl rfl rfl rfl rfl rfl rfl rfl hK), (JW_c rfl rfl rfl rfl rfl rfl rfl rfl rfl rfl hW), (JB_c rfl rfl rfl rfl rfl rfl rfl rfl rfl rfl rfl rfl rfl rfl rfl rfl rfl rfl rfl rfl hB), (JG_c rfl rfl rfl rfl rfl hG), (JX_c rfl rfl rfl rfl rfl hX), (JQ_c rfl rfl rfl rfl rfl hQ), (JO_c rfl rfl rfl rfl rfl rfl rfl rfl rfl rfl rfl hO)⟩
theorem FrD_K {z z2 : ZI} (h : FrD z z2) (hK : K z) : K z2 := by
  rw [h.eq]
  exact K_fd5 hK
theorem JN_fd {n : Int} {z z2 : ZI} (h : JN n z) (f : FrD z z2) : JN n z2 := by
  intro i a b
  rw [f 1 (by decide) (by decide) (by decide) (by decide) (by decide), f 69 (by decide) (by decide) (by decide) (by decide) (by decide)]
  exact h i a b
theorem m_fdi_L {k4 : ZI → Int → Int → Option (Unit × ZI)} {z : ZI} {A : Int → Int} {m : Nat} (hm : m < 144) (hA : ∀ i : Int, 0 ≤ i → i < m → 0 ≤ A i ∧ A i < 144) : ∀ (j fu : Nat), j ≤ m → j < fu → X11_findDown_L24 k4 fu (Zro z 115 (shf A j m)) m m j = X11_findDown_b70 k4 (Zro z 115 (shf A (posR (fun i => z 70 (A i)) (z 70 m) j) m)) m m (posR (fun i => z 70 (A i)) (z 70 m) j) := by
  intro j
  induction j with
  | zero =>
    intro fu hj hf
    obtain ⟨fu, rfl⟩ : ∃ g, fu = g + 1 := ⟨fu - 1, by omega⟩
    show X11_findDown_L24b k4 (X11_findDown_L24 k4 fu) _ _ _ _ = _
    unfold X11_findDown_L24b
    rw [if_pos (by omega)]
    rfl
  | succ j ih =>
    intro fu hj hf
    obtain ⟨fu, rfl⟩ : ∃ g, fu = g + 1 := ⟨fu - 1, by omega⟩
    have i := ih fu (by omega) (by omega)
    have a := hA j (by omega) (by omega)
    have u : posR (fun i => z 70 (A i)) (z 70 m) (j + 1) = if z 70 (A j) < z 70 m then posR (fun i => z 70 (A i)) (z 70 m) j else j + 1 := rfl
    have c1 : ((j + 1 : Nat) : Int) = (j : Int) + 1 := by omega
    show X11_findDown_L24b k4 (X11_findDown_L24 k4 fu) _ _ _ _ = _
    unfold X11_findDown_L24b
    rw [u]
    by_cases c : z 70 (A j) < z 70 m
    · rw [if_pos c, c1, if_neg (by omega), Zgd_t (by omega), show (j : Int) + 1 - 1 = j by omega, Zgd_t (by omega), Zro_s, shf_b, Zgd_t (by omega), Zgd_t (by omega), Zro_k (k := 70) (by decide), if_neg (by omega), Zgd_t (by omega), Zgd_t (by omega), Zgd_t (by omega), Zl_eq, Zro_u, shf_s (by omega), Zgd_t (by omega), show (j : Int) + 1 + -1 = j by omega]
      exact i
    · rw [if_neg c, c1, if_neg (by omega), Zgd_t (by omega), show (j : Int) + 1 - 1 = j by omega, Zgd_t (by omega), Zro_s, shf_b, Zgd_t (by omega), Zgd_t (by omega), Zro_k (k := 70) (by decide), if_pos (by omega)]
theorem m_fd_L {z : ZI} {base : Int → Int} : ∀ (n k fu : Nat) (B : Int → Int), k + n = 144 → n < fu → (∀ c : Int, 0 ≤ c → c < k → B c = dnH (z 70) c) → ∃ B2, X11_findDown_L4 fu (Ztwo z 112 115 B (hgR (z 70) base k)) k k = some ((), Ztwo z 112 115 B2 (hgR (z 70) base 144)) ∧ (∀ c : Int, 0 ≤ c → c < 144 → B2 c = dnH (z 70) c) := by
  intro n
  induction n with
  | zero =>
    intro k fu B hk hf hB
    obtain ⟨fu, rfl⟩ : ∃ g, fu = g + 1 := ⟨fu - 1, by omega⟩
    obtain rfl : k = 144 := by omega
    refine ⟨B, ?_, hB⟩
    show X11_findDown_L4b (X11_findDown_L4 fu) _ _ _ = _
    unfold X11_findDown_L4b
    rw [if_pos (by decide)]
  | succ n ih =>
    intro k fu B hk hf hB
    obtain ⟨fu, rfl⟩ : ∃ g, fu = g + 1 := ⟨fu - 1, by omega⟩
    have B' : ∀ c : Int, 0 ≤ c → c < ((k + 1 : Nat) : Int) → fupd B k (dnH (z 70) k) c = dnH (z 70) c := by
      intro c h0 h1
      unfold fupd
      by_cases q : c = k
      · rw [if_pos q, q]
      · rw [if_neg q]; exact hB c h0 (by omega)
    have e0 : X11_findDown_L4 (fu + 1) (Ztwo z 112 115 B (hgR (z 70) base k)) k k = X11_findDown_L4b (X11_findDown_L4 fu) (Ztwo z 112 115 B (hgR (z 70) base k)) k k := rfl
    have ed := m_down (z := Ztwo z 112 115 B (hgR (z 70) base k)) (c := (k : Int)) (by omega)
    have e70 : (Ztwo z 112 115 B (hgR (z 70) base k)) 70 = z 70 := rfl
    rw [e70] at ed
    have e2 : ∀ A, Ztwo z 112 115 (fupd B k (dnH (z 70) k)) A = Zro (Zro z 112 (fupd B k (dnH (z 70) k))) 115 A := by
      intro A
      funext k' i
      unfold Ztwo Zro
      by_cases h1 : k' = 115
      · rw [if_neg (by omega), if_pos h1, if_pos h1]
      · rw [if_neg h1, if_neg h1]
    have or := hgR_ord (z 70) base k
    have l := m_fdi_L (k4 := X11_findDown_L4 fu) (z := Zro z 112 (fupd B k (dnH (z 70) k))) (A := hgR (z 70) base k) (m := k) (by omega) (fun i i0 i1 => by
      have := or.1 i i0 i1
      omega) k Zfuel (Nat.le_refl _) (by unfold Zfuel; omega)
    have e71 : (Zro z 112 (fupd B k (dnH (z 70) k))) 70 = z 70 := rfl
    rw [shf_m, e71] at l
    have pl := posR_le (fun i => z 70 (hgR (z 70) base k i)) (z 70 k) k
    rw [e0]
    unfold X11_findDown_L4b
    rw [if_neg (by omega), ed, Yb_some, Zgd_t (by omega), Zl_eq, Ztwo_ua, e2, l]
    unfold X11_findDown_b70
    rw [Zgd_t (by omega), Zl_eq, Zro_u, insF_e, Zgd_t (by omega), Zgd_t (by omega), ← e2, show (k : Int) + 1 = ((k + 1 : Nat) : Int) by omega]
    exact ih (k + 1) fu _ (by omega) (by omega) B'
theorem m_findDown (z : ZI) : ∃ y, F_X11_findDown z = some ((), y) ∧ FrD z y ∧ (∀ c : Int, 0 ≤ c → c < 144 → y 112 c = dnH (z 70) c) ∧ ordH (z 70) (y 115) := by
  obtain ⟨B2, a1, a2⟩ := m_fd_L (z := z) (base := z 115) 144 0 Zfuel (z 112) (by decide) (by unfold Zfuel; omega) (fun c c0 c1 => by omega)
  have a1 : X11_findDown_L4 Zfuel (Ztwo z 112 115 (z 112) (z 115)) 0 0 = some ((), Ztwo z 112 115 B2 (hgR (z 70) (z 115) 144)) := a1
  rw [Ztwo_z] at a1
  exact ⟨_, a1, FrD_2 (by decide) (by decide), a2, by rw [Ztwo_b (by decide)]; exact hgR_o _ _⟩
/-! which cells are drained -/
def DkR (dc : Int → Int) (s : Int) : Nat → Int → Int
  | 0 => fun _ => 0
  | k + 1 => fun c => if c = dc k then (if DkR dc s k c = 0 then (if bitT s k = 1 then 1 else 0) else 1) else DkR dc s k c
theorem DkR_i (dc : Int → Int) (s : Int) : ∀ (k : Nat) (c : Int), (DkR dc s k c = 0 ∨ DkR dc s k c = 1) ∧ (DkR dc s k c = 1 ↔ ∃ j : Nat, j < k ∧ dc j = c ∧ bitT s j = 1)
  | 0, c => ⟨Or.inl rfl, ⟨fun e => by
      have e : (0 : Int) = 1 := e
      omega, fun ⟨j, q, _⟩ => by omega⟩⟩
  | k + 1, c => by
    obtain ⟨a, b⟩ := DkR_i dc s k c
    have u : DkR dc s (k + 1) c = if c = dc k then (if DkR dc s k c = 0 then (if bitT s k = 1 then 1 else 0) else 1) else DkR dc s k c := rfl
    have ex : (∃ j : Nat, j < k + 1 ∧ dc j = c ∧ bitT s j = 1) ↔ ((∃ j : Nat, j < k ∧ dc j = c ∧ bitT s j = 1) ∨ (dc k = c ∧ bitT s k = 1)) := by
      constructor
      · rintro ⟨j, q, r⟩
        by_cases e : j = k
        · rw [e] at r; exact Or.inr r
        · exact Or.inl ⟨j, by omega, r⟩
      · rintro (⟨j, q, r⟩ | r)
        · exact ⟨j, by omega, r⟩
        · exact ⟨k, by omega, r⟩
    rw [u, ex, ← b]
    by_cases q : c = dc k
    · rw [if_pos q]
      by_cases r : DkR dc s k c = 0
      · rw [if_pos r]
        by_cases t : bitT s k = 1
        · rw [if_pos t]
          exact ⟨Or.inr rfl, ⟨fun _ => Or.inr ⟨q.symm, t⟩, fun _ => rfl⟩⟩
        · rw [if_neg t]
          exact ⟨Or.inl rfl, ⟨fun e => by omega, fun e => by
            rcases e with e | e
            · omega
            · exact absurd e.2 t⟩⟩
      · rw [if_neg r]
        exact ⟨Or.inr rfl, ⟨fun _ => Or.inl (a.resolve_left r), fun _ => rfl⟩⟩
    · rw [if_neg q]
      exact ⟨a, ⟨fun e => Or.inl e, fun e => by
        rcases e with e | e
        · exact e
        · exact absurd e.1.symm q⟩⟩
theorem DkR_D {z : ZI} (hE : JE z) (s c : Int) : DkR (z 110) s (z 68 62).toNat c = Dr z s c := by
  obtain ⟨-, e1, e2, e3, e4, -⟩ := hE
  have d := DkR_i (z 110) s (z 68 62).toNat c
  have r := srch_r (z 110) c (z 68 62).toNat 0 (Int.le_refl _)
  have key : DkR (z 110) s (z 68 62).toNat c = 1 ↔ (srch (z 110) c (z 68 62).toNat 0 ≠ -9 ∧ bitT s (srch (z 110) c (z 68 62).toNat 0) = 1) := by
    rw [d.2]
    constructor
    · rintro ⟨j, j1, j2, j3⟩
      rcases r with r | r
      · exact absurd j2 (srch_no (z 110) c (z 68 62).toNat 0 (Int.le_refl _) r j (by omega) (by omega))
      · have := e4 j (srch (z 110) c (z 68 62).toNat 0) (by omega) (by omega) (by omega) (by omega) (j2.trans r.2.2.symm)
        rw [← this]
        exact ⟨by omega, j3⟩
    · rintro ⟨q1, q2⟩
      rcases r with r | r
      · exact absurd r q1
      · refine ⟨(srch (z 110) c (z 68 62).toNat 0).toNat, by omega, ?_, ?_⟩
        · rw [show (((srch (z 110) c (z 68 62).toNat 0).toNat : Nat) : Int) = srch (z 110) c (z 68 62).toNat 0 by omega]
          exact r.2.2
        · rw [show (((srch (z 110) c (z 68 62).toNat 0).toNat : Nat) : Int) = srch (z 110) c (z 68 62).toNat 0 by omega]
          exact q2
  unfold Dr
  by_cases q : srch (z 110) c (z 68 62).toNat 0 ≠ -9 ∧ bitT s (srch (z 110) c (z 68 62).toNat 0) = 1
  · rw [if_pos q]
    exact key.mpr q
  · rw [if_neg q]
    rcases d.1 with e | e
    · exact e
    · exact absurd (key.mp e) q
theorem m_r0_L {z : ZI} {s r : Int} : ∀ (n k fu : Nat) (G W : Int → Int), k + n = 144 → n < fu → (∀ c : Int, 0 ≤ c → c < k → G c = 0 ∧ W c = r) → ∃ G2 W2, X11_rains_L2 fu (Ztwo z 113 111 G W) r s k = X11_rains_b29 (Ztwo z 113 111 G2 W2) s ∧ (∀ c : Int, 0 ≤ c → c < 144 → G2 c = 0 ∧ W2 c = r) := by
  intro n
  induction n with
  | zero =>
    intro k fu W F hk hf h
    obtain ⟨fu, rfl⟩ : ∃ g, fu = g + 1 := ⟨fu - 1, by omega⟩
    obtain rfl : k = 144 := by omega
    refine ⟨W, F, ?_, h⟩
    show X11_rains_L2b (X11_rains_L2 fu) _ _ _ _ = _
    unfold X11_rains_L2b
    rw [if_pos (by decide)]
  | succ n ih =>
    intro k fu W F hk hf h
    obtain ⟨fu, rfl⟩ : ∃ g, fu = g + 1 := ⟨fu - 1, by omega⟩
    have e0 : X11_rains_L2 (fu + 1) (Ztwo z 113 111 W F) r s k = X11_rains_L2b (X11_rains_L2 fu) (Ztwo z 113 111 W F) r s k := rfl
    rw [e0]
    unfold X11_rains_L2b
    rw [if_neg (by omega), Zgd_t (by omega), Zl_eq, Ztwo_ua, Zgd_t (by omega), Zl_eq, Ztwo_ub (by decide), Zgd_t (by omega), show (k : Int) + 1 = ((k + 1 : Nat) : Int) by omega]
    refine ih (k + 1) fu _ _ (by omega) (by omega) (fun c c0 c1 => ?_)
    unfold fupd
    by_cases q : c = k
    · rw [if_pos q, if_pos q]; exact ⟨rfl, rfl⟩
    · rw [if_neg q, if_neg q]; exact h c c0 (by omega)
theorem m_r1_L {z : ZI} {s : Int} {W : Int → Int} (hE : JE z) : ∀ (n k fu : Nat) (G : Int → Int), k + n = (z 68 62).toNat → n < fu → (∀ c : Int, 0 ≤ c → c < 144 → G c = DkR (z 110) s k c) → ∃ G2, X11_rains_L31 fu (Ztwo z 113 111 G W) s k = X11_rains_b84 (Ztwo z 113 111 G2 W) ∧ (∀ c : Int, 0 ≤ c → c < 144 → G2 c = DkR (z 110) s (z 68 62).toNat c) := by
  obtain ⟨-, e1, e2, e3, e4, -⟩ := hE
  intro n
  induction n with
  | zero =>
    intro k fu G hk hf h
    obtain ⟨fu, rfl⟩ : ∃ g, fu = g + 1 := ⟨fu - 1, by omega⟩
    obtain rfl : k = (z 68 62).toNat := by omega
    refine ⟨G, ?_, h⟩
    show X11_rains_L31b (X11_rains_L31 fu) _ _ _ = _
    unfold X11_rains_L31b
    rw [Ztwo_k (k := 68) (by decide) (by decide), if_pos (by omega)]
  | succ n ih =>
    intro k fu G hk hf h
    obtain ⟨fu, rfl⟩ : ∃ g, fu = g + 1 := ⟨fu - 1, by omega⟩
    have c := e3 k (by omega) (by omega)
    have e0 : X11_rains_L31 (fu + 1) (Ztwo z 113 111 G W) s k = X11_rains_L31b (X11_rains_L31 fu) (Ztwo z 113 111 G W) s k := rfl
    have st : ∀ v : Int, (v = 0 ∨ v = 1) → (v = if G (z 110 k) = 0 then (if bitT s k = 1 then 1 else 0) else 1) → ∃ G2, X11_rains_b77 (X11_rains_L31 fu) (Ztwo z 113 111 G W) s k (z 110 k) v = X11_rains_b84 (Ztwo z 113 111 G2 W) ∧ (∀ c : Int, 0 ≤ c → c < 144 → G2 c = DkR (z 110) s (z 68 62).toNat c) := by
      intro v v0 v1
      unfold X11_rains_b77
      rw [Zgd_t v0, Zgd_t (by omega), Zl_eq, Ztwo_ua, Zgd_t (by omega), show (k : Int) + 1 = ((k + 1 : Nat) : Int) by omega]
      refine ih (k + 1) fu _ (by omega) (by omega) (fun x x0 x1 => ?_)
      have u : DkR (z 110) s (k + 1) x = if x = z 110 k then (if DkR (z 110) s k x = 0 then (if bitT s k = 1 then 1 else 0) else 1) else DkR (z 110) s k x := rfl
      rw [u]
      unfold fupd
      by_cases q : x = z 110 k
      · rw [if_pos q, if_pos q, v1, h _ c.1 c.2, q]
      · rw [if_neg q, if_neg q]
        exact h x x0 x1
    rw [e0]
    unfold X11_rains_L31b X11_rains_b72
    rw [Ztwo_k (k := 68) (by decide) (by decide), if_neg (by omega), Zgd_t (by omega), Zgd_t (by omega), Ztwo_k (k := 110) (by decide) (by decide), Zgd_t (by omega), Ztwo_a]
    by_cases q : G (z 110 k) = 0
    · rw [if_pos q]
      by_cases t : jand (jshr s k) 1 = 1
      · rw [if_pos t]
        exact st 1 (Or.inr rfl) (by rw [if_pos q]; exact (if_pos t).symm)
      · rw [if_neg t]
        exact st 0 (Or.inl rfl) (by rw [if_pos q]; exact (if_neg t).symm)
    · rw [if_neg q]
      exact st 1 (Or.inr rfl) (by rw [if_neg q])
theorem m_r2_L {z : ZI} {ht D : Int → Int} {r : Int} (hb : ∀ c : Int, 0 ≤ c → c < 144 → z 112 c = dnH ht c) (ho : ordH ht (z 115)) (hD : ∀ c : Int, 0 ≤ c → c < 144 → z 113 c = D c) (hr : 0 ≤ r ∧ r ≤ 999) : ∀ (n k fu : Nat) (W : Int → Int), k + n = 144 → n < fu → (∀ c : Int, 0 ≤ c → c < 144 → W c = pR ht D (z 115) r k c) → ∃ W2, X11_rains_L86 fu (Zro z 111 W) k = some ((), Zro z 111 W2) ∧ (∀ c : Int, 0 ≤ c → c < 144 → W2 c = pR ht D (z 115) r 144 c) := by
  intro n
  induction n with
  | zero =>
    intro k fu W hk hf h
    obtain ⟨fu, rfl⟩ : ∃ g, fu = g + 1 := ⟨fu - 1, by omega⟩
    obtain rfl : k = 144 := by omega
    refine ⟨W, ?_, h⟩
    show X11_rains_L86b (X11_rains_L86 fu) _ _ = _
    unfold X11_rains_L86b
    rw [if_pos (by decide)]
  | succ n ih =>
    intro k fu W hk hf h
    obtain ⟨fu, rfl⟩ : ∃ g, fu = g + 1 := ⟨fu - 1, by omega⟩
    have hc := ho.1 k (by omega) (by omega)
    have dr := dnH_r ht hc
    have e0 : X11_rains_L86 (fu + 1) (Zro z 111 W) k = X11_rains_L86b (X11_rains_L86 fu) (Zro z 111 W) k := rfl
    have b143 : ∀ W, X11_rains_b143 (X11_rains_L86 fu) (Zro z 111 W) k = X11_rains_L86 fu (Zro z 111 W) ((k + 1 : Nat) : Int) := by
      intro W
      unfold X11_rains_b143
      rw [Zgd_t (by omega), show (k : Int) + 1 = ((k + 1 : Nat) : Int) by omega]
    rw [e0]
    unfold X11_rains_L86b
    rw [if_neg (by omega), Zgd_t (by omega), Zro_k (k := 115) (by decide), Zgd_t (by omega), Zro_k (k := 112) (by decide), hb _ hc.1 hc.2, Zro_k (k := 113) (by decide), hD _ hc.1 hc.2]
    by_cases q : dnH ht (z 115 k) < 0
    · rw [if_pos q, b143]
      refine ih (k + 1) fu _ (by omega) (by omega) (fun c c0 c1 => ?_)
      rw [pR_f (fun t => by omega)]
      exact h c c0 c1
    · rw [if_neg q, Zgd_t (by omega)]
      by_cases t : D (z 115 k) = 0
      · have p2 := pR_2 (D := D) (rain := r) ho hr.1 (i := k) (by omega) (by omega)
        have v1 := h (dnH ht (z 115 k)) (by omega) (by omega)
        have v2 := h (z 115 k) hc.1 hc.2
        rw [if_pos t, Zgd_t (by omega), Zgd_t (by omega), Zgd_t (by omega), Zro_s, v1, v2, Zgd_t (by omega), Zgd_t (by omega), Zl_eq, Zro_u, b143]
        refine ih (k + 1) fu _ (by omega) (by omega) (fun c c0 c1 => ?_)
        rw [pR_t ⟨t, by omega⟩]
        unfold fupd
        rw [h c c0 c1]
      · rw [if_neg t, b143]
        refine ih (k + 1) fu _ (by omega) (by omega) (fun c c0 c1 => ?_)
        rw [pR_f (fun w => t w.1)]
        exact h c c0 c1
theorem m_rains {z : ZI} {s r : Int} (hL : JL z) (hE : JE z) (hb : ∀ c : Int, 0 ≤ c → c < 144 → z 112 c = dnH (z 70) c) (ho : ordH (z 70) (z 115)) (hr : 0 ≤ r ∧ r ≤ 999) : ∃ y, F_X11_rains z r s = some ((), y) ∧ FrD z y ∧ y 112 = z 112 ∧ y 115 = z 115 ∧ y 114 = z 114 ∧ ∀ c : Int, 0 ≤ c → c < 144 → y 111 c = WS z s r c ∧ y 113 c = Dr z s c := by
  obtain ⟨G1, W1, a1, a2⟩ := m_r0_L (z := z) (s := s) (r := r) 144 0 Zfuel (z 113) (z 111) (by decide) (by unfold Zfuel; omega) (fun c c0 c1 => by omega)
  have a1 : X11_rains_L2 Zfuel (Ztwo z 113 111 (z 113) (z 111)) r s 0 = X11_rains_b29 (Ztwo z 113 111 G1 W1) s := a1
  rw [Ztwo_z] at a1
  obtain ⟨G2, b1, b2⟩ := m_r1_L (z := z) (s := s) (W := W1) hE (z 68 62).toNat 0 Zfuel G1 (by omega) (by have := hE.2.2.1; unfold Zfuel; omega) (fun c c0 c1 => (a2 c c0 c1).1)
  have b1 : X11_rains_b29 (Ztwo z 113 111 G1 W1) s = X11_rains_b84 (Ztwo z 113 111 G2 W1) := b1
  have e2 : Ztwo z 113 111 G2 W1 = Zro (Zro z 113 G2) 111 W1 := by
    funext k i
    unfold Ztwo Zro
    by_cases h1 : k = 111
    · rw [if_neg (by omega), if_pos h1, if_pos h1]
    · rw [if_neg h1, if_neg h1]
  obtain ⟨W2, d1, d2⟩ := m_r2_L (z := Zro z 113 G2) (ht := z 70) (D := Dr z s) (r := r) hb ho (fun c c0 c1 => by
    rw [Zro_s, b2 c c0 c1]
    exact DkR_D hE s c) hr 144 0 Zfuel W1 (by decide) (by unfold Zfuel; omega) (fun c c0 c1 => (a2 c c0 c1).2)
  have d1 : X11_rains_b84 (Zro (Zro z 113 G2) 111 W1) = some ((), Zro (Zro z 113 G2) 111 W2) := d1
  have d2 : ∀ c : Int, 0 ≤ c → c < 144 → W2 c = pR (z 70) (Dr z s) (z 115) r 144 c := d2
  refine ⟨Zro (Zro z 113 G2) 111 W2, ?_, (FrD_r (by decide)).tr (FrD_r (by decide)), rfl, rfl, rfl, fun c c0 c1 => ⟨?_, ?_⟩⟩
  · unfold F_X11_rains
    rw [a1, b1, e2, d1]
  · rw [Zro_s, d2 c c0 c1]
    exact wtr_un (ht_L hL) (pR_w ho) (WS_w s r) (fun c _ _ => (pR_b ho hr.1 144 (Nat.le_refl _)).1 c) (fun c _ _ => WS_0 s hr.1 c) ⟨c0, c1⟩
  · show G2 c = _
    rw [b2 c c0 c1]
    exact DkR_D hE s c
set_option maxHeartbeats 400000 in
theorem t_flow {n : Int} {z : ZI} (hK : K z) (hN : JN n z) (hn : n ≤ 1000) (c r : Int) : Both (F_X10_flow z c r) (fun z1 => F_X11_flow z1 c r) (fun z2 => K z2 ∧ JN (n + 1) z2) := by
  have hR := hN.R hn
  have hl := links hK
  have hK0 := hK
  obtain ⟨hD, hH, hP, hS, hL, hT, hE, hV, hA, hU, hC, hK, hW, hB, hG, hX, hQ, hO⟩ := hK
  by_cases c1 : ¬ (0 ≤ c ∧ c < 144)
  · refine Both_ref hK0 hN (w := -1) hn (by omega) ?_ ?_
    · unfold F_X10_flow X10_flow_b43
      grind (gen := 20) [Yb_some, Zgd_i, Zl_eq, bi, e_refuse, e_isCell, e_checkRange, rng]
    · show F_X11_flow (zR z (-1)) c r = _
      unfold F_X11_flow 
      grind (gen := 20) [Yb_some, Zgd_i, Zl_eq, bi, zR_d, zR_k, e_no, e_mCell, e_out, rng]
  by_cases c2 : r < 1
  · refine Both_ref hK0 hN (w := -4) hn (by omega) ?_ ?_
    · unfold F_X10_flow X10_flow_b43
      grind (gen := 20) [Yb_some, Zgd_i, Zl_eq, bi, e_refuse, e_isCell, e_checkRange, rng]
    · show F_X11_flow (zR z (-4)) c r = _
      unfold F_X11_flow 
      grind (gen := 20) [Yb_some, Zgd_i, Zl_eq, bi, zR_d, zR_k, e_no, e_mCell, e_out, rng]
  by_cases c3 : 999 < r
  · refine Both_ref hK0 hN (w := -6) hn (by omega) ?_ ?_
    · unfold F_X10_flow X10_flow_b43
      grind (gen := 20) [Yb_some, Zgd_i, Zl_eq, bi, e_refuse, e_isCell, e_checkRange, rng]
    · show F_X11_flow (zR z (-6)) c r = _
      unfold F_X11_flow 
      grind (gen := 20) [Yb_some, Zgd_i, Zl_eq, bi, zR_d, zR_k, e_no, e_mCell, e_out, rng]
  have r0 : rng r 1 999 = 0 := by unfold rng; rw [if_neg (by omega), if_neg (by omega)]
  obtain ⟨y1, a1, a2, a3, a4⟩ := x_pour (s := 0) (r := r) hL hV hE (by omega)
  have hK1 := FrP_K a2 a3 hK0
  have hN1 := JN_fp hN a2
  have eW : WS y1 = WS z := by rw [a2.eq]; rfl
  obtain ⟨y2, b1, b2, b3, b4⟩ := m_findDown y1
  have hK2 := FrD_K b2 hK1
  have hN2 := JN_fd hN1 b2
  have e70 : y2 70 = y1 70 := b2 70 (by decide) (by decide) (by decide) (by decide) (by decide)
  have eW2 : WS y2 = WS y1 := by rw [b2.eq]; rfl
  have K_L : ∀ {z : ZI}, K z → JL z := fun {z} h => by
    obtain ⟨hD, hH, hP, hS, hL, hT, hE, hV, hA, hU, hC, hK, hW, hB, hG, hX, hQ, hO⟩ := h
    exact hL
  have K_E : ∀ {z : ZI}, K z → JE z := fun {z} h => by
    obtain ⟨hD, hH, hP, hS, hL, hT, hE, hV, hA, hU, hC, hK, hW, hB, hG, hX, hQ, hO⟩ := h
    exact hE
  obtain ⟨y3, d1, d2, d3, d4, d5, d6⟩ := m_rains (z := y2) (s := 0) (r := r) (K_L hK2) (K_E hK2) (by rw [e70]; exact b3) (by rw [e70]; exact b4) (by omega)
  refine ⟨WS z 0 r c, y1, y3, ?_, ?_, FrD_K d2 hK2, JN_1 (JN_fd hN2 d2)⟩
  · unfold F_X10_flow X10_flow_b43 F_X4_comesTo
    rw [e_isCell, Yb_some, bi_t (by omega), if_neg (by decide), e_checkRange, Yb_some, r0, if_pos rfl, a1, Yb_some, Zgd_t (by omega), Yb_some, (a4 c (by omega) (by omega)).1]
  · show F_X11_flow y1 c r = _
    unfold F_X11_flow
    rw [e_mCell, Yb_some, bi_t (by omega), if_neg (by decide), e_out, Yb_some, r0, if_pos rfl, b1, Yb_some, d1, Yb_some, Zgd_t (by omega), (d6 c (by omega) (by omega)).1, eW2, eW]
