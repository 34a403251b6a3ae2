/-! fire: who burns on -/
def Cl (z : ZI) (s h : Int) : Int := if srch (z 116) h (z 68 70).toNat 0 ≠ -9 ∧ bitT s (srch (z 116) h (z 68 70).toNat 0) = 1 then 1 else 0
def chS (z : ZI) (s c : Int) : Int := if srch (z 71) c (z 68 12).toNat 0 = -9 then -9 else if Cl z s (srch (z 71) c (z 68 12).toNat 0) = 0 then srch (z 71) c (z 68 12).toNat 0 else -9
def nxF (z : ZI) (s h d : Int) : Int := if besS (z 71 h) d = -9 then -9 else chS z s (besS (z 71 h) d)
theorem Cl_01 (z : ZI) (s h : Int) : Cl z s h = 0 ∨ Cl z s h = 1 := by
  unfold Cl
  split
  · exact Or.inr rfl
  · exact Or.inl rfl
theorem chS_r {z : ZI} (hH : JH z) (s c : Int) : chS z s c = -9 ∨ (0 ≤ chS z s c ∧ chS z s c < z 68 12 ∧ z 71 (chS z s c) = c ∧ Cl z s (chS z s c) = 0) := by
  have r := srch_r (z 71) c (z 68 12).toNat 0 (Int.le_refl _)
  have h0 := hH.1
  unfold chS
  by_cases q : srch (z 71) c (z 68 12).toNat 0 = -9
  · rw [if_pos q]; exact Or.inl rfl
  · rw [if_neg q]
    by_cases t : Cl z s (srch (z 71) c (z 68 12).toNat 0) = 0
    · rw [if_pos t]
      refine Or.inr ⟨by omega, by omega, ?_, t⟩
      rcases r with r | r
      · exact absurd r q
      · exact r.2.2
    · rw [if_neg t]; exact Or.inl rfl
theorem nxF_b {z : ZI} (hH : JH z) (s h d : Int) : nxF z s h d = -9 ∨ (0 ≤ nxF z s h d ∧ nxF z s h d < z 68 12) := by
  unfold nxF
  by_cases q : besS (z 71 h) d = -9
  · rw [if_pos q]; exact Or.inl rfl
  · rw [if_neg q]
    have := chS_r hH s (besS (z 71 h) d)
    omega
theorem x_cleared {z : ZI} (hX : JX z) {s h : Int} (hh : 0 ≤ h ∧ h < 30) : F_X2_isCleared z h s = some (Cl z s h, z) := by
  have e := hX.2.2.2.2.2 h hh.1 hh.2
  unfold F_X2_isCleared X2_isCleared_b29 X2_isCleared_b30 Cl bitT
  rw [← e, Zgd_t (by omega)]
  by_cases q : z 55 h = -9
  · rw [if_pos q, if_neg (fun t => t.1 q), Zgd_t (by omega)]
  · rw [if_neg q, Zgd_t (by omega)]
    by_cases r : jand (jshr s (z 55 h)) 1 = 1
    · rw [if_pos r, if_pos ⟨q, r⟩, Zgd_t (by omega)]
    · rw [if_neg r, if_neg (fun t => r t.2), Zgd_t (by omega)]
theorem x_next2 {z : ZI} (hH : JH z) (hX : JX z) {s h d : Int} (hh : 0 ≤ h ∧ h < z 68 12) : F_X2_nextHouse z h d s = some (nxF z s h d, z) := by
  have q := hH.2.2.2.1 h hh.1 hh.2
  have h30 := hH.2.1
  have br := besS_r (c := z 71 h) (s := d) ⟨q.2.1, q.2.2.1⟩
  unfold F_X2_nextHouse X2_nextHouse_b47 X2_nextHouse_b54 F_X3_cellOf F_X3_houseAt nxF
  rw [Zgd_t (by omega), Yb_some, q.1, e_beside ⟨q.2.1, q.2.2.1⟩, Yb_some]
  by_cases c : besS (z 71 h) d = -9
  · rw [if_pos c, if_pos c]
  · have e := hH.2.2.2.2.2 (besS (z 71 h) d) (by omega) (by omega)
    have r := srch_r (z 71) (besS (z 71 h) d) (z 68 12).toNat 0 (Int.le_refl _)
    rw [if_neg c, if_neg c, Zgd_t (by omega), Yb_some, e]
    unfold chS
    by_cases t : srch (z 71) (besS (z 71 h) d) (z 68 12).toNat 0 = -9
    · rw [if_pos t, if_pos t]
    · rw [if_neg t, if_neg t, x_cleared hX (by omega), Yb_some]
      by_cases w : Cl z s (srch (z 71) (besS (z 71 h) d) (z 68 12).toNat 0) = 0
      · rw [if_pos w, if_pos w]
      · rw [if_neg w, if_neg w]
/-! the reference's rows -/
def CkR (lh : Int → Int) (s : Int) : Nat → Int → Int
  | 0 => fun _ => 0
  | k + 1 => fun h => if h = lh k then (if bitT s k = 1 then 1 else 0) else CkR lh s k h
theorem CkR_i {lh : Int → Int} {s : Int} {N : Nat} (hd : ∀ i j : Int, 0 ≤ i → i < N → 0 ≤ j → j < N → lh i = lh j → i = j) : ∀ k : Nat, k ≤ N → ∀ h : Int, ((∀ j : Nat, j < k → lh j ≠ h) → CkR lh s k h = 0) ∧ (∀ j : Nat, j < k → lh j = h → CkR lh s k h = if bitT s j = 1 then 1 else 0)
  | 0, _, h => ⟨fun _ => rfl, fun j hj => by omega⟩
  | k + 1, hk, h => by
    obtain ⟨a, b⟩ := CkR_i (s := s) hd k (by omega) h
    have u : CkR lh s (k + 1) h = if h = lh k then (if bitT s k = 1 then 1 else 0) else CkR lh s k h := rfl
    rw [u]
    refine ⟨fun q => ?_, fun j hj e => ?_⟩
    · rw [if_neg (fun e => q k (by omega) e.symm)]
      exact a (fun j hj => q j (by omega))
    · by_cases c : j = k
      · rw [c] at e ⊢
        rw [if_pos e.symm]
      · rw [if_neg (fun w => by
          have := hd j k (by omega) (by omega) (by omega) (by omega) (e.trans w)
          omega)]
        exact b j (by omega) e
theorem CkR_C {z : ZI} (hX : JX z) (s h : Int) : CkR (z 116) s (z 68 70).toNat h = Cl z s h := by
  obtain ⟨-, e1, e2, e3, e4, -⟩ := hX
  obtain ⟨a, b⟩ := CkR_i (lh := z 116) (s := s) (N := (z 68 70).toNat) (fun i j i0 i1 j0 j1 e => e4 i j i0 (by omega) j0 (by omega) e) (z 68 70).toNat (Nat.le_refl _) h
  have r := srch_r (z 116) h (z 68 70).toNat 0 (Int.le_refl _)
  unfold Cl
  rcases r with r | ⟨r1, r2, r3⟩
  · rw [a (fun j hj => srch_no (z 116) h (z 68 70).toNat 0 (Int.le_refl _) r j (by omega) (by omega)), if_neg (fun t => t.1 r)]
  · have ej : (((srch (z 116) h (z 68 70).toNat 0).toNat : Nat) : Int) = srch (z 116) h (z 68 70).toNat 0 := by omega
    have := b (srch (z 116) h (z 68 70).toNat 0).toNat (by omega) (by rw [ej]; exact r3)
    rw [this, ej]
    by_cases q : bitT s (srch (z 116) h (z 68 70).toNat 0) = 1
    · rw [if_pos q, if_pos ⟨by omega, q⟩]
    · rw [if_neg q, if_neg (fun t => q t.2)]
def HkR (hc : Int → Int) (C : Int → Int) : Nat → Int → Int
  | 0 => fun _ => -9
  | k + 1 => fun c => if c = hc k then (if C k = 0 then (k : Int) else -9) else HkR hc C k c
theorem HkR_i {hc C : Int → Int} {N : Nat} (hd : ∀ i j : Int, 0 ≤ i → i < N → 0 ≤ j → j < N → hc i = hc j → i = j) : ∀ k : Nat, k ≤ N → ∀ c : Int, ((∀ j : Nat, j < k → hc j ≠ c) → HkR hc C k c = -9) ∧ (∀ j : Nat, j < k → hc j = c → HkR hc C k c = if C j = 0 then (j : Int) else -9)
  | 0, _, h => ⟨fun _ => rfl, fun j hj => by omega⟩
  | k + 1, hk, c => by
    obtain ⟨a, b⟩ := HkR_i (C := C) hd k (by omega) c
    have u : HkR hc C (k + 1) c = if c = hc k then (if C k = 0 then (k : Int) else -9) else HkR hc C k c := rfl
    rw [u]
    refine ⟨fun q => ?_, fun j hj e => ?_⟩
    · rw [if_neg (fun e => q k (by omega) e.symm)]
      exact a (fun j hj => q j (by omega))
    · by_cases w : j = k
      · rw [w] at e ⊢
        rw [if_pos e.symm]
      · rw [if_neg (fun t => by
          have := hd j k (by omega) (by omega) (by omega) (by omega) (e.trans t)
          omega)]
        exact b j (by omega) e
theorem HkR_H {z : ZI} (hH : JH z) (s c : Int) : HkR (z 71) (Cl z s) (z 68 12).toNat c = chS z s c := by
  obtain ⟨e1, e2, -, -, e4, -⟩ := hH
  obtain ⟨a, b⟩ := HkR_i (hc := z 71) (C := Cl z s) (N := (z 68 12).toNat) (fun i j i0 i1 j0 j1 e => e4 i j i0 (by omega) j0 (by omega) e) (z 68 12).toNat (Nat.le_refl _) c
  have r := srch_r (z 71) c (z 68 12).toNat 0 (Int.le_refl _)
  unfold chS
  rcases r with r | ⟨r1, r2, r3⟩
  · rw [a (fun j hj => srch_no (z 71) c (z 68 12).toNat 0 (Int.le_refl _) r j (by omega) (by omega)), if_pos r]
  · have ej : (((srch (z 71) c (z 68 12).toNat 0).toNat : Nat) : Int) = srch (z 71) c (z 68 12).toNat 0 := by omega
    have := b (srch (z 71) c (z 68 12).toNat 0).toNat (by omega) (by rw [ej]; exact r3)
    rw [this, ej, if_neg (show ¬ srch (z 71) c (z 68 12).toNat 0 = -9 by omega)]
theorem m_c0_L {z : ZI} {s : Int} (hH : JH z) : ∀ (n k fu : Nat) (G : Int → Int), k + n = (z 68 12).toNat → n < fu → (∀ h : Int, 0 ≤ h → h < k → G h = 0) → ∃ G2, X11_clears_L2 fu (Zro z 121 G) s k = X11_clears_b23 (Zro z 121 G2) s ∧ (∀ h : Int, 0 ≤ h → h < z 68 12 → G2 h = 0) := by
  have h0 := hH.1
  have h30 := hH.2.1
  intro n
  induction n with
  | zero =>
    intro k fu G hk hf h
    obtain ⟨fu, rfl⟩ : ∃ g, fu = g + 1 := ⟨fu - 1, by omega⟩
    refine ⟨G, ?_, fun x x0 x1 => h x x0 (by omega)⟩
    show X11_clears_L2b (X11_clears_L2 fu) _ _ _ = _
    unfold X11_clears_L2b
    rw [Zro_k (by decide), if_pos (by omega)]
  | succ n ih =>
    intro k fu G hk hf h
    obtain ⟨fu, rfl⟩ : ∃ g, fu = g + 1 := ⟨fu - 1, by omega⟩
    have e0 : X11_clears_L2 (fu + 1) (Zro z 121 G) s k = X11_clears_L2b (X11_clears_L2 fu) (Zro z 121 G) s k := rfl
    rw [e0]
    unfold X11_clears_L2b
    rw [Zro_k (k := 68) (by decide), if_neg (by omega), Zgd_t (by omega), Zl_eq, Zro_u, Zgd_t (by omega), show (k : Int) + 1 = ((k + 1 : Nat) : Int) by omega]
    refine ih (k + 1) fu _ (by omega) (by omega) (fun c c0 c1 => ?_)
    unfold fupd
    by_cases q : c = k
    · rw [if_pos q]
    · rw [if_neg q]; exact h c c0 (by omega)
theorem m_c1_L {z : ZI} {s : Int} (hH : JH z) (hX : JX z) : ∀ (n k fu : Nat) (G : Int → Int), k + n = (z 68 70).toNat → n < fu → (∀ h : Int, 0 ≤ h → h < z 68 12 → G h = CkR (z 116) s k h) → ∃ G2, X11_clears_L25 fu (Zro z 121 G) s k = X11_clears_b64 (Zro z 121 G2) ∧ (∀ h : Int, 0 ≤ h → h < z 68 12 → G2 h = CkR (z 116) s (z 68 70).toNat h) := by
  obtain ⟨-, x1, x2, x3, -⟩ := hX
  have h30 := hH.2.1
  intro n
  induction n with
  | zero =>
    intro k fu G hk hf h
    obtain ⟨fu, rfl⟩ : ∃ g, fu = g + 1 := ⟨fu - 1, by omega⟩
    obtain rfl : k = (z 68 70).toNat := by omega
    refine ⟨G, ?_, h⟩
    show X11_clears_L25b (X11_clears_L25 fu) _ _ _ = _
    unfold X11_clears_L25b
    rw [Zro_k (by decide), if_pos (by omega)]
  | succ n ih =>
    intro k fu G hk hf h
    obtain ⟨fu, rfl⟩ : ∃ g, fu = g + 1 := ⟨fu - 1, by omega⟩
    have lk := x3 k (by omega) (by omega)
    have e0 : X11_clears_L25 (fu + 1) (Zro z 121 G) s k = X11_clears_L25b (X11_clears_L25 fu) (Zro z 121 G) s k := rfl
    have st : ∀ v : Int, (v = 0 ∨ v = 1) → (v = if bitT s k = 1 then 1 else 0) → ∃ G2, X11_clears_b57 (X11_clears_L25 fu) (Zro z 121 G) s k (z 116 k) v = X11_clears_b64 (Zro z 121 G2) ∧ (∀ h : Int, 0 ≤ h → h < z 68 12 → G2 h = CkR (z 116) s (z 68 70).toNat h) := by
      intro v v0 v1
      unfold X11_clears_b57
      rw [Zgd_t v0, Zgd_t (by omega), Zl_eq, Zro_u, Zgd_t (by omega), show (k : Int) + 1 = ((k + 1 : Nat) : Int) by omega]
      refine ih (k + 1) fu _ (by omega) (by omega) (fun x x0 x1 => ?_)
      have u : CkR (z 116) s (k + 1) x = if x = z 116 k then (if bitT s k = 1 then 1 else 0) else CkR (z 116) s k x := rfl
      rw [u]
      unfold fupd
      by_cases q : x = z 116 k
      · rw [if_pos q, if_pos q, v1]
      · rw [if_neg q, if_neg q]
        exact h x x0 x1
    rw [e0]
    unfold X11_clears_L25b
    rw [Zro_k (k := 68) (by decide), if_neg (by omega), Zgd_t (by omega), Zro_k (k := 116) (by decide)]
    by_cases t : jand (jshr s k) 1 = 1
    · rw [if_pos t]
      exact st 1 (Or.inr rfl) (if_pos t).symm
    · rw [if_neg t]
      exact st 0 (Or.inl rfl) (if_neg t).symm
theorem m_c2_L {z : ZI} : ∀ (n k fu : Nat) (H : Int → Int), k + n = 144 → n < fu → (∀ c : Int, 0 ≤ c → c < k → H c = -9) → ∃ H2, X11_clears_L66 fu (Zro z 118 H) k = X11_clears_b87 (Zro z 118 H2) ∧ (∀ c : Int, 0 ≤ c → c < 144 → H2 c = -9) := by
  intro n
  induction n with
  | zero =>
    intro k fu H hk hf h
    obtain ⟨fu, rfl⟩ : ∃ g, fu = g + 1 := ⟨fu - 1, by omega⟩
    obtain rfl : k = 144 := by omega
    refine ⟨H, ?_, h⟩
    show X11_clears_L66b (X11_clears_L66 fu) _ _ = _
    unfold X11_clears_L66b
    rw [if_pos (by decide)]
  | succ n ih =>
    intro k fu H hk hf h
    obtain ⟨fu, rfl⟩ : ∃ g, fu = g + 1 := ⟨fu - 1, by omega⟩
    have e0 : X11_clears_L66 (fu + 1) (Zro z 118 H) k = X11_clears_L66b (X11_clears_L66 fu) (Zro z 118 H) k := rfl
    rw [e0]
    unfold X11_clears_L66b
    rw [if_neg (by omega), Zgd_t (by omega), Zl_eq, Zro_u, Zgd_t (by omega), show (k : Int) + 1 = ((k + 1 : Nat) : Int) by omega]
    refine ih (k + 1) fu _ (by omega) (by omega) (fun c c0 c1 => ?_)
    unfold fupd
    by_cases q : c = k
    · rw [if_pos q]
    · rw [if_neg q]; exact h c c0 (by omega)
theorem m_c3_L {z : ZI} {C : Int → Int} (hH : JH z) (hC : ∀ h : Int, 0 ≤ h → h < z 68 12 → z 121 h = C h) : ∀ (n k fu : Nat) (H : Int → Int), k + n = (z 68 12).toNat → n < fu → (∀ c : Int, 0 ≤ c → c < 144 → H c = HkR (z 71) C k c) → ∃ H2, X11_clears_L89 fu (Zro z 118 H) k = some ((), Zro z 118 H2) ∧ (∀ c : Int, 0 ≤ c → c < 144 → H2 c = HkR (z 71) C (z 68 12).toNat c) := by
  have h0 := hH.1
  have h30 := hH.2.1
  intro n
  induction n with
  | zero =>
    intro k fu H hk hf h
    obtain ⟨fu, rfl⟩ : ∃ g, fu = g + 1 := ⟨fu - 1, by omega⟩
    obtain rfl : k = (z 68 12).toNat := by omega
    refine ⟨H, ?_, h⟩
    show X11_clears_L89b (X11_clears_L89 fu) _ _ = _
    unfold X11_clears_L89b
    rw [Zro_k (by decide), if_pos (by omega)]
  | succ n ih =>
    intro k fu H hk hf h
    obtain ⟨fu, rfl⟩ : ∃ g, fu = g + 1 := ⟨fu - 1, by omega⟩
    have lk := hH.2.2.2.1 k (by omega) (by omega)
    have e0 : X11_clears_L89 (fu + 1) (Zro z 118 H) k = X11_clears_L89b (X11_clears_L89 fu) (Zro z 118 H) k := rfl
    have st : ∀ v : Int, (v = if C k = 0 then (k : Int) else -9) → ∃ H2, X11_clears_b122 (X11_clears_L89 fu) (Zro z 118 H) k (z 71 k) v = some ((), Zro z 118 H2) ∧ (∀ c : Int, 0 ≤ c → c < 144 → H2 c = HkR (z 71) C (z 68 12).toNat c) := by
      intro v v1
      unfold X11_clears_b122
      rw [Zgd_t (by omega), Zl_eq, Zro_u, Zgd_t (by omega), show (k : Int) + 1 = ((k + 1 : Nat) : Int) by omega]
      refine ih (k + 1) fu _ (by omega) (by omega) (fun x x0 x1 => ?_)
      have u : HkR (z 71) C (k + 1) x = if x = z 71 k then (if C k = 0 then (k : Int) else -9) else HkR (z 71) C k x := rfl
      rw [u]
      unfold fupd
      by_cases q : x = z 71 k
      · rw [if_pos q, if_pos q, v1]
      · rw [if_neg q, if_neg q]
        exact h x x0 x1
    rw [e0]
    unfold X11_clears_L89b
    rw [Zro_k (k := 68) (by decide), if_neg (by omega), Zgd_t (by omega), Zgd_t (by omega), Zro_k (k := 121) (by decide), hC k (by omega) (by omega), Zro_k (k := 71) (by decide)]
    by_cases t : C k = 0
    · rw [if_pos t]
      exact st k (if_pos t).symm
    · rw [if_neg t]
      exact st (-9) (if_neg t).symm
/-- frame: what fire may change -/
def Zfq (z : ZI) (A B C D E : Int → Int) : ZI := fun k i => if k = 117 then A i else if k = 118 then B i else if k = 119 then C i else if k = 120 then D i else if k = 121 then E i else z k i
def FrQ (z z2 : ZI) : Prop := ∀ k, k ≠ 117 → k ≠ 118 → k ≠ 119 → k ≠ 120 → k ≠ 121 → z2 k = z k
theorem FrQ.eq {z z2 : ZI} (h : FrQ z z2) : z2 = Zfq z (z2 117) (z2 118) (z2 119) (z2 120) (z2 121) := by
  funext k i
  unfold Zfq
  by_cases h1 : k = 117
  · rw [if_pos h1, h1]
  · rw [if_neg h1]
    by_cases h2 : k = 118
    · rw [if_pos h2, h2]
    · rw [if_neg h2]
      by_cases h3 : k = 119
      · rw [if_pos h3, h3]
      · rw [if_neg h3]
        by_cases h4 : k = 120
        · rw [if_pos h4, h4]
        · rw [if_neg h4]
          by_cases h5 : k = 121
          · rw [if_pos h5, h5]
          · rw [if_neg h5, h k h1 h2 h3 h4 h5]
theorem FrQ.rf (z : ZI) : FrQ z z := fun _ _ _ _ _ _ => rfl
theorem FrQ.tr {z z2 z3 : ZI} (h : FrQ z z2) (g : FrQ z2 z3) : FrQ z z3 := fun k a b c d e => (g k a b c d e).trans (h k a b c d e)
theorem FrQ_r {z : ZI} {k : Nat} {f : Int → Int} (hk : k = 117 ∨ k = 118 ∨ k = 119 ∨ k = 120 ∨ k = 121) : FrQ z (Zro z k f) := fun k' a b c d e => Zro_k (by omega)
theorem K_fq {z : ZI} {A B C D E : Int → Int} (h : K z) : K (Zfq z A B C D E) := by
  obtain ⟨hD, hH, hP, hS, hL, hT, hE, hV, hA, hU, hC, hK, hW, hB, hG, hX, hQ, hO⟩ := h
  exact ⟨(JD_c rfl rfl hD), (JH_c rfl rfl rfl rfl rfl rfl rfl hH), (JP_c rfl rfl rfl rfl rfl rfl rfl rfl rfl rfl rfl rfl hP), (JS_c rfl rfl rfl rfl rfl rfl rfl rfl rfl rfl rfl hS), (JL_c rfl rfl hL), (JT_c rfl rfl rfl rfl rfl hT), (JE_c rfl rfl rfl rfl hE), (JV_c rfl rfl rfl rfl hV), (JA_c rfl rfl rfl rfl hA), (JU_c rfl rfl rfl rfl rfl rfl rfl rfl rfl rfl hU), (JC_c rfl rfl rfl rfl rfl rfl rfl rfl rfl rfl hC), (JK_c rfl rfl rfl rfl rfl rfl rfl rfl rfl hK), (JW_c rfl rfl rfl rfl rfl rfl rfl rfl rfl rfl hW), (JB_c rfl rfl rfl rfl rfl rfl rfl rfl rfl rfl rfl rfl rfl rfl rfl rfl rfl rfl rfl rfl hB), (JG_c rfl rfl rfl rfl rfl hG), (JX_c rfl rfl rfl rfl rfl hX), (JQ_c rfl rfl rfl rfl rfl hQ), (JO_c rfl rfl rfl rfl rfl rfl rfl rfl rfl rfl rfl hO)⟩
theorem FrQ_K {z z2 : ZI} (h : FrQ z z2) (hK : K z) : K z2 := by
  rw [h.eq]
  exact K_fq hK
theorem JN_fq {n : Int} {z z2 : ZI} (h : JN n z) (f : FrQ z z2) : JN n z2 := by
  intro i a b
  rw [f 1 (by decide) (by decide) (by decide) (by decide) (by decide), f 69 (by decide) (by decide) (by decide) (by decide) (by decide)]
  exact h i a b
theorem m_clears {z : ZI} (hH : JH z) (hX : JX z) (s : Int) : ∃ y, F_X11_clears z s = some ((), y) ∧ FrQ z y ∧ (∀ h : Int, 0 ≤ h → h < z 68 12 → y 121 h = Cl z s h) ∧ (∀ c : Int, 0 ≤ c → c < 144 → y 118 c = chS z s c) := by
  obtain ⟨G1, a1, a2⟩ := m_c0_L (s := s) hH (z 68 12).toNat 0 Zfuel (z 121) (by omega) (by have := hH.2.1; unfold Zfuel; omega) (fun c c0 c1 => by omega)
  have a1 : X11_clears_L2 Zfuel (Zro z 121 (z 121)) s 0 = X11_clears_b23 (Zro z 121 G1) s := a1
  rw [Zro_z] at a1
  obtain ⟨G2, b1, b2⟩ := m_c1_L (s := s) hH hX (z 68 70).toNat 0 Zfuel G1 (by omega) (by have := hX.2.2.1; unfold Zfuel; omega) a2
  have b1 : X11_clears_b23 (Zro z 121 G1) s = X11_clears_b64 (Zro z 121 G2) := b1
  obtain ⟨H1, d1, d2⟩ := m_c2_L (z := Zro z 121 G2) 144 0 Zfuel (z 118) (by decide) (by unfold Zfuel; omega) (fun c c0 c1 => by omega)
  have e118 : Zro (Zro z 121 G2) 118 (z 118) = Zro z 121 G2 := Zro_z (Zro z 121 G2) 118
  rw [e118] at d1
  have d1 : X11_clears_b64 (Zro z 121 G2) = X11_clears_b87 (Zro (Zro z 121 G2) 118 H1) := d1
  have hH2 : JH (Zro z 121 G2) := (JH_c rfl rfl rfl rfl rfl rfl rfl hH)
  obtain ⟨H2, g1, g2⟩ := m_c3_L (z := Zro z 121 G2) (C := Cl z s) hH2 (fun h h0 h1 => by
    rw [Zro_s, b2 h h0 h1]
    exact CkR_C hX s h) (z 68 12).toNat 0 Zfuel H1 (Nat.zero_add _) (by have := hH.2.1; unfold Zfuel; omega) d2
  have g1 : X11_clears_b87 (Zro (Zro z 121 G2) 118 H1) = some ((), Zro (Zro z 121 G2) 118 H2) := g1
  refine ⟨Zro (Zro z 121 G2) 118 H2, ?_, (FrQ_r (by decide)).tr (FrQ_r (by decide)), fun h h0 h1 => ?_, fun c c0 c1 => ?_⟩
  · unfold F_X11_clears
    rw [a1, b1, d1, g1]
  · show G2 h = _
    rw [b2 h h0 h1]
    exact CkR_C hX s h
  · rw [Zro_s, g2 c c0 c1]
    exact HkR_H hH s c
theorem m_beside {z y : ZI} {s h d : Int} (hH : JH z) (hh : 0 ≤ h ∧ h < z 68 12) (e71 : y 71 = z 71) (e118 : ∀ c : Int, 0 ≤ c → c < 144 → y 118 c = chS z s c) : F_X11_beside y h d = some (nxF z s h d, y) := by
  have q := hH.2.2.2.1 h hh.1 hh.2
  have h30 := hH.2.1
  have q2 : 0 ≤ z 71 h ∧ z 71 h < 144 := ⟨q.2.1, q.2.2.1⟩
  have tm : (z 71 h).tmod 12 = z 71 h % 12 := Int.tmod_eq_emod_of_nonneg q2.1
  unfold F_X11_beside X11_beside_b33 X11_beside_b60 X11_beside_b86 X11_beside_b107 nxF besS
  rw [Zgd_t (by omega), e71, tm]
  by_cases d0 : d = 0
  · rw [if_pos d0, if_pos d0]
    by_cases c : 11 ≤ z 71 h % 12
    · rw [if_pos c, if_pos c, if_pos rfl]
    · rw [if_neg c, if_neg c, Zgd_t (by omega), Zgd_t (by omega), e118 _ (by omega) (by omega), if_neg (by omega)]
  rw [if_neg d0, if_neg d0]
  by_cases d1 : d = 1
  · rw [if_pos d1, if_pos d1]
    by_cases c : 132 ≤ z 71 h
    · rw [if_pos c, if_pos (by omega)]
    · rw [if_neg c, if_neg (by omega), Zgd_t (by omega), Zgd_t (by omega), e118 _ (by omega) (by omega), if_neg (by omega)]
  rw [if_neg d1, if_neg d1]
  by_cases d2 : d = 2
  · rw [if_pos d2, if_pos d2]
    by_cases c : z 71 h % 12 ≤ 0
    · rw [if_pos c, if_pos c, if_pos rfl]
    · rw [if_neg c, if_neg c, Zgd_t (by omega), Zgd_t (by omega), e118 _ (by omega) (by omega), if_neg (by omega)]
  rw [if_neg d2, if_neg d2]
  by_cases c : z 71 h < 12
  · rw [if_pos c, if_pos (by omega)]
  · rw [if_neg c, if_neg (by omega), Zgd_t (by omega), Zgd_t (by omega), e118 _ (by omega) (by omega), if_neg (by omega)]
