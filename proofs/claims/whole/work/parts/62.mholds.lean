/-! fire: the reference finds what burns together -/
section
variable {z y : ZI} {s : Int} {n : Nat}
theorem m_lside_L (hH : JH z) (hn : z 68 12 = n) (e71 : y 71 = z 71) (e118 : ∀ c : Int, 0 ≤ c → c < 144 → y 118 c = chS z s c) (e121 : ∀ h : Int, 0 ≤ h → h < n → y 121 h = Cl z s h) {u : Int} (hu : 0 ≤ u ∧ u < n) {P0 : (Int → Int) × Int} {most : Int} {k30 : ZI → Int → Int → Option (Int × ZI)} {k39 : ZI → Int → Int → Int → Option (Int × ZI)} : ∀ (m k fu : Nat) (c : Int → Int), k + m = 4 → m < fu → eqR n c (sidR (nxC z s) (fun _ => 0) u k P0).1 → ∃ c2, X11_holdsFire_L51 k30 k39 fu (Zro y 119 c) most (sidR (nxC z s) (fun _ => 0) u k P0).2 u k = X11_holdsFire_b124 k30 k39 (Zro y 119 c2) most (sidR (nxC z s) (fun _ => 0) u 4 P0).2 u ∧ eqR n c2 (sidR (nxC z s) (fun _ => 0) u 4 P0).1 := by
  have h30 := hH.2.1
  intro m
  induction m with
  | zero =>
    intro k fu c hk hf he
    obtain ⟨fu, rfl⟩ : ∃ g, fu = g + 1 := ⟨fu - 1, by omega⟩
    obtain rfl : k = 4 := by omega
    refine ⟨c, ?_, he⟩
    show X11_holdsFire_L51b k30 k39 (X11_holdsFire_L51 k30 k39 fu) _ _ _ _ _ = _
    unfold X11_holdsFire_L51b
    rw [if_pos (by decide)]
  | succ m ih =>
    intro k fu c hk hf he
    obtain ⟨fu, rfl⟩ : ∃ g, fu = g + 1 := ⟨fu - 1, by omega⟩
    have e1 : sidR (nxC z s) (fun _ => 0) u (k + 1) P0 = rlx (nxC z s) (fun _ => 0) u k (sidR (nxC z s) (fun _ => 0) u k P0) := rfl
    have e0 : X11_holdsFire_L51 k30 k39 (fu + 1) (Zro y 119 c) most (sidR (nxC z s) (fun _ => 0) u k P0).2 u k = X11_holdsFire_L51b k30 k39 (X11_holdsFire_L51 k30 k39 fu) (Zro y 119 c) most (sidR (nxC z s) (fun _ => 0) u k P0).2 u k := rfl
    rw [e0]
    unfold X11_holdsFire_L51b
    rw [if_neg (by omega), Zgd_t (by omega), Zro_k (k := 121) (by decide), e121 u hu.1 hu.2]
    by_cases cu : Cl z s u = 0
    · have i := ih (k + 1) fu
      rw [e1] at i
      generalize sidR (nxC z s) (fun _ => 0) u k P0 = P at *
      have eu := he u hu.1 hu.2
      have b118 : ∀ (c' : Int → Int) (f : Int), X11_holdsFire_b118 k30 k39 (X11_holdsFire_L51 k30 k39 fu) (Zro y 119 c') most f u k = X11_holdsFire_L51 k30 k39 fu (Zro y 119 c') most f u ((k + 1 : Nat) : Int) := by
        intro c' f
        unfold X11_holdsFire_b118
        rw [Zgd_t (by omega), show (k : Int) + 1 = ((k + 1 : Nat) : Int) by omega]
      have en := m_beside (z := z) (y := Zro y 119 c) (s := s) (h := u) (d := k) hH (by omega) e71 e118
      have nc : nxC z s u k = nxF z s u k := if_pos cu
      have xr := nxC_b hH s u k
      rw [← nc] at en
      rw [if_pos cu, en, Yb_some]
      by_cases q : nxC z s u k < 0
      · have er : rlx (nxC z s) (fun _ => 0) u k P = P := if_neg (fun t => by omega)
        rw [er] at i
        rw [if_pos q, b118]
        exact i c (by omega) (by omega) he
      · have ev := he (nxC z s u k) (by omega) (by omega)
        rw [if_neg q, Zgd_t (by omega), Zgd_t (by omega), Zro_s, eu, ev]
        by_cases t : P.1 u < P.1 (nxC z s u k)
        · have er : rlx (nxC z s) (fun _ => 0) u k P = (fupd P.1 (nxC z s u k) (P.1 u + 0), 1) := if_pos ⟨by omega, by rw [Int.add_zero]; exact t⟩
          rw [er] at i
          rw [if_pos t, Zgd_t (by omega), Zgd_t (by omega), Zl_eq, Zro_u, b118]
          refine i _ (by omega) (by omega) (fun v v0 v1 => ?_)
          show fupd c (nxC z s u k) (P.1 u) v = fupd P.1 (nxC z s u k) (P.1 u + 0) v
          unfold fupd
          by_cases e : v = nxC z s u k
          · rw [if_pos e, if_pos e, Int.add_zero]
          · rw [if_neg e, if_neg e]
            exact he v v0 v1
        · have er : rlx (nxC z s) (fun _ => 0) u k P = P := if_neg (fun w => t (by have w2 : P.1 u + 0 < P.1 (nxC z s u k) := w.2; omega))
          rw [er] at i
          rw [if_neg t, b118]
          exact i c (by omega) (by omega) he
    · have id : ∀ (d : Nat) (p : (Int → Int) × Int), sidR (nxC z s) (fun _ => 0) u d p = p := by
        intro d p
        induction d with
        | zero => rfl
        | succ d ihd =>
          have e : sidR (nxC z s) (fun _ => 0) u (d + 1) p = rlx (nxC z s) (fun _ => 0) u d (sidR (nxC z s) (fun _ => 0) u d p) := rfl
          have nc : nxC z s u d = -9 := if_neg cu
          rw [e, ihd]
          exact if_neg (fun t => by omega)
      rw [if_neg cu, id, id]
      rw [id] at he
      exact ⟨c, rfl, he⟩
theorem m_lround_L (hH : JH z) (hn : z 68 12 = n) (e71 : y 71 = z 71) (e68 : y 68 12 = n) (e118 : ∀ c : Int, 0 ≤ c → c < 144 → y 118 c = chS z s c) (e121 : ∀ h : Int, 0 ≤ h → h < n → y 121 h = Cl z s h) {L : Int → Int} {most : Int} {k30 : ZI → Int → Int → Option (Int × ZI)} : ∀ (m k fu : Nat) (c : Int → Int), k + m = n → m < fu → eqR n c (rndR (nxC z s) (fun _ => 0) k (L, 0)).1 → ∃ c2, X11_holdsFire_L39 k30 fu (Zro y 119 c) most (rndR (nxC z s) (fun _ => 0) k (L, 0)).2 k = k30 (Zro y 119 c2) most (rndR (nxC z s) (fun _ => 0) n (L, 0)).2 ∧ eqR n c2 (rndR (nxC z s) (fun _ => 0) n (L, 0)).1 := by
  have h30 := hH.2.1
  intro m
  induction m with
  | zero =>
    intro k fu c hk hf he
    obtain ⟨fu, rfl⟩ : ∃ g, fu = g + 1 := ⟨fu - 1, by omega⟩
    obtain rfl : k = n := by omega
    refine ⟨c, ?_, he⟩
    show X11_holdsFire_L39b k30 (X11_holdsFire_L39 k30 fu) _ _ _ _ = _
    unfold X11_holdsFire_L39b
    rw [Zro_k (k := 68) (by decide), if_pos (by omega)]
    rfl
  | succ m ih =>
    intro k fu c hk hf he
    obtain ⟨fu, rfl⟩ : ∃ g, fu = g + 1 := ⟨fu - 1, by omega⟩
    have e1 : rndR (nxC z s) (fun _ => 0) (k + 1) (L, 0) = sidR (nxC z s) (fun _ => 0) k 4 (rndR (nxC z s) (fun _ => 0) k (L, 0)) := rfl
    have i := ih (k + 1) fu
    rw [e1] at i
    generalize rndR (nxC z s) (fun _ => 0) k (L, 0) = P at *
    obtain ⟨c2, a1, a2⟩ := m_lside_L (k30 := k30) (k39 := X11_holdsFire_L39 k30 fu) (most := most) (s := s) hH hn e71 e118 e121 (u := (k : Int)) (by omega) 4 0 Zfuel c (by decide) (by unfold Zfuel; omega) he
    have a1 : X11_holdsFire_L51 k30 (X11_holdsFire_L39 k30 fu) Zfuel (Zro y 119 c) most P.2 k 0 = X11_holdsFire_b124 k30 (X11_holdsFire_L39 k30 fu) (Zro y 119 c2) most (sidR (nxC z s) (fun _ => 0) k 4 P).2 k := a1
    have e0 : X11_holdsFire_L39 k30 (fu + 1) (Zro y 119 c) most P.2 k = X11_holdsFire_L39b k30 (X11_holdsFire_L39 k30 fu) (Zro y 119 c) most P.2 k := rfl
    rw [e0]
    unfold X11_holdsFire_L39b
    rw [Zro_k (k := 68) (by decide), if_neg (by omega), a1]
    unfold X11_holdsFire_b124
    rw [Zgd_t (by omega), show (k : Int) + 1 = ((k + 1 : Nat) : Int) by omega]
    exact i c2 (by omega) (by omega) a2
theorem m_lrounds_L (hH : JH z) (hn : z 68 12 = n) (e71 : y 71 = z 71) (e68 : y 68 12 = n) (e118 : ∀ c : Int, 0 ≤ c → c < 144 → y 118 c = chS z s c) (e121 : ∀ h : Int, 0 ≤ h → h < n → y 121 h = Cl z s h) {most : Int} {R : Nat} (hR : R ≤ 900) (hend : (rndR (nxC z s) (fun _ => 0) n (LR (nxC z s) (fun _ => 0) n (fun v => v) R, 0)).2 = 0) : ∀ (m r fu : Nat) (c : Int → Int) (f : Int), r + m = R + 1 → m < fu → (r = R + 1 → f = 0) → (f = 0 → ∀ k, LR (nxC z s) (fun _ => 0) n (fun v => v) (r + k) = LR (nxC z s) (fun _ => 0) n (fun v => v) r) → eqR n c (LR (nxC z s) (fun _ => 0) n (fun v => v) r) → ∃ c2, X11_holdsFire_L30 fu (Zro y 119 c) most f = X11_holdsFire_b133 (Zro y 119 c2) most ∧ eqR n c2 (LR (nxC z s) (fun _ => 0) n (fun v => v) 1000) := by
  have h30 := hH.2.1
  have hx : ∀ u d : Int, 0 ≤ u → u < n → 0 ≤ d → d < 4 → nxC z s u d = -9 ∨ (0 ≤ nxC z s u d ∧ nxC z s u d < n) := fun u d _ _ _ _ => by
    have := nxC_b hH s u d
    omega
  have done : ∀ (r fu : Nat) (c : Int → Int), r ≤ R + 1 → (∀ k, LR (nxC z s) (fun _ => 0) n (fun v => v) (r + k) = LR (nxC z s) (fun _ => 0) n (fun v => v) r) → eqR n c (LR (nxC z s) (fun _ => 0) n (fun v => v) r) → ∃ c2, X11_holdsFire_L30 (fu + 1) (Zro y 119 c) most 0 = X11_holdsFire_b133 (Zro y 119 c2) most ∧ eqR n c2 (LR (nxC z s) (fun _ => 0) n (fun v => v) 1000) := by
    intro r fu c hr h1 he
    refine ⟨c, ?_, ?_⟩
    · show X11_holdsFire_L30b (X11_holdsFire_L30 fu) _ _ _ = _
      unfold X11_holdsFire_L30b
      rw [if_pos rfl]
    · have e := h1 (1000 - r)
      rw [show r + (1000 - r) = 1000 by omega] at e
      rw [e]
      exact he
  intro m
  induction m with
  | zero =>
    intro r fu c f hk hf hz hs he
    obtain ⟨fu, rfl⟩ : ∃ g, fu = g + 1 := ⟨fu - 1, by omega⟩
    have f0 := hz (by omega)
    rw [f0] at hs ⊢
    exact done r fu c (by omega) (hs rfl) he
  | succ m ih =>
    intro r fu c f hk hf hz hs he
    obtain ⟨fu, rfl⟩ : ∃ g, fu = g + 1 := ⟨fu - 1, by omega⟩
    by_cases q : f = 0
    · rw [q] at hs ⊢
      exact done r fu c (by omega) (hs rfl) he
    · have e0 : X11_holdsFire_L30 (fu + 1) (Zro y 119 c) most f = X11_holdsFire_L30b (X11_holdsFire_L30 fu) (Zro y 119 c) most f := rfl
      rw [e0]
      unfold X11_holdsFire_L30b
      rw [if_neg q]
      obtain ⟨c2, a1, a2⟩ := m_lround_L (s := s) (most := most) (k30 := X11_holdsFire_L30 fu) (L := LR (nxC z s) (fun _ => 0) n (fun v => v) r) hH hn e71 e68 e118 e121 n 0 Zfuel c (by omega) (by unfold Zfuel; omega) he
      have a1 : X11_holdsFire_L39 (X11_holdsFire_L30 fu) Zfuel (Zro y 119 c) most 0 0 = _ := a1
      rw [a1]
      refine ih (r + 1) fu c2 _ (by omega) (by omega) (fun e => ?_) (fun z0 k => ?_) a2
      · obtain rfl : r = R := by omega
        exact hend
      · have fx := LR_fix (wt := fun _ => 0) hx (fun v => v) (r := r) z0
        rw [show r + 1 + k = r + (1 + k) by omega, fx, fx 1]
theorem m_linit_L {most : Int} (e68 : y 68 12 = n) (h30 : n ≤ 30) : ∀ (m k fu : Nat) (c : Int → Int), k + m = n → m < fu → (∀ v : Int, 0 ≤ v → v < k → c v = v) → ∃ c2, X11_holdsFire_L7 fu (Zro y 119 c) most k = X11_holdsFire_b28 (Zro y 119 c2) most ∧ eqR n c2 (fun v => v) := by
  intro m
  induction m with
  | zero =>
    intro k fu c hk hf h
    obtain ⟨fu, rfl⟩ : ∃ g, fu = g + 1 := ⟨fu - 1, by omega⟩
    obtain rfl : k = n := by omega
    refine ⟨c, ?_, h⟩
    show X11_holdsFire_L7b (X11_holdsFire_L7 fu) _ _ _ = _
    unfold X11_holdsFire_L7b
    rw [Zro_k (k := 68) (by decide), if_pos (by omega)]
  | succ m ih =>
    intro k fu c hk hf h
    obtain ⟨fu, rfl⟩ : ∃ g, fu = g + 1 := ⟨fu - 1, by omega⟩
    have e0 : X11_holdsFire_L7 (fu + 1) (Zro y 119 c) most k = X11_holdsFire_L7b (X11_holdsFire_L7 fu) (Zro y 119 c) most k := rfl
    rw [e0]
    unfold X11_holdsFire_L7b
    rw [Zro_k (k := 68) (by decide), if_neg (by omega), Zgd_t (by omega), Zl_eq, Zro_u, Zgd_t (by omega), show (k : Int) + 1 = ((k + 1 : Nat) : Int) by omega]
    refine ih (k + 1) fu _ (by omega) (by omega) (fun v v0 v1 => ?_)
    unfold fupd
    by_cases e : v = k
    · rw [if_pos e, e]
    · rw [if_neg e]; exact h v v0 (by omega)
theorem m_cz_L {most : Int} (e68 : y 68 12 = n) (h30 : n ≤ 30) : ∀ (m k fu : Nat) (c : Int → Int), k + m = n → m < fu → (∀ v : Int, 0 ≤ v → v < k → c v = 0) → ∃ c2, X11_holdsFire_L136 fu (Zro y 120 c) most k = X11_holdsFire_b159 (Zro y 120 c2) most ∧ eqR n c2 (fun _ => 0) := by
  intro m
  induction m with
  | zero =>
    intro k fu c hk hf h
    obtain ⟨fu, rfl⟩ : ∃ g, fu = g + 1 := ⟨fu - 1, by omega⟩
    obtain rfl : k = n := by omega
    refine ⟨c, ?_, h⟩
    show X11_holdsFire_L136b (X11_holdsFire_L136 fu) _ _ _ = _
    unfold X11_holdsFire_L136b
    rw [Zro_k (k := 68) (by decide), if_pos (by omega)]
  | succ m ih =>
    intro k fu c hk hf h
    obtain ⟨fu, rfl⟩ : ∃ g, fu = g + 1 := ⟨fu - 1, by omega⟩
    have e0 : X11_holdsFire_L136 (fu + 1) (Zro y 120 c) most k = X11_holdsFire_L136b (X11_holdsFire_L136 fu) (Zro y 120 c) most k := rfl
    rw [e0]
    unfold X11_holdsFire_L136b
    rw [Zro_k (k := 68) (by decide), if_neg (by omega), Zgd_t (by omega), Zl_eq, Zro_u, Zgd_t (by omega), show (k : Int) + 1 = ((k + 1 : Nat) : Int) by omega]
    refine ih (k + 1) fu _ (by omega) (by omega) (fun v v0 v1 => ?_)
    unfold fupd
    by_cases e : v = k
    · rw [if_pos e]
    · rw [if_neg e]; exact h v v0 (by omega)
def ctK (P C : Int → Int) (k : Nat) (c : Int) : Int := sumR (fun v => if P v = c ∧ C v = 0 then 1 else 0) k
theorem ctK_b (P C : Int → Int) (k : Nat) (c : Int) : 0 ≤ ctK P C k c ∧ ctK P C k c ≤ k := by
  have a := sumR_nn (f := fun v : Nat => if P v = c ∧ C v = 0 then (1 : Int) else 0) k (fun j hj => by
    show (0 : Int) ≤ if P j = c ∧ C j = 0 then 1 else 0
    split <;> omega)
  have b := sumR_mono (f := fun v : Nat => if P v = c ∧ C v = 0 then (1 : Int) else 0) (g := fun _ => 1) k (fun j hj => by
    show (if P j = c ∧ C j = 0 then (1 : Int) else 0) ≤ 1
    split <;> omega)
  have d := sumR_k 1 k
  unfold ctK
  omega
theorem m_cnt_L {most : Int} {P C : Int → Int} (e68 : y 68 12 = n) (h30 : n ≤ 30) (e119 : ∀ h : Int, 0 ≤ h → h < n → y 119 h = P h) (hP : ∀ h : Int, 0 ≤ h → h < n → 0 ≤ P h ∧ P h < n) (e121 : ∀ h : Int, 0 ≤ h → h < n → y 121 h = C h) : ∀ (m k fu : Nat) (c : Int → Int), k + m = n → m < fu → eqR n c (ctK P C k) → ∃ c2, X11_holdsFire_L162 fu (Zro y 120 c) most k = X11_holdsFire_b207 (Zro y 120 c2) most ∧ eqR n c2 (ctK P C n) := by
  intro m
  induction m with
  | zero =>
    intro k fu c hk hf h
    obtain ⟨fu, rfl⟩ : ∃ g, fu = g + 1 := ⟨fu - 1, by omega⟩
    obtain rfl : k = n := by omega
    refine ⟨c, ?_, h⟩
    show X11_holdsFire_L162b (X11_holdsFire_L162 fu) _ _ _ = _
    unfold X11_holdsFire_L162b
    rw [Zro_k (k := 68) (by decide), if_pos (by omega)]
  | succ m ih =>
    intro k fu c hk hf h
    obtain ⟨fu, rfl⟩ : ∃ g, fu = g + 1 := ⟨fu - 1, by omega⟩
    have pk := hP k (by omega) (by omega)
    have cb := ctK_b P C k (P k)
    have e0 : X11_holdsFire_L162 (fu + 1) (Zro y 120 c) most k = X11_holdsFire_L162b (X11_holdsFire_L162 fu) (Zro y 120 c) most k := rfl
    have st : ∀ x : Int, (x = if C k = 0 then 1 else 0) → ∃ c2, X11_holdsFire_b199 (X11_holdsFire_L162 fu) (Zro y 120 c) most k (P k) (ctK P C k (P k)) x = X11_holdsFire_b207 (Zro y 120 c2) most ∧ eqR n c2 (ctK P C n) := by
      intro x hx
      have xb : 0 ≤ x ∧ x ≤ 1 := by rw [hx]; split <;> decide
      unfold X11_holdsFire_b199
      rw [Zgd_t (by omega), Zgd_t (by omega), Zl_eq, Zro_u, Zgd_t (by omega), show (k : Int) + 1 = ((k + 1 : Nat) : Int) by omega]
      refine ih (k + 1) fu _ (by omega) (by omega) (fun v v0 v1 => ?_)
      have u : ctK P C (k + 1) v = ctK P C k v + (if P k = v ∧ C k = 0 then 1 else 0) := rfl
      rw [u]
      unfold fupd
      by_cases e : v = P k
      · rw [if_pos e, hx, e]
        by_cases t : C k = 0
        · rw [if_pos t, if_pos ⟨rfl, t⟩]
        · rw [if_neg t, if_neg (fun w => t w.2)]
      · rw [if_neg e, if_neg (fun w => e w.1.symm), Int.add_zero]
        exact h v v0 v1
    rw [e0]
    unfold X11_holdsFire_L162b
    rw [Zro_k (k := 68) (by decide), if_neg (by omega), Zgd_t (by omega), Zro_k (k := 119) (by decide), e119 k (by omega) (by omega), Zgd_t (by omega), Zgd_t (by omega), Zro_k (k := 121) (by decide), e121 k (by omega) (by omega), Zro_s, h _ pk.1 pk.2]
    by_cases t : C k = 0
    · rw [if_pos t]
      exact st 1 (if_pos t).symm
    · rw [if_neg t]
      exact st 0 (if_neg t).symm
theorem m_every_L {most : Int} (e68 : y 68 12 = n) (h30 : n ≤ 30) : ∀ (m k fu : Nat) (t : Int), k + m = n → m < fu → (t = 0 ∨ t = 1) → (t = 1 ↔ ∀ h : Int, 0 ≤ h → h < k → y 120 h ≤ most) → ∃ t2, X11_holdsFire_L213 fu y most t k = some (t2, y) ∧ (t2 = 0 ∨ t2 = 1) ∧ (t2 = 1 ↔ ∀ h : Int, 0 ≤ h → h < n → y 120 h ≤ most) := by
  intro m
  induction m with
  | zero =>
    intro k fu t hk hf ht h
    obtain ⟨fu, rfl⟩ : ∃ g, fu = g + 1 := ⟨fu - 1, by omega⟩
    obtain rfl : k = n := by omega
    refine ⟨t, ?_, ht, h⟩
    show X11_holdsFire_L213b (X11_holdsFire_L213 fu) _ _ _ _ = _
    unfold X11_holdsFire_L213b
    rw [if_pos (by omega), Zgd_t ht]
  | succ m ih =>
    intro k fu t hk hf ht h
    obtain ⟨fu, rfl⟩ : ∃ g, fu = g + 1 := ⟨fu - 1, by omega⟩
    have e0 : X11_holdsFire_L213 (fu + 1) y most t k = X11_holdsFire_L213b (X11_holdsFire_L213 fu) y most t k := rfl
    rw [e0]
    unfold X11_holdsFire_L213b X11_holdsFire_b242 X11_holdsFire_b243
    rw [if_neg (by omega)]
    by_cases q : t = 0
    · rw [if_pos q, Zgd_t (by omega), show (k : Int) + 1 = ((k + 1 : Nat) : Int) by omega]
      refine ih (k + 1) fu 0 (by omega) (by omega) (Or.inl rfl) ⟨fun e => by omega, fun e => ?_⟩
      have := h.mpr (fun x x0 x1 => e x x0 (by omega))
      omega
    · have h1 := h.mp (by omega)
      rw [if_neg q, Zgd_t (by omega)]
      by_cases w : most < y 120 k
      · rw [if_pos w, Zgd_t (by omega), show (k : Int) + 1 = ((k + 1 : Nat) : Int) by omega]
        refine ih (k + 1) fu 0 (by omega) (by omega) (Or.inl rfl) ⟨fun e => by omega, fun e => ?_⟩
        have := e k (by omega) (by omega)
        omega
      · rw [if_neg w, Zgd_t (by omega), show (k : Int) + 1 = ((k + 1 : Nat) : Int) by omega]
        refine ih (k + 1) fu 1 (by omega) (by omega) (Or.inr rfl) ⟨fun _ x x0 x1 => ?_, fun _ => rfl⟩
        by_cases e : x = k
        · rw [e]; omega
        · exact h1 x x0 (by omega)
end
theorem m_holds {z : ZI} {s most : Int} (hH : JH z) (hX : JX z) (hm : 1 ≤ most) : ∃ y t, F_X11_holdsFire z s most = some (t, y) ∧ FrQ z y ∧ (t = 0 ∨ t = 1) ∧ (t = 1 ↔ holdS z s most) := by
  have h30 := hH.2.1
  have h0 := hH.1
  have hn : z 68 12 = ((z 68 12).toNat : Int) := by omega
  obtain ⟨y, a1, a2, a3, a4⟩ := m_clears hH hX s
  have e71 : y 71 = z 71 := a2 71 (by decide) (by decide) (by decide) (by decide) (by decide)
  have e68 : y 68 12 = ((z 68 12).toNat : Int) := by
    rw [a2 68 (by decide) (by decide) (by decide) (by decide) (by decide)]
    exact hn
  have e121 : ∀ h : Int, 0 ≤ h → h < ((z 68 12).toNat : Int) → y 121 h = Cl z s h := fun h q0 q1 => a3 h q0 (by omega)
  obtain ⟨c1, b1, b2⟩ := m_linit_L (y := y) (most := most) e68 (by omega) (z 68 12).toNat 0 Zfuel (y 119) (by omega) (by unfold Zfuel; omega) (fun v v0 v1 => by omega)
  have b1 : X11_holdsFire_L7 Zfuel (Zro y 119 (y 119)) most 0 = X11_holdsFire_b28 (Zro y 119 c1) most := b1
  rw [Zro_z] at b1
  obtain ⟨R, r1, r2⟩ := LR_ends (nxC_hx hH s) (by omega : (z 68 12).toNat ≤ 30)
  obtain ⟨c2, d1, d2⟩ := m_lrounds_L (s := s) (most := most) hH hn e71 e68 a4 e121 r1 r2 (R + 1) 0 Zfuel c1 1 (by omega) (by unfold Zfuel; omega) (fun e => by omega) (fun e => by omega) b2
  have d1 : X11_holdsFire_b28 (Zro y 119 c1) most = X11_holdsFire_b133 (Zro y 119 c2) most := d1
  have d2 : eqR (z 68 12).toNat c2 (PLs z s) := d2
  obtain ⟨c3, f1, f2⟩ := m_cz_L (y := Zro y 119 c2) (most := most) e68 (by omega) (z 68 12).toNat 0 Zfuel (y 120) (by omega) (by unfold Zfuel; omega) (fun v v0 v1 => by omega)
  have e120 : Zro (Zro y 119 c2) 120 (y 120) = Zro y 119 c2 := Zro_z (Zro y 119 c2) 120
  rw [e120] at f1
  have f1 : X11_holdsFire_b133 (Zro y 119 c2) most = X11_holdsFire_b159 (Zro (Zro y 119 c2) 120 c3) most := f1
  obtain ⟨c4, g1, g2⟩ := m_cnt_L (y := Zro y 119 c2) (P := PLs z s) (C := Cl z s) (most := most) e68 (by omega) (fun h q0 q1 => by rw [Zro_s]; exact d2 h q0 q1) (fun h q0 q1 => by
    have := PLs_r hH s q0 (by omega)
    omega) e121 (z 68 12).toNat 0 Zfuel c3 (by omega) (by unfold Zfuel; omega) f2
  have g1 : X11_holdsFire_b159 (Zro (Zro y 119 c2) 120 c3) most = X11_holdsFire_b207 (Zro (Zro y 119 c2) 120 c4) most := g1
  obtain ⟨t, i1, i2, i3⟩ := m_every_L (y := Zro (Zro y 119 c2) 120 c4) (most := most) e68 (by omega) (z 68 12).toNat 0 Zfuel 1 (by omega) (by unfold Zfuel; omega) (Or.inr rfl) ⟨fun _ h q0 q1 => by omega, fun _ => rfl⟩
  have i1 : X11_holdsFire_b207 (Zro (Zro y 119 c2) 120 c4) most = some (t, Zro (Zro y 119 c2) 120 c4) := i1
  refine ⟨Zro (Zro y 119 c2) 120 c4, t, ?_, (a2.tr (FrQ_r (by decide))).tr (FrQ_r (by decide)), i2, i3.trans ?_⟩
  · unfold F_X11_holdsFire
    rw [a1, Yb_some, b1, d1, f1, g1, i1]
  · have ec : ∀ h : Int, 0 ≤ h → h < ((z 68 12).toNat : Int) → (Zro (Zro y 119 c2) 120 c4) 120 h = cntS z s h := fun h q0 q1 => by
      rw [Zro_s]
      exact g2 h q0 q1
    constructor
    · intro hh v v0 v1 vc
      have pr := PLs_r hH s v0 v1
      have := hh (PLs z s v) pr.1 (by omega)
      rw [ec _ pr.1 (by omega)] at this
      exact this
    · intro hh c q0 q1
      rw [ec c q0 q1]
      apply Classical.byContradiction
      intro w
      have ex : ∃ j : Nat, j < (z 68 12).toNat ∧ PLs z s j = c ∧ Cl z s j = 0 := by
        apply Classical.byContradiction
        intro ne
        have : cntS z s c = 0 := by
          unfold cntS
          rw [sumR_cg (g := fun _ => 0) _ (fun j hj => if_neg (fun t => ne ⟨j, hj, t⟩))]
          exact sumR_0 _
        omega
      obtain ⟨j, j1, j2, j3⟩ := ex
      have := hh j (by omega) (by omega) j3
      rw [j2] at this
      exact w this
