/-! rain: wells that are foul, the reference -/
theorem m_path_L {y : ZI} {D G : Int → Int} {ht : Int → Int} {x3 : Int} {k30 : ZI → Int → Option (Int × ZI)} {o : Int → Prop} (hb : ∀ c : Int, 0 ≤ c → c < 144 → y 112 c = dnH ht c) (hD : ∀ c : Int, 0 ≤ c → c < 144 → y 113 c = D c) (hG : isFl ht D o G) (hh : ∀ c : Int, 0 ≤ c → c < 144 → 0 ≤ ht c ∧ ht c ≤ 99) : ∀ (m fu : Nat) (F : Int → Int) (c : Int), (c = -9 ∨ (0 ≤ c ∧ c < 144 ∧ ht c < m)) → m < fu → (∀ x : Int, 0 ≤ x → x < 144 → F x = 0 ∨ F x = 1) → (∀ x : Int, 0 ≤ x → x < 144 → F x = 1 → G x = 1) → (0 ≤ c → G c = 1) → ∃ F2, X11_foulWells_L75 k30 fu (Zro y 114 F) x3 c = X11_foulWells_b115 k30 (Zro y 114 F2) x3 ∧ (∀ x : Int, 0 ≤ x → x < 144 → F2 x = 0 ∨ F2 x = 1) ∧ (∀ x : Int, 0 ≤ x → x < 144 → F2 x = 1 → G x = 1) ∧ (∀ x : Int, 0 ≤ x → x < 144 → F x = 1 → F2 x = 1) ∧ (0 ≤ c → F2 c = 1) ∧ (∀ x : Int, 0 ≤ x → x < 144 → F2 x = 1 → F x = 1 ∨ (D x = 0 → 0 ≤ dnH ht x → F2 (dnH ht x) = 1)) := by
  have stop : ∀ (fu : Nat) (F : Int → Int), (∀ x : Int, 0 ≤ x → x < 144 → F x = 0 ∨ F x = 1) → (∀ x : Int, 0 ≤ x → x < 144 → F x = 1 → G x = 1) → ∃ F2, X11_foulWells_L75 k30 (fu + 1) (Zro y 114 F) x3 (-9) = X11_foulWells_b115 k30 (Zro y 114 F2) x3 ∧ (∀ x : Int, 0 ≤ x → x < 144 → F2 x = 0 ∨ F2 x = 1) ∧ (∀ x : Int, 0 ≤ x → x < 144 → F2 x = 1 → G x = 1) ∧ (∀ x : Int, 0 ≤ x → x < 144 → F x = 1 → F2 x = 1) ∧ (0 ≤ (-9 : Int) → F2 (-9) = 1) ∧ (∀ x : Int, 0 ≤ x → x < 144 → F2 x = 1 → F x = 1 ∨ (D x = 0 → 0 ≤ dnH ht x → F2 (dnH ht x) = 1)) := by
    intro fu F h1 h2
    refine ⟨F, ?_, h1, h2, fun _ _ _ e => e, fun e => by omega, fun _ _ _ e => Or.inl e⟩
    show X11_foulWells_L75b k30 (X11_foulWells_L75 k30 fu) _ _ _ = _
    unfold X11_foulWells_L75b
    rw [if_pos (by decide)]
  intro m
  induction m with
  | zero =>
    intro fu F c hc hf h1 h2 h3
    obtain ⟨fu, rfl⟩ : ∃ g, fu = g + 1 := ⟨fu - 1, by omega⟩
    rcases hc with q | ⟨q1, q2, q3⟩
    · subst q
      exact stop fu F h1 h2
    · have := hh c q1 q2
      omega
  | succ m ih =>
    intro fu F c hc hf h1 h2 h3
    obtain ⟨fu, rfl⟩ : ∃ g, fu = g + 1 := ⟨fu - 1, by omega⟩
    rcases hc with q | ⟨q1, q2, q3⟩
    · subst q
      exact stop fu F h1 h2
    · have gc := h3 q1
      have F1 : ∀ x : Int, 0 ≤ x → x < 144 → fupd F c 1 x = 0 ∨ fupd F c 1 x = 1 := by
        intro x x0 x1
        unfold fupd
        split
        · exact Or.inr rfl
        · exact h1 x x0 x1
      have G1 : ∀ x : Int, 0 ≤ x → x < 144 → fupd F c 1 x = 1 → G x = 1 := by
        intro x x0 x1
        unfold fupd
        by_cases e : x = c
        · rw [if_pos e, e]; exact fun _ => gc
        · rw [if_neg e]; exact h2 x x0 x1
      have cc : fupd F c 1 c = 1 := if_pos rfl
      have e0 : X11_foulWells_L75 k30 (fu + 1) (Zro y 114 F) x3 c = X11_foulWells_L75b k30 (X11_foulWells_L75 k30 fu) (Zro y 114 F) x3 c := rfl
      rw [e0]
      unfold X11_foulWells_L75b X11_foulWells_b110
      rw [if_neg (by omega), Zgd_t (by omega), Zl_eq, Zro_u, Zgd_t (by omega), Zro_k (k := 113) (by decide), hD c q1 q2]
      by_cases d : D c = 0
      · have dr := dnH_r ht (c := c) ⟨q1, q2⟩
        have lt := dnH_lt ht c
        have gd : 0 ≤ dnH ht c → G (dnH ht c) = 1 := by
          intro z
          rw [(hG (dnH ht c) z (by omega)).2]
          exact Or.inr ⟨c, q1, q2, d, rfl, gc⟩
        obtain ⟨F2, a1, a2, a3, a4, a5, a6⟩ := ih fu (fupd F c 1) (dnH ht c) (by
          rcases dr with z | z
          · exact Or.inl z
          · exact Or.inr ⟨z.1, z.2, by omega⟩) (by omega) F1 G1 gd
        rw [if_pos d, Zgd_t (by omega), Zro_k (k := 112) (by decide), hb c q1 q2]
        refine ⟨F2, a1, a2, a3, fun x x0 x1 e => a4 x x0 x1 ?_, fun _ => a4 c q1 q2 cc, fun x x0 x1 e => ?_⟩
        · unfold fupd
          split
          · rfl
          · exact e
        · rcases a6 x x0 x1 e with z | z
          · unfold fupd at z
            by_cases w : x = c
            · right
              intro _ z2
              rw [w] at z2 ⊢
              exact a5 z2
            · rw [if_neg w] at z
              exact Or.inl z
          · exact Or.inr z
      · rw [if_neg d]
        obtain ⟨F2, a1, a2, a3, a4, a5, a6⟩ := ih fu (fupd F c 1) (-9) (Or.inl rfl) (by omega) F1 G1 (fun e => by omega)
        refine ⟨F2, a1, a2, a3, fun x x0 x1 e => a4 x x0 x1 ?_, fun _ => a4 c q1 q2 cc, fun x x0 x1 e => ?_⟩
        · unfold fupd
          split
          · rfl
          · exact e
        · rcases a6 x x0 x1 e with z | z
          · unfold fupd at z
            by_cases w : x = c
            · right
              intro z2
              rw [w] at z2
              exact absurd z2 d
            · rw [if_neg w] at z
              exact Or.inl z
          · exact Or.inr z
def FIn (ht D G : Int → Int) (F : Int → Int) : Prop := (∀ x : Int, 0 ≤ x → x < 144 → F x = 0 ∨ F x = 1) ∧ (∀ x : Int, 0 ≤ x → x < 144 → F x = 1 → G x = 1) ∧ (∀ x : Int, 0 ≤ x → x < 144 → F x = 1 → D x = 0 → 0 ≤ dnH ht x → F (dnH ht x) = 1)
theorem m_lat_L {y : ZI} {D G W : Int → Int} {ht : Int → Int} {o : Int → Prop} (hT : JT y) (hb : ∀ c : Int, 0 ≤ c → c < 144 → y 112 c = dnH ht c) (hD : ∀ c : Int, 0 ≤ c → c < 144 → y 113 c = D c) (hW : ∀ c : Int, 0 ≤ c → c < 144 → y 111 c = W c) (hG : isFl ht D o G) (hh : ∀ c : Int, 0 ≤ c → c < 144 → 0 ≤ ht c ∧ ht c ≤ 99) (ho : ∀ k : Int, 0 ≤ k → k < y 68 61 → D (y 108 k) = 0 → y 109 k ≤ W (y 108 k) → o (y 108 k)) : ∀ (n k fu : Nat) (F : Int → Int), k + n = (y 68 61).toNat → n < fu → FIn ht D G F → (∀ j : Int, 0 ≤ j → j < k → D (y 108 j) = 0 → y 109 j ≤ W (y 108 j) → F (y 108 j) = 1) → ∃ F2, X11_foulWells_L30 fu (Zro y 114 F) k = X11_foulWells_b121 (Zro y 114 F2) ∧ FIn ht D G F2 ∧ (∀ j : Int, 0 ≤ j → j < y 68 61 → D (y 108 j) = 0 → y 109 j ≤ W (y 108 j) → F2 (y 108 j) = 1) := by
  obtain ⟨-, t1, t2, t3, -⟩ := hT
  intro n
  induction n with
  | zero =>
    intro k fu F hk hf h1 h2
    obtain ⟨fu, rfl⟩ : ∃ g, fu = g + 1 := ⟨fu - 1, by omega⟩
    obtain rfl : k = (y 68 61).toNat := by omega
    refine ⟨F, ?_, h1, fun j j0 j1 => h2 j j0 (by omega)⟩
    show X11_foulWells_L30b (X11_foulWells_L30 fu) _ _ = _
    unfold X11_foulWells_L30b
    rw [Zro_k (k := 68) (by decide), if_pos (by omega)]
  | succ n ih =>
    intro k fu F hk hf h1 h2
    obtain ⟨fu, rfl⟩ : ∃ g, fu = g + 1 := ⟨fu - 1, by omega⟩
    have tc := t3 k (by omega) (by omega)
    have e0 : X11_foulWells_L30 (fu + 1) (Zro y 114 F) k = X11_foulWells_L30b (X11_foulWells_L30 fu) (Zro y 114 F) k := rfl
    have b115 : ∀ F, X11_foulWells_b115 (X11_foulWells_L30 fu) (Zro y 114 F) k = X11_foulWells_L30 fu (Zro y 114 F) ((k + 1 : Nat) : Int) := by
      intro F
      unfold X11_foulWells_b115
      rw [Zgd_t (by omega), show (k : Int) + 1 = ((k + 1 : Nat) : Int) by omega]
    rw [e0]
    unfold X11_foulWells_L30b
    rw [Zro_k (k := 68) (by decide), if_neg (by omega), Zgd_t (by omega), Zro_k (k := 108) (by decide), Zgd_t (by omega), Zro_k (k := 113) (by decide), hD _ tc.1 tc.2.1]
    by_cases d : D (y 108 k) = 0
    · rw [if_pos d, Zgd_t (by omega), Zgd_t (by omega), Zro_k (k := 109) (by decide), Zro_k (k := 111) (by decide), hW _ tc.1 tc.2.1]
      by_cases w : y 109 k ≤ W (y 108 k)
      · have g1 : G (y 108 k) = 1 := by
          rw [(hG _ tc.1 tc.2.1).2]
          exact Or.inl (ho k (by omega) (by omega) d w)
        obtain ⟨F2, a1, a2, a3, a4, a5, a6⟩ := m_path_L (k30 := X11_foulWells_L30 fu) (x3 := (k : Int)) hb hD hG hh 100 Zfuel F (y 108 k) (Or.inr ⟨tc.1, tc.2.1, by have := hh _ tc.1 tc.2.1; omega⟩) (by unfold Zfuel; omega) h1.1 h1.2.1 (fun _ => g1)
        rw [if_pos w, a1, b115]
        refine ih (k + 1) fu F2 (by omega) (by omega) ⟨a2, a3, fun x x0 x1 e dx n0 => ?_⟩ (fun j j0 j1 dj wj => ?_)
        · rcases a6 x x0 x1 e with z | z
          · have dr := dnH_r ht (c := x) ⟨x0, x1⟩
            exact a4 _ n0 (by omega) (h1.2.2 x x0 x1 z dx n0)
          · exact z dx n0
        · by_cases e : j = k
          · rw [e]; exact a5 tc.1
          · have q := t3 j j0 (by omega)
            exact a4 _ q.1 q.2.1 (h2 j j0 (by omega) dj wj)
      · rw [if_neg w, b115]
        refine ih (k + 1) fu F (by omega) (by omega) h1 (fun j j0 j1 dj wj => ?_)
        by_cases e : j = k
        · rw [e] at wj; exact absurd wj w
        · exact h2 j j0 (by omega) dj wj
    · rw [if_neg d, b115]
      refine ih (k + 1) fu F (by omega) (by omega) h1 (fun j j0 j1 dj wj => ?_)
      by_cases e : j = k
      · rw [e] at dj; exact absurd dj d
      · exact h2 j j0 (by omega) dj wj
theorem FIn_eq {ht D G F : Int → Int} {o : Int → Prop} (hh : ∀ c : Int, 0 ≤ c → c < 144 → 0 ≤ ht c ∧ ht c ≤ 99) (hG : isFl ht D o G) (h : FIn ht D G F) (ho : ∀ c : Int, 0 ≤ c → c < 144 → o c → F c = 1) : ∀ m : Nat, ∀ c : Int, 0 ≤ c → c < 144 → 100 - ht c ≤ m → G c = 1 → F c = 1
  | 0, c, h0, h1, hm, _ => by
    have := hh c h0 h1
    omega
  | m + 1, c, h0, h1, hm, e => by
    rcases (hG c h0 h1).2.mp e with q | ⟨j, j0, j1, q1, q2, q3⟩
    · exact ho c h0 h1 q
    · have lt := dnH_lt ht j
      have := FIn_eq hh hG h ho m j j0 j1 (by rw [q2] at lt; omega) q3
      rw [← q2]
      exact h.2.2 j j0 j1 this q1 (by omega)
theorem jor_k {v : Int} {n : Nat} (hn : n < 6) (h0 : 0 ≤ v) (h1 : v < 64) : jor v 0 = v ∧ (v < 2 ^ n → 0 < jor v (jshl 1 n) ∧ jor v (jshl 1 n) < 2 ^ (n + 1)) := by
  have key : ∀ v : Fin 64, ∀ n : Fin 6, jor (v.val : Int) 0 = (v.val : Int) ∧ ((v.val : Int) < 2 ^ n.val → 0 < jor (v.val : Int) (jshl 1 (n.val : Int)) ∧ jor (v.val : Int) (jshl 1 (n.val : Int)) < 2 ^ (n.val + 1)) := by decide +kernel
  have := key ⟨v.toNat, by omega⟩ ⟨n, hn⟩
  rwa [show ((v.toNat : Nat) : Int) = v by omega] at this
theorem p2_64 {n : Nat} (hn : n ≤ 6) : (2 : Int) ^ n ≤ 64 := by
  have key : ∀ n : Fin 7, (2 : Int) ^ n.val ≤ 64 := by decide
  exact key ⟨n, by omega⟩
theorem fwR_b (f wc : Int → Int) : ∀ n : Nat, n ≤ 6 → 0 ≤ fwR f wc n ∧ fwR f wc n < 2 ^ n ∧ (fwR f wc n = 0 ↔ ∀ w : Int, 0 ≤ w → w < n → f (wc w) = 0)
  | 0, _ => ⟨Int.le_refl _, by show (0 : Int) < 1; decide, ⟨fun _ w h0 h1 => by omega, fun _ => rfl⟩⟩
  | n + 1, hn => by
    obtain ⟨a, b, c⟩ := fwR_b f wc n (by omega)
    have p := p2_64 (n := n) (by omega)
    have k := jor_k (v := fwR f wc n) (n := n) (by omega) a (by omega)
    have pp : (2 : Int) ^ (n + 1) = 2 ^ n * 2 := Int.pow_succ 2 n
    have u : fwR f wc (n + 1) = if f (wc n) = 0 then fwR f wc n else jor (fwR f wc n) (jshl 1 n) := rfl
    rw [u]
    by_cases q : f (wc n) = 0
    · rw [if_pos q]
      refine ⟨a, by omega, c.trans ⟨fun h w h0 h1 => ?_, fun h w h0 h1 => h w h0 (by omega)⟩⟩
      by_cases e : w = n
      · rw [e]; exact q
      · exact h w h0 (by omega)
    · rw [if_neg q]
      have k2 := k.2 b
      exact ⟨by omega, k2.2, ⟨fun h => by omega, fun h => absurd (h n (by omega) (by omega)) q⟩⟩
theorem m_fw_L {z : ZI} (hW : JW z) : ∀ (n k fu : Nat), k + n = (z 68 47).toNat → n < fu → X11_foulWells_L126 fu z (fwR (z 114) (z 95) k) k = some (fwR (z 114) (z 95) (z 68 47).toNat, z) := by
  obtain ⟨-, w2, w3, w4, -⟩ := hW
  intro n
  induction n with
  | zero =>
    intro k fu hk hfu
    obtain ⟨fu, rfl⟩ : ∃ g, fu = g + 1 := ⟨fu - 1, by omega⟩
    obtain rfl : k = (z 68 47).toNat := by omega
    show X11_foulWells_L126b (X11_foulWells_L126 fu) _ _ _ = _
    unfold X11_foulWells_L126b
    rw [if_pos (by omega)]
  | succ n ih =>
    intro k fu hk hfu
    obtain ⟨fu, rfl⟩ : ∃ g, fu = g + 1 := ⟨fu - 1, by omega⟩
    have i := ih (k + 1) fu (by omega) (by omega)
    have c := w4 k (by omega) (by omega)
    have b := fwR_b (z 114) (z 95) k (by omega)
    have p := p2_64 (n := k) (by omega)
    have jk := (jor_k (v := fwR (z 114) (z 95) k) (n := 0) (by omega) b.1 (by omega)).1
    have u : fwR (z 114) (z 95) (k + 1) = if z 114 (z 95 k) = 0 then fwR (z 114) (z 95) k else jor (fwR (z 114) (z 95) k) (jshl 1 k) := rfl
    rw [u] at i
    show X11_foulWells_L126b (X11_foulWells_L126 fu) _ _ _ = _
    unfold X11_foulWells_L126b X11_foulWells_b159
    rw [if_neg (by omega), Zgd_t (by omega), Zgd_t (by omega)]
    by_cases q : z 114 (z 95 k) = 0
    · rw [if_pos q] at i
      rw [if_pos q, Zgd_t (by omega), jk, show (k : Int) + 1 = ((k + 1 : Nat) : Int) by omega]
      exact i
    · rw [if_neg q] at i
      rw [if_neg q, Zgd_t (by omega), show (k : Int) + 1 = ((k + 1 : Nat) : Int) by omega]
      exact i
theorem m_f0_L {y : ZI} : ∀ (n k fu : Nat) (F : Int → Int), k + n = 144 → n < fu → (∀ c : Int, 0 ≤ c → c < k → F c = 0) → ∃ F2, X11_foulWells_L8 fu (Zro y 114 F) k = X11_foulWells_b28 (Zro y 114 F2) ∧ (∀ c : Int, 0 ≤ c → c < 144 → F2 c = 0) := by
  intro n
  induction n with
  | zero =>
    intro k fu F hk hf h
    obtain ⟨fu, rfl⟩ : ∃ g, fu = g + 1 := ⟨fu - 1, by omega⟩
    obtain rfl : k = 144 := by omega
    refine ⟨F, ?_, h⟩
    show X11_foulWells_L8b (X11_foulWells_L8 fu) _ _ = _
    unfold X11_foulWells_L8b
    rw [if_pos (by decide)]
  | succ n ih =>
    intro k fu F hk hf h
    obtain ⟨fu, rfl⟩ : ∃ g, fu = g + 1 := ⟨fu - 1, by omega⟩
    have e0 : X11_foulWells_L8 (fu + 1) (Zro y 114 F) k = X11_foulWells_L8b (X11_foulWells_L8 fu) (Zro y 114 F) k := rfl
    rw [e0]
    unfold X11_foulWells_L8b
    rw [if_neg (by omega), Zgd_t (by omega), Zl_eq, Zro_u, Zgd_t (by omega), show (k : Int) + 1 = ((k + 1 : Nat) : Int) by omega]
    refine ih (k + 1) fu _ (by omega) (by omega) (fun c c0 c1 => ?_)
    unfold fupd
    by_cases q : c = k
    · rw [if_pos q]
    · rw [if_neg q]; exact h c c0 (by omega)
theorem K_T {z : ZI} (h : K z) : JT z := by
  obtain ⟨hD, hH, hP, hS, hL, hT, hE, hV, hA, hU, hC, hK, hW, hB, hG, hX, hQ, hO⟩ := h
  exact hT
theorem K_L {z : ZI} (h : K z) : JL z := by
  obtain ⟨hD, hH, hP, hS, hL, hT, hE, hV, hA, hU, hC, hK, hW, hB, hG, hX, hQ, hO⟩ := h
  exact hL
theorem K_E {z : ZI} (h : K z) : JE z := by
  obtain ⟨hD, hH, hP, hS, hL, hT, hE, hV, hA, hU, hC, hK, hW, hB, hG, hX, hQ, hO⟩ := h
  exact hE
theorem K_V {z : ZI} (h : K z) : JV z := by
  obtain ⟨hD, hH, hP, hS, hL, hT, hE, hV, hA, hU, hC, hK, hW, hB, hG, hX, hQ, hO⟩ := h
  exact hV
theorem K_W {z : ZI} (h : K z) : JW z := by
  obtain ⟨hD, hH, hP, hS, hL, hT, hE, hV, hA, hU, hC, hK, hW, hB, hG, hX, hQ, hO⟩ := h
  exact hW
theorem m_foulWells {z : ZI} {s r : Int} (hK : K z) (hb : ∀ c : Int, 0 ≤ c → c < 144 → z 112 c = dnH (z 70) c) (ho : ordH (z 70) (z 115)) (hr : 0 ≤ r ∧ r ≤ 999) : ∃ y, F_X11_foulWells z r s = some (fS z s r, y) ∧ FrD z y ∧ y 112 = z 112 ∧ y 115 = z 115 := by
  obtain ⟨y1, a1, a2, a3, a4, a5, a6⟩ := m_rains (s := s) (K_L hK) (K_E hK) hb ho hr
  have hK1 := FrD_K a2 hK
  have e70 : y1 70 = z 70 := a2 70 (by decide) (by decide) (by decide) (by decide) (by decide)
  have e4 : y1 4 = z 4 := a2 4 (by decide) (by decide) (by decide) (by decide) (by decide)
  have hh := ht_L (K_L hK)
  obtain ⟨F1, b1, b2⟩ := m_f0_L (y := y1) 144 0 Zfuel (y1 114) (by decide) (by unfold Zfuel; omega) (fun c c0 c1 => by omega)
  have b1 : X11_foulWells_L8 Zfuel (Zro y1 114 (y1 114)) 0 = X11_foulWells_b28 (Zro y1 114 F1) := b1
  rw [Zro_z] at b1
  have hT := K_T hK1
  have own : ∀ c : Int, 0 ≤ c → c < 144 → ((Dr z s c = 0 ∧ 0 < z 4 c ∧ z 4 c ≤ WS z s r c) ↔ (Dr z s c = 0 ∧ ∃ k, 0 ≤ k ∧ k < y1 68 61 ∧ y1 108 k = c ∧ y1 109 k ≤ WS z s r c)) := by
    intro c c0 c1
    have t := (hT.2.2.2.2 c c0 c1).2 (WS z s r c)
    rw [e4] at t
    rw [t]
  obtain ⟨F2, d1, d2, d3⟩ := m_lat_L (y := y1) (D := Dr z s) (W := WS z s r) (G := FS z s r) (ht := z 70) hT (by rw [a3]; exact hb) (fun c c0 c1 => (a6 c c0 c1).2) (fun c c0 c1 => (a6 c c0 c1).1) (FS_f s r) hh (fun k k0 k1 kd kw => by
    have q := hT.2.2.2.1 k k0 k1
    exact (own _ q.1 q.2.1).mpr ⟨kd, k, k0, k1, rfl, kw⟩) (y1 68 61).toNat 0 Zfuel F1 (by omega) (by have := hT.2.2.1; unfold Zfuel; omega) ⟨fun x x0 x1 => Or.inl (b2 x x0 x1), fun x x0 x1 e => by rw [b2 x x0 x1] at e; omega, fun x x0 x1 e => by rw [b2 x x0 x1] at e; omega⟩ (fun j j0 j1 => by omega)
  have d1 : X11_foulWells_b28 (Zro y1 114 F1) = X11_foulWells_b121 (Zro y1 114 F2) := d1
  have eF : ∀ c : Int, 0 ≤ c → c < 144 → F2 c = FS z s r c := by
    intro c c0 c1
    have q := hh c c0 c1
    have g1 := FIn_eq hh (FS_f s r) d2 (fun x x0 x1 ox => by
      obtain ⟨q1, k, q2, q3, q4, q5⟩ := (own x x0 x1).mp ox
      rw [← q4]
      exact d3 k q2 q3 (by rw [q4]; exact q1) (by rw [q4]; exact q5)) 100 c c0 c1 (by omega)
    have g2 := d2.2.1 c c0 c1
    have g3 := d2.1 c c0 c1
    have g4 := FS_01 (z := z) s r c
    omega
  have hW1 : JW (Zro y1 114 F2) := by
    have hW := K_W hK1
    exact (JW_c rfl rfl rfl rfl rfl rfl rfl rfl rfl rfl hW)
  have l := m_fw_L hW1 (y1 68 47).toNat 0 Zfuel (Nat.zero_add _) (by have := (K_W hK1).2.2.1; unfold Zfuel; omega)
  have l : X11_foulWells_b121 (Zro y1 114 F2) = some (fwR F2 (y1 95) (y1 68 47).toNat, Zro y1 114 F2) := l
  have e95 : y1 95 = z 95 := a2 _ (by decide) (by decide) (by decide) (by decide) (by decide)
  have e68 : y1 68 = z 68 := a2 68 (by decide) (by decide) (by decide) (by decide) (by decide)
  refine ⟨Zro y1 114 F2, ?_, a2.tr (FrD_r (by decide)), by rw [Zro_k (by decide), a3], by rw [Zro_k (by decide), a4]⟩
  unfold F_X11_foulWells
  rw [a1, Yb_some, b1, d1, l, e95, e68]
  have : fwR F2 (z 95) (z 68 47).toNat = fS z s r := fwR_c _ (fun w q0 q1 => by
    have q := (K_W hK).2.2.2.1 w q0 (by omega)
    exact eF _ q.2.1 q.2.2.1)
  rw [this]
theorem shl_1 {n : Int} (h : 0 ≤ n ∧ n ≤ 10) : 1 ≤ jshl 1 n ∧ jshl 1 n ≤ 1024 ∧ (0 < n → jshl 1 n = 2 * jshl 1 (n - 1)) := by
  have key : ∀ n : Fin 11, 1 ≤ jshl 1 (n.val : Int) ∧ jshl 1 (n.val : Int) ≤ 1024 ∧ ((0 : Int) < (n.val : Int) → jshl 1 (n.val : Int) = 2 * jshl 1 ((n.val : Int) - 1)) := by decide +kernel
  have := key ⟨n.toNat, by omega⟩
  rwa [show ((n.toNat : Nat) : Int) = n by omega] at this
theorem x_isSet {z : ZI} {s n : Int} : F_X10_isSetOf z s n = some (bi (0 ≤ s ∧ s < jshl 1 n), z) := by
  unfold F_X10_isSetOf X10_isSetOf_b15 X10_isSetOf_b16
  grind [Zgd_i, bi]
theorem fS_fp {z z2 : ZI} (f : FrP z z2) : fS z2 = fS z := by
  rw [f.eq]
  rfl
theorem fS_fd {z z2 : ZI} (f : FrD z z2) : fS z2 = fS z := by
  rw [f.eq]
  rfl
set_option maxHeartbeats 400000 in
theorem t_foul {n : Int} {z : ZI} (hK : K z) (hN : JN n z) (hn : n ≤ 1000) (r s : Int) : Both (F_X10_foul z r s) (fun z1 => F_X11_foul z1 r s) (fun z2 => K z2 ∧ JN (n + 1) z2) := by
  have hR := hN.R hn
  have hl := links hK
  have hK0 := hK
  obtain ⟨hD, hH, hP, hS, hL, hT, hE, hV, hA, hU, hC, hK, hW, hB, hG, hX, hQ, hO⟩ := hK
  have sh := shl_1 (n := z 68 62) (by omega)
  by_cases c1 : rng r 1 999 ≠ 0
  · have rb : -6 ≤ rng r 1 999 ∧ rng r 1 999 ≤ -1 := by
      unfold rng at c1 ⊢
      by_cases q : r < 1
      · rw [if_pos q]; decide
      · rw [if_neg q] at c1 ⊢
        by_cases q2 : 999 < r
        · rw [if_pos q2]; decide
        · rw [if_neg q2] at c1; exact absurd rfl c1
    refine Both_ref hK0 hN (w := rng r 1 999) hn rb ?_ ?_
    · unfold F_X10_foul X10_foul_b54
      rw [e_checkRange, Yb_some, if_neg c1, e_refuse hR rb, Yb_some]
    · unfold F_X11_foul X11_foul_b34
      rw [e_out, Yb_some, if_neg c1, if_neg c1, e_no hR rb, Yb_some]
  have r0 : rng r 1 999 = 0 := by omega
  have rr : 1 ≤ r ∧ r ≤ 999 := by
    unfold rng at r0
    by_cases q : r < 1
    · rw [if_pos q] at r0; omega
    · rw [if_neg q] at r0
      by_cases q2 : 999 < r
      · rw [if_pos q2] at r0; omega
      · omega
  by_cases c2 : ¬ (0 ≤ s ∧ s < jshl 1 (z 68 62))
  · refine Both_ref hK0 hN (w := -1) hn (by omega) ?_ ?_
    · unfold F_X10_foul X10_foul_b54
      rw [e_checkRange, Yb_some, r0, if_pos rfl, x_isSet, Yb_some, hE.1, bi_f c2, if_pos rfl, e_refuse hR (by omega), Yb_some]
    · unfold F_X11_foul X11_foul_b34
      have e : (zR z (-1)) 68 62 = z 68 62 := rfl
      rw [e_out, Yb_some, r0, if_pos rfl, e, Zgd_t (by omega), e_isIn, Yb_some, bi_f (by omega), if_pos rfl, if_neg (by decide), e_no hR (by omega), Yb_some]
  · have c3 : 0 ≤ s ∧ s < jshl 1 (z 68 62) := by omega
    obtain ⟨y1, a1, a2, a3⟩ := x_foulOnes (s := s) (r := r) hL hV hE hW (by omega)
    have hK1 := FrP_K a2 a3 hK0
    have hN1 := JN_fp hN a2
    obtain ⟨y2, b1, b2, b3, b4⟩ := m_findDown y1
    have hK2 := FrD_K b2 hK1
    have e70 : y2 70 = y1 70 := b2 70 (by decide) (by decide) (by decide) (by decide) (by decide)
    obtain ⟨y3, d1, d2, -⟩ := m_foulWells (s := s) (r := r) hK2 (by rw [e70]; exact b3) (by rw [e70]; exact b4) (by omega)
    refine ⟨fS z s r, y1, y3, ?_, ?_, FrD_K d2 hK2, JN_1 (JN_fd (JN_fd hN1 b2) d2)⟩
    · unfold F_X10_foul X10_foul_b54
      rw [e_checkRange, Yb_some, r0, if_pos rfl, x_isSet, Yb_some, hE.1, bi_t c3, if_neg (by decide), a1, Yb_some]
    · show F_X11_foul y1 r s = _
      have e : y1 68 62 = z 68 62 := by rw [a2.k (k := 68) (by decide) (by decide) (by decide) (by decide) (by decide) (by decide)]
      unfold F_X11_foul X11_foul_b34
      rw [e_out, Yb_some, r0, if_pos rfl, e, Zgd_t (by omega), e_isIn, Yb_some, bi_t (by omega), if_neg (by decide), if_pos rfl, b1, Yb_some, d1, Yb_some, fS_fd b2, fS_fp a2]
