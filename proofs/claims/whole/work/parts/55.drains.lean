/-! rain: the fewest drains -/
/-- r is the first of the least of the good ones among the first N sets; -9 if none is good -/
def isMinD (good : Int → Prop) (bc : Int → Int) (N r : Int) : Prop := (r = -9 ∧ ∀ s : Int, 0 ≤ s → s < N → ¬ good s) ∨ (0 ≤ r ∧ r < N ∧ good r ∧ ∀ s : Int, 0 ≤ s → s < N → good s → bc r < bc s ∨ (bc r = bc s ∧ r ≤ s))
theorem isMinD_u {good : Int → Prop} {bc : Int → Int} {N r q : Int} (h : isMinD good bc N r) (g : isMinD good bc N q) : r = q := by
  rcases h with ⟨h1, h2⟩ | ⟨h1, h2, h3, h4⟩
  · rcases g with ⟨g1, g2⟩ | ⟨g1, g2, g3, g4⟩
    · omega
    · exact absurd g3 (h2 q g1 g2)
  · rcases g with ⟨g1, g2⟩ | ⟨g1, g2, g3, g4⟩
    · exact absurd h3 (g2 r h1 h2)
    · have a := h4 q g1 g2 g3
      have b := g4 r h1 h2 h3
      omega
theorem isMinD_t {good : Int → Prop} {bc : Int → Int} {N r : Int} (h : isMinD good bc N r) (h0 : 0 ≤ N) (hg : good N) (hb : r < 0 ∨ bc N < bc r) : isMinD good bc (N + 1) N := by
  refine Or.inr ⟨h0, by omega, hg, fun s s0 s1 gs => ?_⟩
  by_cases e : s = N
  · rw [e]; exact Or.inr ⟨rfl, Int.le_refl _⟩
  · rcases h with ⟨h1, h2⟩ | ⟨h1, h2, h3, h4⟩
    · exact absurd gs (h2 s s0 (by omega))
    · have a := h4 s s0 (by omega) gs
      omega
theorem isMinD_f {good : Int → Prop} {bc : Int → Int} {N r : Int} (h : isMinD good bc N r) (hn : ¬ good N ∨ (0 ≤ r ∧ bc r ≤ bc N)) : isMinD good bc (N + 1) r := by
  rcases h with ⟨h1, h2⟩ | ⟨h1, h2, h3, h4⟩
  · refine Or.inl ⟨h1, fun s s0 s1 => ?_⟩
    by_cases e : s = N
    · rw [e]
      rcases hn with q | q
      · exact q
      · omega
    · exact h2 s s0 (by omega)
  · refine Or.inr ⟨h1, by omega, h3, fun s s0 s1 gs => ?_⟩
    by_cases e : s = N
    · rcases hn with q | q
      · rw [e] at gs; exact absurd gs q
      · rw [e]; omega
    · exact h4 s s0 (by omega) gs
theorem Dr_all {z : ZI} (hE : JE z) {s c : Int} (h : Dr z (jshl 1 (z 68 62) - 1) c = 0) : Dr z s c = 0 := by
  have e1 := hE.2.1
  have e2 := hE.2.2.1
  have r := srch_r (z 110) c (z 68 62).toNat 0 (Int.le_refl _)
  unfold Dr at h ⊢
  by_cases q : srch (z 110) c (z 68 62).toNat 0 ≠ -9
  · have b := bit_all (n := z 68 62) (k := srch (z 110) c (z 68 62).toNat 0) ⟨e1, e2⟩ (by omega)
    rw [if_pos ⟨q, b⟩] at h
    omega
  · rw [if_neg (fun t => q t.1)]
/-- if some drains keep all wells clean, so do all -/
theorem fS_mono {z : ZI} (hK : K z) {s r : Int} (hr : 0 ≤ r) (h : fS z s r = 0) : fS z (jshl 1 (z 68 62) - 1) r = 0 := by
  have hE := K_E hK
  have hL := K_L hK
  have hW := K_W hK
  have hh := ht_L hL
  have w3 := hW.2.2.1
  unfold fS at h ⊢
  rw [(fwR_b _ _ _ (by omega)).2.2] at h ⊢
  intro w w0 w1
  have c := hW.2.2.2.1 w w0 (by have := hW.2.1; omega)
  have h := h w w0 w1
  have le : ∀ x : Int, 0 ≤ x → x < 144 → WS z (jshl 1 (z 68 62) - 1) r x ≤ WS z s r x := fun x x0 x1 => by
    have q := hh x x0 x1
    exact wtr_le hh (WS_w _ r) (WS_w s r) (fun y _ _ => WS_0 s hr y) (fun y _ _ e => Dr_all hE e) 100 x x0 x1 (by omega)
  have fl := fl_le hh (FS_f (z := z) (jshl 1 (z 68 62) - 1) r) (FS_f s r) (fun x x0 x1 e => ⟨Dr_all hE e.1, e.2.1, by have := le x x0 x1; omega⟩) (fun y _ _ e => Dr_all hE e) 100 (z 95 w) c.2.1 c.2.2.1 (by have := hh _ c.2.1 c.2.2.1; omega)
  rcases FS_01 (z := z) (jshl 1 (z 68 62) - 1) r (z 95 w) with q | q
  · exact q
  · have := fl q
    omega
theorem x_fd2_L {z : ZI} {r N : Int} {j : Nat} {k25 : ZI → Int → Int → Int → Option (Int × ZI)} (hK : K z) (hr : 0 ≤ r ∧ r ≤ 999) (hN : 0 ≤ N ∧ N ≤ 1024) (hn : j ≤ 10) (hout : ∀ y, FrP z y → JV y → (∀ s : Int, 0 ≤ s → s < N → fS z s r = 0 → ((j + 1 : Nat) : Int) ≤ bmR s 31) → ∃ y2 q, k25 y r N ((j + 1 : Nat) : Int) = some (q, y2) ∧ FrP z y2 ∧ JV y2 ∧ isMinD (fun s => fS z s r = 0) (fun s => bmR s 31) N q) : ∀ (n k fu : Nat) (y : ZI), (k : Int) + n = N → n < fu → FrP z y → JV y → (∀ s : Int, 0 ≤ s → s < N → fS z s r = 0 → (j : Int) ≤ bmR s 31) → (∀ s : Int, 0 ≤ s → s < k → fS z s r = 0 → ((j + 1 : Nat) : Int) ≤ bmR s 31) → ∃ y2 q, X9_fewestDrains_L37 k25 fu y r N j k = some (q, y2) ∧ FrP z y2 ∧ JV y2 ∧ isMinD (fun s => fS z s r = 0) (fun s => bmR s 31) N q := by
  intro n
  induction n with
  | zero =>
    intro k fu y hk hf fr hv h1 h2
    obtain ⟨fu, rfl⟩ : ∃ g, fu = g + 1 := ⟨fu - 1, by omega⟩
    have e0 : X9_fewestDrains_L37 k25 (fu + 1) y r N j k = X9_fewestDrains_L37b k25 (X9_fewestDrains_L37 k25 fu) y r N j k := rfl
    rw [e0]
    unfold X9_fewestDrains_L37b X9_fewestDrains_b73
    rw [if_pos (by omega), Zgd_t (by omega), show (j : Int) + 1 = ((j + 1 : Nat) : Int) by omega]
    exact hout y fr hv (fun s s0 s1 => h2 s s0 (by omega))
  | succ n ih =>
    intro k fu y hk hf fr hv h1 h2
    obtain ⟨fu, rfl⟩ : ∃ g, fu = g + 1 := ⟨fu - 1, by omega⟩
    have e0 : X9_fewestDrains_L37 k25 (fu + 1) y r N j k = X9_fewestDrains_L37b k25 (X9_fewestDrains_L37 k25 fu) y r N j k := rfl
    have hKy := FrP_K fr hv hK
    have b67 : ∀ y, X9_fewestDrains_b67 k25 (X9_fewestDrains_L37 k25 fu) y r N j k = X9_fewestDrains_L37 k25 fu y r N j ((k + 1 : Nat) : Int) := by
      intro y
      unfold X9_fewestDrains_b67
      rw [Zgd_t (by omega), show (k : Int) + 1 = ((k + 1 : Nat) : Int) by omega]
    rw [e0]
    unfold X9_fewestDrains_L37b
    rw [if_neg (by omega), x_bits (by omega), Yb_some]
    by_cases c : bmR k 31 = j
    · obtain ⟨y1, a1, a2, a3⟩ := x_foulOnes (z := y) (s := (k : Int)) (r := r) (K_L hKy) hv (K_E hKy) (K_W hKy) hr
      rw [fS_fp fr] at a1
      rw [if_pos c, a1, Yb_some]
      by_cases g : fS z k r = 0
      · rw [if_pos g]
        refine ⟨y1, k, rfl, fr.tr a2, a3, Or.inr ⟨by omega, by omega, g, fun s s0 s1 gs => ?_⟩⟩
        have q1 := h1 s s0 s1 gs
        show bmR k 31 < bmR s 31 ∨ (bmR k 31 = bmR s 31 ∧ (k : Int) ≤ s)
        by_cases e : s < k
        · have := h2 s s0 e gs
          omega
        · omega
      · rw [if_neg g, b67]
        refine ih (k + 1) fu y1 (by omega) (by omega) (fr.tr a2) a3 h1 (fun s s0 s1 gs => ?_)
        by_cases e : s = k
        · rw [e] at gs; exact absurd gs g
        · exact h2 s s0 (by omega) gs
    · rw [if_neg c, b67]
      refine ih (k + 1) fu y (by omega) (by omega) fr hv h1 (fun s s0 s1 gs => ?_)
      by_cases e : s = k
      · have := h1 s s0 (by omega) gs
        rw [e] at this ⊢
        omega
      · exact h2 s s0 (by omega) gs
theorem x_fd1_L {z : ZI} {r N : Int} (hK : K z) (hr : 0 ≤ r ∧ r ≤ 999) (hN : N = jshl 1 (z 68 62)) (hall : fS z (N - 1) r = 0) : ∀ (n j fu : Nat) (y : ZI), (j : Int) + n = z 68 62 + 1 → n < fu → FrP z y → JV y → (∀ s : Int, 0 ≤ s → s < N → fS z s r = 0 → (j : Int) ≤ bmR s 31) → ∃ y2 q, X9_fewestDrains_L25 fu y r N j = some (q, y2) ∧ FrP z y2 ∧ JV y2 ∧ isMinD (fun s => fS z s r = 0) (fun s => bmR s 31) N q := by
  have hE := K_E hK
  have d0 := hE.2.1
  have d1 := hE.2.2.1
  have sh := shl_1 (n := z 68 62) ⟨d0, d1⟩
  intro n
  induction n with
  | zero =>
    intro j fu y hj hf fr hv h1
    have q := h1 (N - 1) (by omega) (by omega) hall
    rw [hN, bm_all ⟨d0, d1⟩] at q
    omega
  | succ n ih =>
    intro j fu y hj hf fr hv h1
    obtain ⟨fu, rfl⟩ : ∃ g, fu = g + 1 := ⟨fu - 1, by omega⟩
    have e0 : X9_fewestDrains_L25 (fu + 1) y r N j = X9_fewestDrains_L25b (X9_fewestDrains_L25 fu) y r N j := rfl
    have y24 : y 2 4 = z 68 62 := by rw [fr.q (by decide)]; exact hE.1
    rw [e0]
    unfold X9_fewestDrains_L25b
    rw [y24, if_neg (by omega)]
    exact x_fd2_L hK hr (by omega) (by omega) (fun y fr hv h => ih (j + 1) fu y (by omega) (by omega) fr hv h) N.toNat 0 Zfuel y (by omega) (by unfold Zfuel; omega) fr hv h1 (fun s s0 s1 => by omega)
theorem x_fewestD {z : ZI} {r : Int} (hK : K z) (hr : 0 ≤ r ∧ r ≤ 999) : ∃ y q, F_X9_fewestDrains z r = some (q, y) ∧ FrP z y ∧ JV y ∧ isMinD (fun s => fS z s r = 0) (fun s => bmR s 31) (jshl 1 (z 68 62)) q := by
  have hE := K_E hK
  have d0 := hE.2.1
  have d1 := hE.2.2.1
  have sh := shl_1 (n := z 68 62) ⟨d0, d1⟩
  obtain ⟨y1, a1, a2, a3⟩ := x_foulOnes (s := jshl 1 (z 68 62) - 1) (r := r) (K_L hK) (K_V hK) hE (K_W hK) hr
  unfold F_X9_fewestDrains
  rw [hE.1, Zgd_t (by omega), a1, Yb_some]
  by_cases c : fS z (jshl 1 (z 68 62) - 1) r = 0
  · rw [if_pos c]
    exact x_fd1_L hK hr rfl c (z 68 62 + 1).toNat 0 Zfuel y1 (by omega) (by unfold Zfuel; omega) a2 a3 (fun s s0 s1 _ => (bmR_b (by omega) 31 (by decide)).1)
  · rw [if_neg c]
    exact ⟨y1, -9, rfl, a2, a3, Or.inl ⟨rfl, fun s s0 s1 gs => c (fS_mono hK hr.1 gs)⟩⟩
theorem m_fd_S {z : ZI} {r N : Int} (hK : K z) (hb : ∀ c : Int, 0 ≤ c → c < 144 → z 112 c = dnH (z 70) c) (ho : ordH (z 70) (z 115)) (hr : 0 ≤ r ∧ r ≤ 999) (hN : N = jshl 1 (z 68 62)) : ∀ (n k fu : Nat) (q : Int) (y : ZI), (k : Int) + n = N → n < fu → FrD z y → y 112 = z 112 → y 115 = z 115 → isMinD (fun s => fS z s r = 0) (fun s => bmR s 31) k q → ∃ y2 q2, X11_drains_L30 fu y r q k = some (q2, y2) ∧ FrD z y2 ∧ isMinD (fun s => fS z s r = 0) (fun s => bmR s 31) N q2 := by
  have hE := K_E hK
  have sh := shl_1 (n := z 68 62) ⟨hE.2.1, hE.2.2.1⟩
  intro n
  induction n with
  | zero =>
    intro k fu q y hk hf fr e1 e2 hm
    obtain ⟨fu, rfl⟩ : ∃ g, fu = g + 1 := ⟨fu - 1, by omega⟩
    have y62 : y 68 62 = z 68 62 := by rw [fr 68 (by decide) (by decide) (by decide) (by decide) (by decide)]
    have e0 : X11_drains_L30 (fu + 1) y r q k = X11_drains_L30b (X11_drains_L30 fu) y r q k := rfl
    refine ⟨y, q, ?_, fr, by rw [show N = (k : Int) by omega]; exact hm⟩
    rw [e0]
    unfold X11_drains_L30b
    rw [y62, if_pos (by omega)]
  | succ n ih =>
    intro k fu q y hk hf fr e1 e2 hm
    obtain ⟨fu, rfl⟩ : ∃ g, fu = g + 1 := ⟨fu - 1, by omega⟩
    have y62 : y 68 62 = z 68 62 := by rw [fr 68 (by decide) (by decide) (by decide) (by decide) (by decide)]
    have y70 : y 70 = z 70 := fr 70 (by decide) (by decide) (by decide) (by decide) (by decide)
    have e0 : X11_drains_L30 (fu + 1) y r q k = X11_drains_L30b (X11_drains_L30 fu) y r q k := rfl
    have b70 : ∀ y q, X11_drains_b70 (X11_drains_L30 fu) y r q k = X11_drains_L30 fu y r q ((k + 1 : Nat) : Int) := by
      intro y q
      unfold X11_drains_b70
      rw [Zgd_t (by omega), show (k : Int) + 1 = ((k + 1 : Nat) : Int) by omega]
    have test : (q < 0 ∨ bmR k 31 < bmR q 31) → ∃ y2 q2, X11_drains_b57 (X11_drains_L30 fu) y r q k = some (q2, y2) ∧ FrD z y2 ∧ isMinD (fun s => fS z s r = 0) (fun s => bmR s 31) N q2 := by
      intro hq
      obtain ⟨y1, a1, a2, a3, a4⟩ := m_foulWells (z := y) (s := (k : Int)) (r := r) (FrD_K fr hK) (by rw [e1, y70]; exact hb) (by rw [e2, y70]; exact ho) hr
      rw [fS_fd fr] at a1
      unfold X11_drains_b57
      rw [a1, Yb_some]
      by_cases g : fS z k r = 0
      · rw [if_pos g, b70]
        exact ih (k + 1) fu k y1 (by omega) (by omega) (fr.tr a2) (a3.trans e1) (a4.trans e2) (by
          rw [show ((k + 1 : Nat) : Int) = (k : Int) + 1 by omega]
          exact isMinD_t hm (by omega) g hq)
      · rw [if_neg g, b70]
        exact ih (k + 1) fu q y1 (by omega) (by omega) (fr.tr a2) (a3.trans e1) (a4.trans e2) (by
          rw [show ((k + 1 : Nat) : Int) = (k : Int) + 1 by omega]
          exact isMinD_f hm (Or.inl g))
    rw [e0]
    unfold X11_drains_L30b
    rw [y62, if_neg (by omega)]
    by_cases c : q < 0
    · rw [if_pos c]
      exact test (Or.inl c)
    · have qb : q < k := by
        rcases hm with m | m
        · omega
        · exact m.2.1
      rw [if_neg c, m_bits (by omega), Yb_some, m_bits (by omega), Yb_some]
      by_cases c2 : bmR q 31 ≤ bmR k 31
      · rw [if_pos c2, b70]
        exact ih (k + 1) fu q y (by omega) (by omega) fr e1 e2 (by
          rw [show ((k + 1 : Nat) : Int) = (k : Int) + 1 by omega]
          exact isMinD_f hm (Or.inr ⟨by omega, c2⟩))
      · rw [if_neg c2]
        exact test (Or.inr (by omega))
set_option maxHeartbeats 400000 in
theorem t_drains {n : Int} {z : ZI} (hK : K z) (hN : JN n z) (hn : n ≤ 1000) (r : Int) : Both (F_X10_drains z r) (fun z1 => F_X11_drains z1 r) (fun z2 => K z2 ∧ JN (n + 1) z2) := by
  have hR := hN.R hn
  have hl := links hK
  have hK0 := hK
  obtain ⟨hD, hH, hP, hS, hL, hT, hE, hV, hA, hU, hC, hK, hW, hB, hG, hX, hQ, hO⟩ := hK
  by_cases c1 : r < 1
  · refine Both_ref hK0 hN (w := -4) hn (by omega) ?_ ?_
    · unfold F_X10_drains X10_drains_b33
      grind (gen := 20) [Yb_some, Zgd_i, Zl_eq, bi, e_refuse, e_checkRange, rng]
    · show F_X11_drains (zR z (-4)) r = _
      unfold F_X11_drains 
      grind (gen := 20) [Yb_some, Zgd_i, Zl_eq, bi, zR_d, zR_k, e_no, e_out, rng]
  by_cases c2 : 999 < r
  · refine Both_ref hK0 hN (w := -6) hn (by omega) ?_ ?_
    · unfold F_X10_drains X10_drains_b33
      grind (gen := 20) [Yb_some, Zgd_i, Zl_eq, bi, e_refuse, e_checkRange, rng]
    · show F_X11_drains (zR z (-6)) r = _
      unfold F_X11_drains 
      grind (gen := 20) [Yb_some, Zgd_i, Zl_eq, bi, zR_d, zR_k, e_no, e_out, rng]
  have r0 : rng r 1 999 = 0 := by unfold rng; rw [if_neg (by omega), if_neg (by omega)]
  have sh := shl_1 (n := z 68 62) (by omega)
  obtain ⟨y1, q, a1, a2, a3, a4⟩ := x_fewestD (r := r) hK0 (by omega)
  have hK1 := FrP_K a2 a3 hK0
  have hN1 := JN_fp hN a2
  obtain ⟨y2, b1, b2, b3, b4⟩ := m_findDown y1
  have hK2 := FrD_K b2 hK1
  have e70 : y2 70 = y1 70 := b2 70 (by decide) (by decide) (by decide) (by decide) (by decide)
  have e62 : y2 68 62 = z 68 62 := by rw [b2 68 (by decide) (by decide) (by decide) (by decide) (by decide), a2.k (k := 68) (by decide) (by decide) (by decide) (by decide) (by decide) (by decide)]
  obtain ⟨y3, q2, d1, d2, d3⟩ := m_fd_S (r := r) (N := jshl 1 (y2 68 62)) hK2 (by rw [e70]; exact b3) (by rw [e70]; exact b4) (by omega) rfl (jshl 1 (y2 68 62)).toNat 0 Zfuel (-9) y2 (by rw [e62]; omega) (by rw [e62]; unfold Zfuel; omega) (FrD.rf y2) rfl rfl (Or.inl ⟨rfl, fun s s0 s1 => by omega⟩)
  rw [e62, fS_fd b2, fS_fp a2] at d3
  have eq : q = q2 := isMinD_u a4 d3
  refine ⟨q, y1, y3, ?_, ?_, FrD_K d2 hK2, JN_1 (JN_fd (JN_fd hN1 b2) d2)⟩
  · unfold F_X10_drains X10_drains_b33
    rw [e_checkRange, Yb_some, r0, if_pos rfl, a1, Yb_some]
  · show F_X11_drains y1 r = _
    have d1 : X11_drains_L30 Zfuel y2 r (-9) 0 = some (q2, y3) := d1
    unfold F_X11_drains
    rw [e_out, Yb_some, r0, if_pos rfl, b1, Yb_some, d1, eq]
