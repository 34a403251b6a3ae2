/-! fire: the fewest lanes -/
theorem x_fl2_L {z : ZI} {r N : Int} {j : Nat} {k25 : ZI → Int → Int → Int → Option (Int × ZI)} (hH : JH z) (hX : JX z) (hN : 0 ≤ N ∧ N ≤ 1024) (hn : j ≤ 10) (hout : ∀ b q, (∀ s : Int, 0 ≤ s → s < N → holdS z s r → ((j + 1 : Nat) : Int) ≤ bmR s 31) → ∃ b2 q2 x, k25 (Ztwo z 57 58 b q) r N ((j + 1 : Nat) : Int) = some (x, Ztwo z 57 58 b2 q2) ∧ isMinD (fun s => holdS z s r) (fun s => bmR s 31) N x) : ∀ (n k fu : Nat) (b q : Int → Int), (k : Int) + n = N → n < fu → (∀ s : Int, 0 ≤ s → s < N → holdS z s r → (j : Int) ≤ bmR s 31) → (∀ s : Int, 0 ≤ s → s < k → holdS z s r → ((j + 1 : Nat) : Int) ≤ bmR s 31) → ∃ b2 q2 x, X2_fewestLanes_L37 k25 fu (Ztwo z 57 58 b q) r N j k = some (x, Ztwo z 57 58 b2 q2) ∧ isMinD (fun s => holdS z s r) (fun s => bmR s 31) N x := by
  intro n
  induction n with
  | zero =>
    intro k fu b q hk hf h1 h2
    obtain ⟨fu, rfl⟩ : ∃ g, fu = g + 1 := ⟨fu - 1, by omega⟩
    have e0 : X2_fewestLanes_L37 k25 (fu + 1) (Ztwo z 57 58 b q) r N j k = X2_fewestLanes_L37b k25 (X2_fewestLanes_L37 k25 fu) (Ztwo z 57 58 b q) r N j k := rfl
    rw [e0]
    unfold X2_fewestLanes_L37b X2_fewestLanes_b73
    rw [if_pos (by omega), Zgd_t (by omega), show (j : Int) + 1 = ((j + 1 : Nat) : Int) by omega]
    exact hout b q (fun s s0 s1 => h2 s s0 (by omega))
  | succ n ih =>
    intro k fu b q hk hf h1 h2
    obtain ⟨fu, rfl⟩ : ∃ g, fu = g + 1 := ⟨fu - 1, by omega⟩
    have e0 : X2_fewestLanes_L37 k25 (fu + 1) (Ztwo z 57 58 b q) r N j k = X2_fewestLanes_L37b k25 (X2_fewestLanes_L37 k25 fu) (Ztwo z 57 58 b q) r N j k := rfl
    have b67 : ∀ y, X2_fewestLanes_b67 k25 (X2_fewestLanes_L37 k25 fu) y r N j k = X2_fewestLanes_L37 k25 fu y r N j ((k + 1 : Nat) : Int) := by
      intro y
      unfold X2_fewestLanes_b67
      rw [Zgd_t (by omega), show (k : Int) + 1 = ((k + 1 : Nat) : Int) by omega]
    rw [e0]
    unfold X2_fewestLanes_L37b
    rw [if_neg (by omega), x_bits (by omega), Yb_some]
    by_cases c : bmR k 31 = j
    · obtain ⟨b2, q2, t, a1, a2, a3⟩ := x_holds (s := (k : Int)) (most := r) hH hX (b := b) (q := q)
      rw [if_pos c, a1, Yb_some]
      by_cases g : t = 0
      · rw [if_pos g, b67]
        refine ih (k + 1) fu b2 q2 (by omega) (by omega) h1 (fun s s0 s1 gs => ?_)
        by_cases e : s = k
        · rw [e] at gs
          have := a3.mpr gs
          omega
        · exact h2 s s0 (by omega) gs
      · rw [if_neg g]
        refine ⟨b2, q2, k, rfl, Or.inr ⟨by omega, by omega, a3.mp (a2.resolve_left g), fun s s0 s1 gs => ?_⟩⟩
        have q1 := h1 s s0 s1 gs
        show bmR k 31 < bmR s 31 ∨ (bmR k 31 = bmR s 31 ∧ (k : Int) ≤ s)
        by_cases e : s < k
        · have := h2 s s0 e gs
          omega
        · omega
    · rw [if_neg c, b67]
      refine ih (k + 1) fu b q (by omega) (by omega) h1 (fun s s0 s1 gs => ?_)
      by_cases e : s = k
      · have := h1 s s0 (by omega) gs
        rw [e] at this ⊢
        omega
      · exact h2 s s0 (by omega) gs
theorem x_fl1_L {z : ZI} {r N : Int} (hH : JH z) (hX : JX z) (hN : N = jshl 1 (z 68 70)) (hall : holdS z (N - 1) r) : ∀ (n j fu : Nat) (b q : Int → Int), (j : Int) + n = z 68 70 + 1 → n < fu → (∀ s : Int, 0 ≤ s → s < N → holdS z s r → (j : Int) ≤ bmR s 31) → ∃ b2 q2 x, X2_fewestLanes_L25 fu (Ztwo z 57 58 b q) r N j = some (x, Ztwo z 57 58 b2 q2) ∧ isMinD (fun s => holdS z s r) (fun s => bmR s 31) N x := by
  have d0 := hX.2.1
  have d1 := hX.2.2.1
  have sh := shl_1 (n := z 68 70) ⟨d0, by omega⟩
  intro n
  induction n with
  | zero =>
    intro j fu b q hj hf h1
    have q := h1 (N - 1) (by omega) (by omega) hall
    rw [hN, bm_all ⟨d0, by omega⟩] at q
    omega
  | succ n ih =>
    intro j fu b q hj hf h1
    obtain ⟨fu, rfl⟩ : ∃ g, fu = g + 1 := ⟨fu - 1, by omega⟩
    have e0 : X2_fewestLanes_L25 (fu + 1) (Ztwo z 57 58 b q) r N j = X2_fewestLanes_L25b (X2_fewestLanes_L25 fu) (Ztwo z 57 58 b q) r N j := rfl
    have e54 : z 54 0 = z 68 70 := hX.1
    rw [e0]
    unfold X2_fewestLanes_L25b
    rw [Ztwo_k (k := 54) (by decide) (by decide), e54, if_neg (by omega)]
    exact x_fl2_L hH hX (by omega) (by omega) (fun b q h => ih (j + 1) fu b q (by omega) (by omega) h) N.toNat 0 Zfuel b q (by omega) (by unfold Zfuel; omega) h1 (fun s s0 s1 => by omega)
theorem x_fewestL {z : ZI} {r : Int} (hH : JH z) (hX : JX z) : ∃ b q x, F_X2_fewestLanes z r = some (x, Ztwo z 57 58 b q) ∧ isMinD (fun s => holdS z s r) (fun s => bmR s 31) (jshl 1 (z 68 70)) x := by
  have d0 := hX.2.1
  have d1 := hX.2.2.1
  have sh := shl_1 (n := z 68 70) ⟨d0, by omega⟩
  obtain ⟨b1, q1, t, a1, a2, a3⟩ := x_holds (s := jshl 1 (z 68 70) - 1) (most := r) hH hX (b := z 57) (q := z 58)
  rw [Ztwo_z] at a1
  have e54 : z 54 0 = z 68 70 := hX.1
  unfold F_X2_fewestLanes
  rw [e54, Zgd_t (by omega), a1, Yb_some]
  by_cases c : t = 0
  · rw [if_pos c]
    refine ⟨b1, q1, -9, rfl, Or.inl ⟨rfl, fun s s0 s1 gs => ?_⟩⟩
    have := a3.mpr (hold_mono hH hX gs)
    omega
  · rw [if_neg c]
    exact x_fl1_L hH hX rfl (a3.mp (a2.resolve_left c)) (z 68 70 + 1).toNat 0 Zfuel b1 q1 (by omega) (by unfold Zfuel; omega) (fun s s0 s1 _ => (bmR_b (by omega) 31 (by decide)).1)
theorem holdS_fq {z z2 : ZI} (f : FrQ z z2) (s r : Int) : holdS z2 s r = holdS z s r := by
  rw [f.eq]
  rfl
theorem m_fl_S {z : ZI} {r N : Int} (hK : K z) (hr : 1 ≤ r) (hN : N = jshl 1 (z 68 70)) : ∀ (n k fu : Nat) (q : Int) (y : ZI), (k : Int) + n = N → n < fu → FrQ z y → isMinD (fun s => holdS z s r) (fun s => bmR s 31) k q → ∃ y2 q2, X11_lanes_L46 fu y r q k = some (q2, y2) ∧ FrQ z y2 ∧ isMinD (fun s => holdS z s r) (fun s => bmR s 31) N q2 := by
  have hX := K_X hK
  have d0 := hX.2.1
  have d1 := hX.2.2.1
  have sh := shl_1 (n := z 68 70) ⟨d0, by omega⟩
  intro n
  induction n with
  | zero =>
    intro k fu q y hk hf fr hm
    obtain ⟨fu, rfl⟩ : ∃ g, fu = g + 1 := ⟨fu - 1, by omega⟩
    have y70 : y 68 70 = z 68 70 := by rw [fr 68 (by decide) (by decide) (by decide) (by decide) (by decide)]
    have e0 : X11_lanes_L46 (fu + 1) y r q k = X11_lanes_L46b (X11_lanes_L46 fu) y r q k := rfl
    refine ⟨y, q, ?_, fr, by rw [show N = (k : Int) by omega]; exact hm⟩
    rw [e0]
    unfold X11_lanes_L46b
    rw [y70, if_pos (by omega)]
  | succ n ih =>
    intro k fu q y hk hf fr hm
    obtain ⟨fu, rfl⟩ : ∃ g, fu = g + 1 := ⟨fu - 1, by omega⟩
    have y70 : y 68 70 = z 68 70 := by rw [fr 68 (by decide) (by decide) (by decide) (by decide) (by decide)]
    have hKy := FrQ_K fr hK
    have e0 : X11_lanes_L46 (fu + 1) y r q k = X11_lanes_L46b (X11_lanes_L46 fu) y r q k := rfl
    have b89 : ∀ y q, X11_lanes_b89 (X11_lanes_L46 fu) y r q k = X11_lanes_L46 fu y r q ((k + 1 : Nat) : Int) := by
      intro y q
      unfold X11_lanes_b89
      rw [Zgd_t (by omega), show (k : Int) + 1 = ((k + 1 : Nat) : Int) by omega]
    have test : (q < 0 ∨ bmR k 31 < bmR q 31) → ∃ y2 q2, X11_lanes_b75 (X11_lanes_L46 fu) y r q k = some (q2, y2) ∧ FrQ z y2 ∧ isMinD (fun s => holdS z s r) (fun s => bmR s 31) N q2 := by
      intro hq
      obtain ⟨y1, t, a1, a2, a3, a4⟩ := m_holds (z := y) (s := (k : Int)) (most := r) (K_H hKy) (K_X hKy) hr
      rw [holdS_fq fr] at a4
      unfold X11_lanes_b75
      rw [a1, Yb_some]
      by_cases g : t = 0
      · rw [if_pos g, b89]
        exact ih (k + 1) fu q y1 (by omega) (by omega) (fr.tr a2) (by
          rw [show ((k + 1 : Nat) : Int) = (k : Int) + 1 by omega]
          exact isMinD_f hm (Or.inl (fun gs => by
            have := a4.mpr gs
            omega)))
      · rw [if_neg g, b89]
        exact ih (k + 1) fu k y1 (by omega) (by omega) (fr.tr a2) (by
          rw [show ((k + 1 : Nat) : Int) = (k : Int) + 1 by omega]
          exact isMinD_t hm (by omega) (a4.mp (a3.resolve_left g)) hq)
    rw [e0]
    unfold X11_lanes_L46b
    rw [y70, if_neg (by omega)]
    by_cases c : q < 0
    · rw [if_pos c]
      exact test (Or.inl c)
    · have qb : q < k := by
        rcases hm with m | m
        · omega
        · exact m.2.1
      rw [if_neg c, m_bits (by omega), Yb_some, m_bits (by omega), Yb_some]
      by_cases c2 : bmR q 31 ≤ bmR k 31
      · rw [if_pos c2, b89]
        exact ih (k + 1) fu q y (by omega) (by omega) fr (by
          rw [show ((k + 1 : Nat) : Int) = (k : Int) + 1 by omega]
          exact isMinD_f hm (Or.inr ⟨by omega, c2⟩))
      · rw [if_neg c2]
        exact test (Or.inr (by omega))
theorem K_57 {z : ZI} {b q : Int → Int} (h : K z) : K (Ztwo z 57 58 b q) := by
  obtain ⟨hD, hH, hP, hS, hL, hT, hE, hV, hA, hU, hC, hK, hW, hB, hG, hX, hQ, hO⟩ := h
  exact ⟨(JD_c rfl rfl hD), (JH_c rfl rfl rfl rfl rfl rfl rfl hH), (JP_c rfl rfl rfl rfl rfl rfl rfl rfl rfl rfl rfl rfl hP), (JS_c rfl rfl rfl rfl rfl rfl rfl rfl rfl rfl rfl hS), (JL_c rfl rfl hL), (JT_c rfl rfl rfl rfl rfl hT), (JE_c rfl rfl rfl rfl hE), (JV_c rfl rfl rfl rfl hV), (JA_c rfl rfl rfl rfl hA), (JU_c rfl rfl rfl rfl rfl rfl rfl rfl rfl rfl hU), (JC_c rfl rfl rfl rfl rfl rfl rfl rfl rfl rfl hC), (JK_c rfl rfl rfl rfl rfl rfl rfl rfl rfl hK), (JW_c rfl rfl rfl rfl rfl rfl rfl rfl rfl rfl hW), (JB_c rfl rfl rfl rfl rfl rfl rfl rfl rfl rfl rfl rfl rfl rfl rfl rfl rfl rfl rfl rfl hB), (JG_c rfl rfl rfl rfl rfl hG), (JX_c rfl rfl rfl rfl rfl hX), (JQ_c rfl rfl rfl rfl rfl hQ), (JO_c rfl rfl rfl rfl rfl rfl rfl rfl rfl rfl rfl hO)⟩
set_option maxHeartbeats 400000 in
theorem t_lanes {n : Int} {z : ZI} (hK : K z) (hN : JN n z) (hn : n ≤ 1000) (w r : Int) : Both (F_X10_lanes z w r) (fun z1 => F_X11_lanes z1 w r) (fun z2 => K z2 ∧ JN (n + 1) z2) := by
  have hR := hN.R hn
  have hl := links hK
  have hK0 := hK
  obtain ⟨hD, hH, hP, hS, hL, hT, hE, hV, hA, hU, hC, hK, hW, hB, hG, hX, hQ, hO⟩ := hK
  by_cases c1 : ¬ (0 ≤ w ∧ w ≤ 3)
  · refine Both_ref hK0 hN (w := -2) hn (by omega) ?_ ?_
    · unfold F_X10_lanes X10_lanes_b46
      grind (gen := 20) [Yb_some, Zgd_i, Zl_eq, bi, e_refuse, e_isWind, e_checkRange, rng]
    · show F_X11_lanes (zR z (-2)) w r = _
      unfold F_X11_lanes 
      grind (gen := 20) [Yb_some, Zgd_i, Zl_eq, bi, zR_d, zR_k, e_no, e_isIn, e_out, rng]
  by_cases c2 : r < 1
  · refine Both_ref hK0 hN (w := -4) hn (by omega) ?_ ?_
    · unfold F_X10_lanes X10_lanes_b46
      grind (gen := 20) [Yb_some, Zgd_i, Zl_eq, bi, e_refuse, e_isWind, e_checkRange, rng]
    · show F_X11_lanes (zR z (-4)) w r = _
      unfold F_X11_lanes 
      grind (gen := 20) [Yb_some, Zgd_i, Zl_eq, bi, zR_d, zR_k, e_no, e_isIn, e_out, rng]
  by_cases c3 : 30 < r
  · refine Both_ref hK0 hN (w := -6) hn (by omega) ?_ ?_
    · unfold F_X10_lanes X10_lanes_b46
      grind (gen := 20) [Yb_some, Zgd_i, Zl_eq, bi, e_refuse, e_isWind, e_checkRange, rng]
    · show F_X11_lanes (zR z (-6)) w r = _
      unfold F_X11_lanes 
      grind (gen := 20) [Yb_some, Zgd_i, Zl_eq, bi, zR_d, zR_k, e_no, e_isIn, e_out, rng]
  have r0 : rng r 1 30 = 0 := by unfold rng; rw [if_neg (by omega), if_neg (by omega)]
  have sh := shl_1 (n := z 68 70) (by omega)
  obtain ⟨b, q, x, a1, a2⟩ := x_fewestL (r := r) hH hX
  have hK1 := K_57 (b := b) (q := q) hK0
  obtain ⟨y2, q2, d1, d2, d3⟩ := m_fl_S (r := r) (N := jshl 1 (z 68 70)) hK1 (by omega) rfl (jshl 1 (z 68 70)).toNat 0 Zfuel (-9) (Ztwo z 57 58 b q) (by omega) (by unfold Zfuel; omega) (FrQ.rf _) (Or.inl ⟨rfl, fun s s0 s1 => by omega⟩)
  have d3 : isMinD (fun s => holdS z s r) (fun s => bmR s 31) (jshl 1 (z 68 70)) q2 := d3
  have eq : x = q2 := isMinD_u a2 d3
  refine ⟨x, Ztwo z 57 58 b q, y2, ?_, ?_, FrQ_K d2 hK1, JN_fq (JN_up hN rfl rfl : JN (n + 1) (Ztwo z 57 58 b q)) d2⟩
  · unfold F_X10_lanes X10_lanes_b46
    rw [e_isWind, Yb_some, bi_t (by omega), if_neg (by decide), e_checkRange, Yb_some, r0, if_pos rfl, a1, Yb_some]
  · show F_X11_lanes (Ztwo z 57 58 b q) w r = _
    have d1 : X11_lanes_L46 Zfuel (Ztwo z 57 58 b q) r (-9) 0 = some (q2, y2) := d1
    unfold F_X11_lanes
    rw [e_isIn, Yb_some, bi_t (by omega), if_neg (by decide), e_out, Yb_some, r0, if_pos rfl, d1, eq]
