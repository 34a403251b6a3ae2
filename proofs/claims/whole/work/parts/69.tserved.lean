/-! wells: served -/
theorem catL_nth (go nd : Int → Int) (n v : Nat) {i : Nat} (hi : i < (catL go nd n v).length) : ∀ k : Nat, nth (catL go nd n (v + k)) i = nth (catL go nd n v) i ∧ i < (catL go nd n (v + k)).length
  | 0 => ⟨rfl, hi⟩
  | k + 1 => by
    obtain ⟨a, b⟩ := catL_nth go nd n v hi k
    have e : catL go nd n (v + (k + 1)) = catL go nd n (v + k) ++ lineR go nd ((v + k : Nat) : Int) n := rfl
    rw [e, nth_l _ b, List.length_append]
    exact ⟨a, by omega⟩
def DRn (y : ZI) (n W : Nat) (bl nd go yi de : Int → Int) : Prop := n ≤ 30 ∧ W ≤ 6 ∧ y 68 12 = n ∧ y 68 47 = W ∧ (∀ h : Int, 0 ≤ h → h < n → y 99 h = nd h ∧ y 72 h = bl h ∧ 0 ≤ bl h ∧ bl h ≤ 3) ∧ (∀ h, 0 ≤ nd h ∧ nd h ≤ 300) ∧ (∀ w : Int, 0 ≤ w → w < W → y 96 w = yi w ∧ 1 ≤ yi w ∧ yi w ≤ 99 ∧ y 97 w = de w ∧ 0 ≤ de w ∧ de w ≤ 9999) ∧ (∀ j : Nat, j < (catL go nd n W).length → y 105 j = nth (catL go nd n W) j) ∧ (∀ v : Nat, v < W → y 106 v = ((catL go nd n (v + 1)).length : Nat))
section
variable {y : ZI} {n W : Nat} {bl nd go yi de bg : Int → Int} {a1 : Nat}
theorem m_drawsAt (h1 : a1 ≠ 101) (h2 : a1 ≠ 102) (hbg : ∀ b : Int, 0 ≤ b → b ≤ 3 → y a1 b = bg b) (hy : DRn y n W bl nd go yi de) {w : Nat} (hw : w < W) {H S : Int → Int} (h0 : ∀ h ∈ lineR go nd w n, H h = 0 ∧ S h = -9) : ∃ H2 S2, F_X11_drawsAt a1 4 (Ztwo y 101 102 H S) w = some ((), Ztwo y 101 102 H2 S2) ∧ (∀ h ∈ lineR go nd w n, S2 h = srvW bl bg nd go yi de n w h) ∧ (∀ x, x ∉ lineR go nd w n → H2 x = H x ∧ S2 x = S x) := by
  obtain ⟨y1, y2, y3, y4, y5, y6, y7, y8, y9⟩ := hy
  have q := y7 w (by omega) (by omega)
  have e6 := y9 w hw
  have es : (catL go nd n (w + 1)).length = (catL go nd n w).length + (lineR go nd w n).length := by rw [catL_s, List.length_append]
  have len := cat_len go nd n w n (Nat.le_refl _)
  rw [List.length_append] at len
  have mem := lineR_mem go nd w n
  have dc : DCn y (lineR go nd w n) bl nd w ((catL go nd n w).length : Nat) := by
    refine ⟨by omega, by omega, by omega, by omega, by omega, fun j hj => ?_, fun h hh => ?_⟩
    · have c := catL_nth go nd n (w + 1) (i := (catL go nd n w).length + j) (by omega) (W - (w + 1))
      rw [show w + 1 + (W - (w + 1)) = W by omega] at c
      rw [show ((catL go nd n w).length : Int) + j = (((catL go nd n w).length + j : Nat) : Int) by omega, y8 _ c.2, c.1, catL_s, nth_r]
    · have m := (mem h).mp hh
      have p := y5 h m.1 m.2.1
      exact ⟨m.1, by omega, p.1, p.2.1, p.2.2.1, p.2.2.2⟩
  obtain ⟨H2, S2, i1, i2, i3⟩ := m_dday_L h1 h2 hbg dc (lineR_d go nd w n) y6 q.1 ⟨q.2.1, q.2.2.1⟩ 20 Zfuel (de w) nd (fun _ => -9) H S (Nat.le_refl _) (by unfold Zfuel; omega) (fun h hh => by
    have := h0 h hh
    exact ⟨by omega, this.2⟩) q.2.2.2.2.1 q.2.2.2.2.2 y6
  rw [lackN_all (fun h hh => ((mem h).mp hh).2.2.2)] at i1
  have i1 : X11_drawsAt_L39 a1 4 Zfuel (Ztwo y 101 102 H S) w (de w) ((catL go nd n w).length : Nat) ((lineR go nd w n).length : Nat) 4 = some ((), Ztwo y 101 102 H2 S2) := i1
  refine ⟨H2, S2, ?_, i2, i3⟩
  have b23 : X11_drawsAt_b23 a1 4 (Ztwo y 101 102 H S) w (de w) ((catL go nd n w).length : Nat) = some ((), Ztwo y 101 102 H2 S2) := by
    unfold X11_drawsAt_b23
    rw [Zgd_t (by omega), Ztwo_k (k := 106) (by decide) (by decide), e6, Zgd_t (by omega), show ((catL go nd n (w + 1)).length : Int) - (catL go nd n w).length = ((lineR go nd w n).length : Nat) by omega]
    exact i1
  unfold F_X11_drawsAt
  rw [Zgd_t (by omega), Ztwo_k (k := 97) (by decide) (by decide), q.2.2.2.1]
  by_cases c : w = 0
  · have e0 : ((catL go nd n w).length : Int) = 0 := by rw [c]; rfl
    rw [e0] at b23
    rw [if_pos (by omega)]
    exact b23
  · have e5 := y9 (w - 1) (by omega)
    rw [show w - 1 + 1 = w by omega] at e5
    rw [if_neg (by omega), Zgd_t (by omega), Zgd_t (by omega), Ztwo_k (k := 106) (by decide) (by decide), show (w : Int) - 1 = ((w - 1 : Nat) : Int) by omega, e5]
    exact b23
theorem m_draw1_L (h1 : a1 ≠ 101) (h2 : a1 ≠ 102) (hbg : ∀ b : Int, 0 ≤ b → b ≤ 3 → y a1 b = bg b) (hy : DRn y n W bl nd go yi de) : ∀ (m w fu : Nat) (H S : Int → Int), w + m = W → m < fu → (∀ h : Int, 0 ≤ h → h < n → (nd h ≠ 0 → ((w : Int) ≤ go h → H h = 0)) ∧ S h = if nd h = 0 then bg (bl h) else if go h < 0 then -9 else if go h < w then srvW bl bg nd go yi de n (go h) h else -9) → ∃ H2 S2, X11_draws_L53 a1 4 fu (Ztwo y 101 102 H S) w = some ((), Ztwo y 101 102 H2 S2) ∧ (∀ h : Int, 0 ≤ h → h < n → go h < W → S2 h = srvH bl bg nd go yi de n h) := by
  intro m
  induction m with
  | zero =>
    intro w fu H S hk hf h
    obtain ⟨fu, rfl⟩ : ∃ g, fu = g + 1 := ⟨fu - 1, by omega⟩
    obtain rfl : w = W := by omega
    refine ⟨H, S, ?_, fun x x0 x1 xg => ?_⟩
    · show X11_draws_L53b a1 4 (X11_draws_L53 a1 4 fu) _ _ = _
      unfold X11_draws_L53b
      rw [Ztwo_k (k := 68) (by decide) (by decide), hy.2.2.2.1, if_pos (Int.le_refl _)]
    · rw [(h x x0 x1).2, if_pos xg]
      rfl
  | succ m ih =>
    intro w fu H S hk hf h
    obtain ⟨fu, rfl⟩ : ∃ g, fu = g + 1 := ⟨fu - 1, by omega⟩
    have hW6 := hy.2.1
    have mem := lineR_mem go nd w n
    obtain ⟨H2, S2, i1, i2, i3⟩ := m_drawsAt h1 h2 hbg hy (w := w) (by omega) (H := H) (S := S) (fun x hx => by
      have q := (mem x).mp hx
      have p := h x q.1 q.2.1
      refine ⟨p.1 q.2.2.2 (by omega), ?_⟩
      rw [p.2, if_neg q.2.2.2, if_neg (by omega), if_neg (by omega)])
    have e0 : X11_draws_L53 a1 4 (fu + 1) (Ztwo y 101 102 H S) w = X11_draws_L53b a1 4 (X11_draws_L53 a1 4 fu) (Ztwo y 101 102 H S) w := rfl
    rw [e0]
    unfold X11_draws_L53b
    rw [Ztwo_k (k := 68) (by decide) (by decide), hy.2.2.2.1, if_neg (by omega), i1, Yb_some, Zgd_t (by omega), show (w : Int) + 1 = ((w + 1 : Nat) : Int) by omega]
    refine ih (w + 1) fu H2 S2 (by omega) (by omega) (fun x x0 x1 => ?_)
    have p := h x x0 x1
    by_cases c : x ∈ lineR go nd w n
    · have q := (mem x).mp c
      refine ⟨fun _ g => by omega, ?_⟩
      rw [i2 x c, if_neg q.2.2.2, if_neg (by omega), if_pos (by omega), q.2.2.1]
    · have f := i3 x c
      refine ⟨fun n0 g => by rw [f.1]; exact p.1 n0 (by omega), ?_⟩
      rw [f.2, p.2]
      by_cases c1 : nd x = 0
      · rw [if_pos c1, if_pos c1]
      · rw [if_neg c1, if_neg c1]
        by_cases c2 : go x < 0
        · rw [if_pos c2, if_pos c2]
        · have ne : go x ≠ w := fun e => c ((mem x).mpr ⟨x0, x1, e, c1⟩)
          rw [if_neg c2, if_neg c2]
          by_cases c3 : go x < w
          · rw [if_pos c3, if_pos (by omega)]
          · rw [if_neg c3, if_neg (by omega)]
theorem m_draw0_L (h1 : a1 ≠ 101) (h2 : a1 ≠ 102) (hbg : ∀ b : Int, 0 ≤ b → b ≤ 3 → y a1 b = bg b) (hy : DRn y n W bl nd go yi de) : ∀ (m k fu : Nat) (H S : Int → Int), k + m = n → m < fu → (∀ h : Int, 0 ≤ h → h < k → H h = 0 ∧ S h = if nd h = 0 then bg (bl h) else -9) → ∃ H2 S2, X11_draws_L2 a1 4 fu (Ztwo y 101 102 H S) k = X11_draws_b51 a1 4 (Ztwo y 101 102 H2 S2) ∧ (∀ h : Int, 0 ≤ h → h < n → H2 h = 0 ∧ S2 h = if nd h = 0 then bg (bl h) else -9) := by
  obtain ⟨y1, y2, y3, y4, y5, y6, y7, y8, y9⟩ := hy
  intro m
  induction m with
  | zero =>
    intro k fu H S hk hf h
    obtain ⟨fu, rfl⟩ : ∃ g, fu = g + 1 := ⟨fu - 1, by omega⟩
    obtain rfl : k = n := by omega
    refine ⟨H, S, ?_, h⟩
    show X11_draws_L2b a1 4 (X11_draws_L2 a1 4 fu) _ _ = _
    unfold X11_draws_L2b
    rw [Ztwo_k (k := 68) (by decide) (by decide), y3, if_pos (Int.le_refl _)]
  | succ m ih =>
    intro k fu H S hk hf h
    obtain ⟨fu, rfl⟩ : ∃ g, fu = g + 1 := ⟨fu - 1, by omega⟩
    have q := y5 k (by omega) (by omega)
    have e0 : X11_draws_L2 a1 4 (fu + 1) (Ztwo y 101 102 H S) k = X11_draws_L2b a1 4 (X11_draws_L2 a1 4 fu) (Ztwo y 101 102 H S) k := rfl
    have st : ∀ v : Int, (v = if nd k = 0 then bg (bl k) else -9) → ∃ H2 S2, X11_draws_b44 a1 4 (X11_draws_L2 a1 4 fu) (Ztwo y 101 102 (fupd H k 0) S) k k v = X11_draws_b51 a1 4 (Ztwo y 101 102 H2 S2) ∧ (∀ h : Int, 0 ≤ h → h < n → H2 h = 0 ∧ S2 h = if nd h = 0 then bg (bl h) else -9) := by
      intro v hv
      unfold X11_draws_b44
      rw [Zgd_t (by omega), Zl_eq, Ztwo_ub (by decide), Zgd_t (by omega), show (k : Int) + 1 = ((k + 1 : Nat) : Int) by omega]
      refine ih (k + 1) fu _ _ (by omega) (by omega) (fun x x0 x1 => ?_)
      by_cases e : x = k
      · have e1 : fupd H k 0 x = 0 := if_pos e
        have e2 : fupd S k v x = v := if_pos e
        rw [e1, e2, hv, e]
        exact ⟨rfl, rfl⟩
      · have e1 : fupd H k 0 x = H x := if_neg e
        have e2 : fupd S k v x = S x := if_neg e
        rw [e1, e2]
        exact h x x0 (by omega)
    rw [e0]
    unfold X11_draws_L2b
    rw [Ztwo_k (k := 68) (by decide) (by decide), y3, if_neg (by omega), Zgd_t (by omega), Zl_eq, Ztwo_ua, Zgd_t (by omega), Ztwo_k (k := 99) (by decide) (by decide), q.1]
    by_cases c : nd k = 0
    · rw [if_pos c, Zgd_t (by omega), Ztwo_k (k := 72) (by decide) (by decide), q.2.1, Zgd_t (by omega), Ztwo_k (k := a1) h1 h2, hbg _ q.2.2.1 q.2.2.2]
      exact st _ (if_pos c).symm
    · rw [if_neg c]
      exact st _ (if_neg c).symm
theorem m_draws (h1 : a1 ≠ 101) (h2 : a1 ≠ 102) (hbg : ∀ b : Int, 0 ≤ b → b ≤ 3 → y a1 b = bg b) (hy : DRn y n W bl nd go yi de) (hgo : ∀ h : Int, 0 ≤ h → h < n → go h < W) : ∃ H S, F_X11_draws a1 4 y = some ((), Ztwo y 101 102 H S) ∧ (∀ h : Int, 0 ≤ h → h < n → S h = srvH bl bg nd go yi de n h) := by
  have h30 := hy.1
  have hW6 := hy.2.1
  obtain ⟨H1, S1, a, b⟩ := m_draw0_L h1 h2 hbg hy n 0 Zfuel (y 101) (y 102) (by omega) (by unfold Zfuel; omega) (fun h q0 q1 => by omega)
  have a : F_X11_draws a1 4 (Ztwo y 101 102 (y 101) (y 102)) = X11_draws_b51 a1 4 (Ztwo y 101 102 H1 S1) := a
  rw [Ztwo_z] at a
  obtain ⟨H2, S2, c, d⟩ := m_draw1_L h1 h2 hbg hy W 0 Zfuel H1 S1 (by omega) (by unfold Zfuel; omega) (fun h q0 q1 => by
    have p := b h q0 q1
    refine ⟨fun _ _ => p.1, ?_⟩
    rw [p.2]
    by_cases c1 : nd h = 0
    · rw [if_pos c1, if_pos c1]
    · rw [if_neg c1, if_neg c1]
      by_cases c2 : go h < 0
      · rw [if_pos c2]
      · rw [if_neg c2, if_neg (by omega)])
  have c : X11_draws_b51 a1 4 (Ztwo y 101 102 H1 S1) = some ((), Ztwo y 101 102 H2 S2) := c
  exact ⟨H2, S2, by rw [a, c], fun h q0 q1 => d h q0 q1 (hgo h q0 q1)⟩
end
/-- needs and drawers found -/
theorem m_found {z : ZI} (hK : K z) {y : ZI} (fr : FrV z y) (e : ∀ h : Int, 0 ≤ h → h < z 68 12 → y 99 h = needF z h ∧ y 100 h = goesF z h) : ∃ y2, F_X11_findDrawers y = some ((), y2) ∧ FrV z y2 ∧ (∀ h : Int, 0 ≤ h → h < z 68 12 → y2 99 h = needF z h ∧ y2 100 h = goesF z h) ∧ DRn y2 (z 68 12).toNat (z 68 47).toNat (z 72) (needF z) (goesF z) (z 96) (z 97) := by
  have hH := K_H hK
  have hW := K_W hK
  have h30 := hH.2.1
  have h0 := hH.1
  have w0 := hW.2.1
  have w6 := hW.2.2.1
  have y68 : y 68 = z 68 := fr 68 (by decide) (by decide) (by decide) (by decide) (by decide) (by decide) (by decide)
  have n12 : y 68 12 = ((z 68 12).toNat : Int) := by
    rw [y68]
    show z 68 12 = _
    omega
  have n47 : y 68 47 = ((z 68 47).toNat : Int) := by
    rw [y68]
    show z 68 47 = _
    omega
  obtain ⟨D, E, a, b, c⟩ := m_drw_L (n := (z 68 12).toNat) (W := (z 68 47).toNat) (go := goesF z) (nd := needF z) (by omega) (by omega) n12 n47 (fun h q0 q1 => (e h q0 (by omega)).1) (fun h q0 q1 => (e h q0 (by omega)).2) (z 68 47).toNat 0 Zfuel (y 105) (y 106) (by omega) (by unfold Zfuel; omega) (fun j hj => absurd hj (by simp [catL])) (fun v hv => by omega)
  have a : F_X11_findDrawers (Ztwo y 105 106 (y 105) (y 106)) = some ((), Ztwo y 105 106 D E) := a
  rw [Ztwo_z] at a
  have fr2 : FrV z (Ztwo y 105 106 D E) := fr.tr (FrV_2 (by decide) (by decide))
  have ek : ∀ k, k ≠ 99 → k ≠ 100 → k ≠ 101 → k ≠ 102 → k ≠ 103 → k ≠ 105 → k ≠ 106 → (Ztwo y 105 106 D E) k = z k := fr2
  refine ⟨_, a, fr2, e, by omega, by omega, n12, n47, fun h q0 q1 => ?_, needF_b (K_P hK), fun w q0 q1 => ?_, fun j hj => by rw [Ztwo_a]; exact b j hj, fun v hv => by rw [Ztwo_b (by decide)]; exact c v hv⟩
  · have q := hH.2.2.2.1 h q0 (by omega)
    rw [ek 72 (by decide) (by decide) (by decide) (by decide) (by decide) (by decide) (by decide)]
    exact ⟨(e h q0 (by omega)).1, rfl, q.2.2.2.2.1, q.2.2.2.2.2⟩
  · have q := hW.2.2.2.1 w q0 (by omega)
    rw [ek 96 (by decide) (by decide) (by decide) (by decide) (by decide) (by decide) (by decide), ek 97 (by decide) (by decide) (by decide) (by decide) (by decide) (by decide) (by decide)]
    exact ⟨rfl, q.2.2.2.2.1, q.2.2.2.2.2.1, rfl, by omega, q.2.2.2.2.2.2.2.2⟩
theorem sV_fz {z z2 : ZI} (f : FrZ z z2) (bg : Int → Int) (h : Int) : sV z2 bg h = sV z bg h := by
  rw [f.eq]
  rfl
set_option maxHeartbeats 400000 in
theorem t_served {n : Int} {z : ZI} (hK : K z) (hN : JN n z) (hn : n ≤ 1000) (h : Int) : Both (F_X10_served z h) (fun z1 => F_X11_served z1 h) (fun z2 => K z2 ∧ JN (n + 1) z2) := by
  have hR := hN.R hn
  have hl := links hK
  have hK0 := hK
  obtain ⟨hD, hH, hP, hS, hL, hT, hE, hV, hA, hU, hC, hK, hW, hB, hG, hX, hQ, hO⟩ := hK
  by_cases c1 : ¬ (0 ≤ h ∧ h < z 68 12)
  · refine Both_ref hK0 hN (w := -1) hn (by omega) ?_ ?_
    · unfold F_X10_served X10_served_b35
      grind (gen := 20) [Yb_some, Zgd_i, Zl_eq, bi, e_refuse, e_hasHouse]
    · show F_X11_served (zR z (-1)) h = _
      unfold F_X11_served 
      grind (gen := 20) [Yb_some, Zgd_i, Zl_eq, bi, zR_d, zR_k, e_no, e_isHouse]
  obtain ⟨y1, a1, a2⟩ := x_hourOf (h := h) hK0 (by omega)
  have hK1 := FrZ_K a2 hK0
  have hN1 := JN_fz hN a2
  have e68 : y1 68 = z 68 := a2.k (by decide) (by decide) (by decide) (by decide) (by decide) (by decide)
  have e98 : y1 98 = z 98 := a2.k (by decide) (by decide) (by decide) (by decide) (by decide) (by decide)
  obtain ⟨y2, b1, b2, b3⟩ := m_findNeeds hK1
  obtain ⟨y3, c1, c2, c3, c4⟩ := m_found hK1 b2 b3
  have hH1 := K_H hK1
  have hW1 := K_W hK1
  obtain ⟨H, S, d1, d2⟩ := m_draws (a1 := 98) (bg := y1 98) (by decide) (by decide) (fun b q0 q1 => by rw [c2 98 (by decide) (by decide) (by decide) (by decide) (by decide) (by decide) (by decide)]) c4 (fun x x0 x1 => by
    have := goesF_r hW1 x
    have := hW1.2.1
    omega)
  have ev : S h = sV z (z 98) h := by
    have q := d2 h (by omega) (by
      have e : y1 68 12 = z 68 12 := by rw [e68]
      omega)
    rw [q, ← e98]
    exact sV_fz a2 (y1 98) h
  refine ⟨sV z (z 98) h, y1, Ztwo y3 101 102 H S, ?_, ?_, FrV_K (c2.tr (FrV_2 (by decide) (by decide))) hK1, JN_1 (JN_fv hN1 (c2.tr (FrV_2 (by decide) (by decide))))⟩
  · unfold F_X10_served X10_served_b35
    rw [e_hasHouse, Yb_some, bi_t (by omega), if_neg (by decide), hD.1, a1, Yb_some]
  · show F_X11_served y1 h = _
    unfold F_X11_served
    rw [e_isHouse, e68, Yb_some, bi_t (by omega), if_neg (by decide), b1, Yb_some, c1, Yb_some, d1, Yb_some, Zgd_t (by omega), Ztwo_b (by decide), ev]
