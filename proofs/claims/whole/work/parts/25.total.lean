theorem w32_10 {w : Int} (hw : InR w) : (11 ≤ w ∧ w ≤ 16 ∧ w32 (w - 10) = w - 10) ∨ (¬ (11 ≤ w ∧ w ≤ 16) ∧ (w32 (w - 10) < 1 ∨ 7 ≤ w32 (w - 10))) := by
  rcases Int.lt_or_le w (-2147483638) with h | h
  · right
    refine ⟨by omega, Or.inr ?_⟩
    have e : w32 (w - 10) = w - 10 + 4294967296 := by
      have e1 : i32 (w - 10) = i32 (w - 10 + 4294967296) := by
        rw [← i32_add]
        have : i32 4294967296 = 0 := by decide
        rw [this]
        simp
      unfold w32
      rw [e1]
      exact i32_toInt ⟨by omega, by omega⟩
    omega
  · rw [w32_id (by omega)]
    omega
def neR (ce : Int → Int) : Nat → Int
  | 0 => 0
  | n + 1 => neR ce n + (if ce n < 0 then 1 else 0)
theorem neR_s (ce : Int → Int) (n : Nat) : neR ce (n + 1) = neR ce n + (if ce n < 0 then 1 else 0) := rfl
theorem neR_b (ce : Int → Int) : ∀ n : Nat, 0 ≤ neR ce n ∧ neR ce n ≤ n
  | 0 => ⟨Int.le_refl _, Int.le_refl _⟩
  | n + 1 => by
    have := neR_b ce n
    rw [neR_s]
    split <;> omega
theorem x_ne_L {z : ZI} (hC : JC z) (h4 : z 33 0 = z 68 34) (h5 : 0 ≤ z 68 34 ∧ z 68 34 ≤ 40) : ∀ (n k f : Nat), k + n = (z 68 34).toNat → n < f → X0_notEnded_L4 f z (neR (z 90) k) (k : Int) = some (neR (z 90) (z 68 34).toNat, z) := by
  intro n
  induction n with
  | zero =>
    intro k f hk hf
    obtain ⟨f, rfl⟩ : ∃ g, f = g + 1 := ⟨f - 1, by omega⟩
    show X0_notEnded_L4b (X0_notEnded_L4 f) z (neR (z 90) k) (k : Int) = _
    unfold X0_notEnded_L4b X0_notEnded_b26
    have hb := neR_b (z 90) k; have hs := neR_s (z 90) k; have hc := hC.2.2.2 k
    grind [Zgd_i]
  | succ n ih =>
    intro k f hk hf
    obtain ⟨f, rfl⟩ : ∃ g, f = g + 1 := ⟨f - 1, by omega⟩
    have e := ih (k + 1) f (by omega) (by omega)
    clear ih
    show X0_notEnded_L4b (X0_notEnded_L4 f) z (neR (z 90) k) (k : Int) = _
    unfold X0_notEnded_L4b X0_notEnded_b26
    have hb := neR_b (z 90) k; have hs := neR_s (z 90) k; have hc := hC.2.2.2 k
    grind [Zgd_i]
theorem m_ne_L {z : ZI} (h5 : 0 ≤ z 68 34 ∧ z 68 34 ≤ 40) : ∀ (n k f : Nat), k + n = (z 68 34).toNat → n < f → X11_total_L139 f z (neR (z 90) k) (k : Int) = some (neR (z 90) (z 68 34).toNat, z) := by
  intro n
  induction n with
  | zero =>
    intro k f hk hf
    obtain ⟨f, rfl⟩ : ∃ g, f = g + 1 := ⟨f - 1, by omega⟩
    show X11_total_L139b (X11_total_L139 f) z (neR (z 90) k) (k : Int) = _
    unfold X11_total_L139b X11_total_b162
    have hb := neR_b (z 90) k; have hs := neR_s (z 90) k
    grind [Zgd_i]
  | succ n ih =>
    intro k f hk hf
    obtain ⟨f, rfl⟩ : ∃ g, f = g + 1 := ⟨f - 1, by omega⟩
    have e := ih (k + 1) f (by omega) (by omega)
    clear ih
    show X11_total_L139b (X11_total_L139 f) z (neR (z 90) k) (k : Int) = _
    unfold X11_total_L139b X11_total_b162
    have hb := neR_b (z 90) k; have hs := neR_s (z 90) k
    grind [Zgd_i]
set_option maxHeartbeats 1000000 in
theorem t_total {n : Int} {z : ZI} (hK : K z) (hN : JN n z) (hn : n ≤ 1000) (w : Int) (hw : InR w) : Both (F_X10_total z w) (fun z1 => F_X11_total z1 w) (fun z2 => K z2 ∧ JN (n + 1) z2) := by
  have hl := links hK
  have hK0 := hK
  obtain ⟨hD, hH, hP, hS, hL, hT, hE, hV, hA, hU, hC, hK, hW, hB, hG, hX, hQ, hO⟩ := hK
  have hr := w32_10 hw
  have x3 := x_hereInAll (d := z 0 0) hP hS
  have x4 : F_X0_notEnded z = some (neR (z 90) (z 68 34).toNat, z) := x_ne_L hC hC.1 ⟨hC.2.1, hC.2.2.1⟩ (z 68 34).toNat 0 Zfuel (by omega) (by have := hC.2.2.1; unfold Zfuel; omega)
  have m3 : X11_total_L101 Zfuel z 0 0 = some (hereAR (stF z) (z 68 11) (z 68 13).toNat, z) := m_total3_L hP hS ⟨hP.1, hP.2.1⟩ (z 68 13).toNat 0 Zfuel (by omega) (by have := hP.2.1; unfold Zfuel; omega)
  have m4 : X11_total_L139 Zfuel z 0 0 = some (neR (z 90) (z 68 34).toNat, z) := m_ne_L ⟨hC.2.1, hC.2.2.1⟩ (z 68 34).toNat 0 Zfuel (by omega) (by have := hC.2.2.1; unfold Zfuel; omega)
  rw [hD.1] at x3
  refine ⟨if 11 ≤ w ∧ w ≤ 16 then z 1 (w - 10) else if w = 0 then z 68 11 else if w = 1 then z 68 12 else if w = 2 then z 68 13 else if w = 3 then hereAR (stF z) (z 68 11) (z 68 13).toNat else if w = 4 then neR (z 90) (z 68 34).toNat else if w = 5 then z 68 35 else if w = 6 then z 68 47 else if w = 7 then z 68 61 else if w = 8 then z 68 78 else if w = 9 then z 68 21 else if w = 10 then z 68 22 else -9, z, z, ?_, ?_, hK0, JN_1 hN⟩
  · unfold F_X10_total X10_total_b177 X10_total_b179
    rw [hD.1, x3, x4]
    clear m3 m4 x3 x4
    rcases hr with ⟨h1, h2, h3⟩ | ⟨h1, h2⟩
    · rw [h3]
      rw [if_neg (by omega), if_neg (by omega), if_neg (by omega), if_neg (by omega), if_neg (by omega), if_neg (by omega), if_neg (by omega), if_neg (by omega), if_neg (by omega), if_neg (by omega), if_neg (by omega), if_neg (by omega), if_neg (by omega), Zgd_t (by omega), if_pos ⟨h1, h2⟩]
    · rw [if_neg h1]
      generalize w32 (w - 10) = v at *
      grind (splits := 30) [Yb_some]
  · show F_X11_total z w = _
    unfold F_X11_total
    rw [e_isIn, Yb_some, m3, m4]
    clear m3 m4 x3 x4 hr
    by_cases h1 : 11 ≤ w ∧ w ≤ 16
    · have q := hN (w - 10) (by omega) (by omega)
      rw [bi_t h1, if_neg (by decide), Zgd_t (by omega), Zgd_t (by omega), if_pos h1, q.1]
    · rw [bi_f h1, if_pos rfl, if_neg h1]
      grind (splits := 30)
