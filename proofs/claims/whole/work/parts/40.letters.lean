/-! texts: letters -/
def Zro (z : ZI) (k0 : Nat) (f : Int → Int) : ZI := fun k i => if k = k0 then f i else z k i
theorem Zro_u (z : ZI) (k0 : Nat) (f : Int → Int) (i v : Int) : Zup (Zro z k0 f) k0 i v = Zro z k0 (fupd f i v) := by
  funext k j
  unfold Zup Zro fupd
  by_cases h : k = k0
  · by_cases h2 : j = i
    · rw [if_pos ⟨h, h2⟩, if_pos h, if_pos h2]
    · rw [if_neg (fun q => h2 q.2), if_pos h, if_pos h, if_neg h2]
  · rw [if_neg (fun q => h q.1), if_neg h, if_neg h]
theorem Zro_z (z : ZI) (k0 : Nat) : Zro z k0 (z k0) = z := by
  funext k i
  unfold Zro
  by_cases h : k = k0
  · rw [if_pos h, h]
  · rw [if_neg h]
theorem Zro_s (z : ZI) (k0 : Nat) (f : Int → Int) : Zro z k0 f k0 = f := funext fun _ => if_pos rfl
theorem Zro_k {z : ZI} {k0 k : Nat} {f : Int → Int} (h : k ≠ k0) : Zro z k0 f k = z k := funext fun _ => if_neg h
theorem Zro_r (z : ZI) (k0 : Nat) (f g : Int → Int) : Zro (Zro z k0 f) k0 g = Zro z k0 g := by
  funext k i
  unfold Zro
  by_cases h : k = k0
  · rw [if_pos h, if_pos h]
  · rw [if_neg h, if_neg h, if_neg h]
theorem fill_L {a0 n0 : Nat} {z : ZI} {v : Int} (hn : n0 ≤ 100000) : ∀ (n k fu : Nat) (f : Int → Int), k + n = n0 → n < fu → J7_fill_53178_L5 a0 n0 fu (Zro z a0 f) v k n0 = some ((), Zro z a0 (fun i => if (k : Int) ≤ i ∧ i < n0 then v else f i)) := by
  intro n
  induction n with
  | zero =>
    intro k fu f hk hf
    obtain ⟨fu, rfl⟩ : ∃ g, fu = g + 1 := ⟨fu - 1, by omega⟩
    show J7_fill_53178_L5b a0 n0 (J7_fill_53178_L5 a0 n0 fu) (Zro z a0 f) v k n0 = _
    unfold J7_fill_53178_L5b
    rw [if_pos (by omega)]
    have : (fun i => if (k : Int) ≤ i ∧ i < n0 then v else f i) = f := by
      funext i
      rw [if_neg (by omega)]
    rw [this]
  | succ n ih =>
    intro k fu f hk hf
    obtain ⟨fu, rfl⟩ : ∃ g, fu = g + 1 := ⟨fu - 1, by omega⟩
    show J7_fill_53178_L5b a0 n0 (J7_fill_53178_L5 a0 n0 fu) (Zro z a0 f) v k n0 = _
    unfold J7_fill_53178_L5b
    rw [if_neg (by omega), Zgd_t (by omega), Zl_eq, Zgd_t (by omega), Zro_u]
    have e := ih (k + 1) fu (fupd f k v) (by omega) (by omega)
    rw [show ((k + 1 : Nat) : Int) = (k : Int) + 1 by omega] at e
    rw [e]
    have : (fun i => if (k : Int) + 1 ≤ i ∧ i < n0 then v else fupd f k v i) = (fun i => if (k : Int) ≤ i ∧ i < n0 then v else f i) := by
      funext i
      unfold fupd
      by_cases h : i = (k : Int)
      · rw [if_neg (by omega), if_pos h, if_pos (by omega)]
      · rw [if_neg h]
        by_cases h2 : (k : Int) + 1 ≤ i ∧ i < n0
        · rw [if_pos h2, if_pos (by omega)]
        · rw [if_neg h2, if_neg (by omega)]
    rw [this]
theorem x_fill {a0 n0 : Nat} {z : ZI} {v : Int} (hn : n0 ≤ 100000) : F_J7_fill_53178 a0 n0 z v = some ((), Zro z a0 (fun i => if 0 ≤ i ∧ i < n0 then v else z a0 i)) := by
  have e := fill_L (a0 := a0) (z := z) (v := v) hn n0 0 Zfuel (z a0) (by omega) (by unfold Zfuel; omega)
  rw [Zro_z] at e
  exact e
theorem m_noF_L {z : ZI} : ∀ (n k fu : Nat) (f : Int → Int), k + n = 128 → n < fu → X11_noFacts_L2 fu (Zro z 85 f) k = some ((), Zro z 85 (fun i => if (k : Int) ≤ i ∧ i < 128 then 0 else f i)) := by
  intro n
  induction n with
  | zero =>
    intro k fu f hk hf
    obtain ⟨fu, rfl⟩ : ∃ g, fu = g + 1 := ⟨fu - 1, by omega⟩
    show X11_noFacts_L2b (X11_noFacts_L2 fu) (Zro z 85 f) k = _
    unfold X11_noFacts_L2b
    rw [if_pos (by omega)]
    have : (fun i => if (k : Int) ≤ i ∧ i < 128 then 0 else f i) = f := by
      funext i
      rw [if_neg (by omega)]
    rw [this]
  | succ n ih =>
    intro k fu f hk hf
    obtain ⟨fu, rfl⟩ : ∃ g, fu = g + 1 := ⟨fu - 1, by omega⟩
    show X11_noFacts_L2b (X11_noFacts_L2 fu) (Zro z 85 f) k = _
    unfold X11_noFacts_L2b
    rw [if_neg (by omega), Zgd_t (by omega), Zl_eq, Zgd_t (by omega), Zro_u]
    have e := ih (k + 1) fu (fupd f k 0) (by omega) (by omega)
    rw [show ((k + 1 : Nat) : Int) = (k : Int) + 1 by omega] at e
    rw [e]
    have : (fun i => if (k : Int) + 1 ≤ i ∧ i < 128 then 0 else fupd f k 0 i) = (fun i => if (k : Int) ≤ i ∧ i < 128 then 0 else f i) := by
      funext i
      unfold fupd
      by_cases h : i = (k : Int)
      · rw [if_neg (by omega), if_pos h, if_pos (by omega)]
      · rw [if_neg h]
        by_cases h2 : (k : Int) + 1 ≤ i ∧ i < 128
        · rw [if_pos h2, if_pos (by omega)]
        · rw [if_neg h2, if_neg (by omega)]
    rw [this]
theorem m_noF (z : ZI) : F_X11_noFacts z = some ((), Zro z 85 (fun i => if 0 ≤ i ∧ i < 128 then 0 else z 85 i)) := by
  have e := m_noF_L (z := z) 128 0 Zfuel (z 85) (by omega) (by unfold Zfuel; omega)
  rw [Zro_z] at e
  exact e
theorem x_clear (z : ZI) : F_X6_clearLetters z = some ((), Zro z 31 (fun i => if 0 ≤ i ∧ i < 8 then 0 else z 31 i)) := by
  unfold F_X6_clearLetters
  rw [x_fill (by decide), Yb_some]
  rfl
/-! frames: what a text's working out may change -/
def Zfx (z : ZI) (A B C : Int → Int) : ZI := fun k i => if k = 30 then A i else if k = 31 then B i else if k = 32 then C i else z k i
def FrX (z z2 : ZI) : Prop := ∀ k, k ≠ 30 → k ≠ 31 → k ≠ 32 → z2 k = z k
theorem FrX.eq {z z2 : ZI} (h : FrX z z2) : z2 = Zfx z (z2 30) (z2 31) (z2 32) := by
  funext k i
  unfold Zfx
  by_cases h1 : k = 30
  · rw [if_pos h1, h1]
  · rw [if_neg h1]
    by_cases h2 : k = 31
    · rw [if_pos h2, h2]
    · rw [if_neg h2]
      by_cases h3 : k = 32
      · rw [if_pos h3, h3]
      · rw [if_neg h3, h k h1 h2 h3]
theorem FrX.rf (z : ZI) : FrX z z := fun _ _ _ _ => rfl
theorem FrX.tr {z z2 z3 : ZI} (h : FrX z z2) (g : FrX z2 z3) : FrX z z3 := fun k a b c => (g k a b c).trans (h k a b c)
def Zfm (z : ZI) (w v : Int) (A B C : Int → Int) : ZI := fun k i => if k = 68 ∧ i = 26 then w else if k = 68 ∧ i = 27 then v else if k = 85 then A i else if k = 86 then B i else if k = 87 + 1000 then C i else z k i
def FrM (z z2 : ZI) : Prop := ∀ k i, (z2 k i = z k i) ∨ (k = 68 ∧ (i = 26 ∨ i = 27)) ∨ k = 85 ∨ k = 86 ∨ k = 87 + 1000
theorem FrM.eq {z z2 : ZI} (h : FrM z z2) : z2 = Zfm z (z2 68 26) (z2 68 27) (z2 85) (z2 86) (z2 (87 + 1000)) := by
  funext k i
  unfold Zfm
  by_cases h1 : k = 68 ∧ i = 26
  · rw [if_pos h1, h1.1, h1.2]
  · rw [if_neg h1]
    by_cases h2 : k = 68 ∧ i = 27
    · rw [if_pos h2, h2.1, h2.2]
    · rw [if_neg h2]
      by_cases h5 : k = 85
      · rw [if_pos h5, h5]
      · rw [if_neg h5]
        by_cases h3 : k = 86
        · rw [if_pos h3, h3]
        · rw [if_neg h3]
          by_cases h4 : k = 87 + 1000
          · rw [if_pos h4, h4]
          · rw [if_neg h4]
            rcases h k i with q | q | q | q | q
            · exact q
            · omega
            · omega
            · omega
            · omega
theorem FrM.rf (z : ZI) : FrM z z := fun _ _ => Or.inl rfl
theorem FrM.tr {z z2 z3 : ZI} (h : FrM z z2) (g : FrM z2 z3) : FrM z z3 := by
  intro k i
  rcases h k i with q | q
  · rcases g k i with r | r
    · exact Or.inl (r.trans q)
    · exact Or.inr r
  · exact Or.inr q
theorem FrM.k {z z2 : ZI} (h : FrM z z2) {k : Nat} (h1 : k ≠ 68) (h2 : k ≠ 85) (h3 : k ≠ 86) (h4 : k ≠ 87 + 1000) : z2 k = z k := by
  funext i
  rcases h k i with q | q | q | q | q
  · exact q
  · omega
  · omega
  · omega
  · omega
theorem FrM.l {z z2 : ZI} (h : FrM z z2) {i : Int} (h1 : i ≠ 26) (h2 : i ≠ 27) : z2 68 i = z 68 i := by
  rcases h 68 i with q | q | q | q | q
  · exact q
  · omega
  · exact absurd q (by decide)
  · exact absurd q (by decide)
  · exact absurd q (by decide)
theorem FrM_W {z z2 : ZI} (h : FrW z z2) : FrM z z2 := by
  intro k i
  rcases h k i with q | q | q | q
  · exact Or.inl q
  · exact Or.inr (Or.inl q)
  · exact Or.inr (Or.inr (Or.inr (Or.inl q)))
  · exact Or.inr (Or.inr (Or.inr (Or.inr q)))
theorem FrM_85 (z : ZI) (f : Int → Int) : FrM z (Zro z 85 f) := by
  intro k i
  by_cases h : k = 85
  · exact Or.inr (Or.inr (Or.inl h))
  · exact Or.inl (if_neg h)
theorem FrX_31 (z : ZI) (f : Int → Int) : FrX z (Zro z 31 f) := fun _ _ h _ => Zro_k h
theorem FrX_rd (z : ZI) (k0 : Nat) (s len t e : Int) : FrX z (Zaf (Zrd z k0 s len) t e) := by
  intro k h1 h2 h3
  funext i
  show (if k = 30 ∧ i = 3 then t else if k = 30 ∧ i = 4 then e else if k = 30 ∧ i = 2 then len else Zcp z k0 32 s 0 len k i) = _
  rw [if_neg (fun q => h1 q.1), if_neg (fun q => h1 q.1), if_neg (fun q => h1 q.1)]
  exact if_neg (fun q => h3 q.1)
theorem K_fx {z : ZI} {A B C : Int → Int} (h : K z) : K (Zfx z A B C) := by
  obtain ⟨hD, hH, hP, hS, hL, hT, hE, hV, hA, hU, hC, hK, hW, hB, hG, hX, hQ, hO⟩ := h
  exact ⟨(JD_c rfl rfl hD), (JH_c rfl rfl rfl rfl rfl rfl rfl hH), (JP_c rfl rfl rfl rfl rfl rfl rfl rfl rfl rfl rfl rfl hP), (JS_c rfl rfl rfl rfl rfl rfl rfl rfl rfl rfl rfl hS), (JL_c rfl rfl hL), (JT_c rfl rfl rfl rfl rfl hT), (JE_c rfl rfl rfl rfl hE), (JV_c rfl rfl rfl rfl hV), (JA_c rfl rfl rfl rfl hA), (JU_c rfl rfl rfl rfl rfl rfl rfl rfl rfl rfl hU), (JC_c rfl rfl rfl rfl rfl rfl rfl rfl rfl rfl hC), (JK_c rfl rfl rfl rfl rfl rfl rfl rfl rfl hK), (JW_c rfl rfl rfl rfl rfl rfl rfl rfl rfl rfl hW), (JB_c rfl rfl rfl rfl rfl rfl rfl rfl rfl rfl rfl rfl rfl rfl rfl rfl rfl rfl rfl rfl hB), (JG_c rfl rfl rfl rfl rfl hG), (JX_c rfl rfl rfl rfl rfl hX), (JQ_c rfl rfl rfl rfl rfl hQ), (JO_c rfl rfl rfl rfl rfl rfl rfl rfl rfl rfl rfl hO)⟩
theorem K_fm {z : ZI} {w v : Int} {A B C : Int → Int} (h : K z) : K (Zfm z w v A B C) := by
  obtain ⟨hD, hH, hP, hS, hL, hT, hE, hV, hA, hU, hC, hK, hW, hB, hG, hX, hQ, hO⟩ := h
  exact ⟨(JD_c rfl rfl hD), (JH_c rfl rfl rfl rfl rfl rfl rfl hH), (JP_c rfl rfl rfl rfl rfl rfl rfl rfl rfl rfl rfl rfl hP), (JS_c rfl rfl rfl rfl rfl rfl rfl rfl rfl rfl rfl hS), (JL_c rfl rfl hL), (JT_c rfl rfl rfl rfl rfl hT), (JE_c rfl rfl rfl rfl hE), (JV_c rfl rfl rfl rfl hV), (JA_c rfl rfl rfl rfl hA), (JU_c rfl rfl rfl rfl rfl rfl rfl rfl rfl rfl hU), (JC_c rfl rfl rfl rfl rfl rfl rfl rfl rfl rfl hC), (JK_c rfl rfl rfl rfl rfl rfl rfl rfl rfl hK), (JW_c rfl rfl rfl rfl rfl rfl rfl rfl rfl rfl hW), (JB_c rfl rfl rfl rfl rfl rfl rfl rfl rfl rfl rfl rfl rfl rfl rfl rfl rfl rfl rfl rfl hB), (JG_c rfl rfl rfl rfl rfl hG), (JX_c rfl rfl rfl rfl rfl hX), (JQ_c rfl rfl rfl rfl rfl hQ), (JO_c rfl rfl rfl rfl rfl rfl rfl rfl rfl rfl rfl hO)⟩
theorem FrX_K {z z2 : ZI} (h : FrX z z2) (hK : K z) : K z2 := by
  rw [h.eq]
  exact K_fx hK
theorem FrM_K {z z2 : ZI} (h : FrM z z2) (hK : K z) : K z2 := by
  rw [h.eq]
  exact K_fm hK
theorem FrX_st {z z2 : ZI} (h : FrX z z2) : stF z2 = stF z := by
  rw [h.eq]
  rfl
theorem FrM_st {z z2 : ZI} (h : FrM z z2) : stF z2 = stF z := by
  rw [h.eq]
  rfl
