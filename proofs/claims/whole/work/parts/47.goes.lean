/-! leave: goes -/
theorem x_placeC_L {z : ZI} {p : Int} (h5 : 0 ≤ z 59 0 ∧ z 59 0 ≤ 60) : ∀ (n k f : Nat), k + n = (z 59 0).toNat → n < f → X5_placeOf_L2 f z p (k : Int) = some (srch (z 60) p n k, z) := by
  intro n
  induction n with
  | zero =>
    intro k f hk hf
    obtain ⟨f, rfl⟩ : ∃ g, f = g + 1 := ⟨f - 1, by omega⟩
    show X5_placeOf_L2b (X5_placeOf_L2 f) z p (k : Int) = _
    unfold X5_placeOf_L2b 
    grind [Zgd_i, srch.eq_1, srch.eq_2]
  | succ n ih =>
    intro k f hk hf
    obtain ⟨f, rfl⟩ : ∃ g, f = g + 1 := ⟨f - 1, by omega⟩
    have e := ih (k + 1) f (by omega) (by omega)
    clear ih
    show X5_placeOf_L2b (X5_placeOf_L2 f) z p (k : Int) = _
    unfold X5_placeOf_L2b 
    grind [Zgd_i, srch.eq_1, srch.eq_2]
theorem x_placeC {z : ZI} {p : Int} (h5 : 0 ≤ z 59 0 ∧ z 59 0 ≤ 60) : F_X5_placeOf z p = some (srch (z 60) p (z 59 0).toNat 0, z) :=
  x_placeC_L h5 (z 59 0).toNat 0 Zfuel (by omega) (by unfold Zfuel; omega)
theorem x_quitC {z : ZI} {p : Int} (h5 : 0 ≤ z 59 0 ∧ z 59 0 ≤ 60) (h : srch (z 60) p (z 59 0).toNat 0 ≠ -9) : F_X5_quit z p = some ((), Zup (Zsh z 60 (srch (z 60) p (z 59 0).toNat 0) (z 59 0 - 1)) 59 0 (z 59 0 - 1)) := by
  have hr := srch_r (z 60) p (z 59 0).toNat 0 (Int.le_refl _)
  have e := x_quit_L (z := z) (pl := srch (z 60) p (z 59 0).toNat 0) (by omega) (by omega) (z 59 0 - 1 - srch (z 60) p (z 59 0).toNat 0).toNat Zfuel (srch (z 60) p (z 59 0).toNat 0) (Int.le_refl _) (by omega) (by unfold Zfuel; omega)
  rw [Zsh_0] at e
  unfold F_X5_quit
  rw [x_placeC h5, Yb_some, if_neg h]
  exact e
def cS (z : ZI) (n p day lt pl a : Int) : ZI := Zup (Zsh (Zup (Zup (Zup (Zup (Zup z 20 n day) 21 n 3) 22 n lt) 19 p n) 11 10 (n + 1)) 60 pl (a - 1)) 59 0 (a - 1)
def mS (z : ZI) (n p day pl a : Int) : ZI := Zup (Zsh (Zup (Zup (Zup (Zup z 77 n p) 78 n 3) 79 n day) 68 14 (n + 1)) 122 pl (a - 1)) 68 78 (a - 1)
def plW (z : ZI) (p : Int) : Int := srch (z 122) p (z 68 78).toNat 0
def stW (z : ZI) (p : Int) : ZI := mS (cS z (z 68 14) p (z 68 11) (z 19 p) (plW z p) (z 68 78)) (z 68 14) p (z 68 11) (plW z p) (z 68 78)
theorem x_tell3 {z : ZI} {p d : Int} (hs : 0 ≤ z 11 10 ∧ z 11 10 < 150) (hp : 0 ≤ p ∧ p < 60) : F_X3_tell z p 3 d = some (z 11 10 + 1, Zup (Zup (Zup (Zup (Zup z 20 (z 11 10) d) 21 (z 11 10) 3) 22 (z 11 10) (z 19 p)) 19 p (z 11 10)) 11 10 (z 11 10 + 1)) := by
  unfold F_X3_tell
  grind (gen := 30) [Yb_some, Zgd_i, Zl_eq, Zup_d]
theorem m_become {z : ZI} {p : Int} (hs : 0 ≤ z 68 14 ∧ z 68 14 < 150) : F_X11_becomes z p 3 = some ((), Zup (Zup (Zup (Zup z 77 (z 68 14) p) 78 (z 68 14) 3) 79 (z 68 14) (z 68 11)) 68 14 (z 68 14 + 1)) := by
  unfold F_X11_becomes
  grind (gen := 30) [Yb_some, Zgd_i, Zl_eq, Zup_d]
theorem K_stW {z : ZI} {p : Int} (hK : K z) (hb : z 41 14 = 0) (hp : 0 ≤ p ∧ p < z 68 13) (hn : z 68 14 < 150) (hno : ∀ k, 0 ≤ k → k < z 68 14 → z 77 k = p → z 78 k ≠ 4) (hs : plW z p ≠ -9) : K (stW z p) := by
  have hsr := srch_r (z 122) p (z 68 78).toNat 0 (Int.le_refl _)
  have ep : plW z p = srch (z 122) p (z 68 78).toNat 0 := rfl
  rw [← ep] at hsr
  obtain ⟨hD, hH, hP, hS, hL, hT, hE, hV, hA, hU, hC, hK, hW, hB, hG, hX, hQ, hO⟩ := hK
  have hd := hD.2.1
  have hq2 := JQ_quit (z2 := stW z p) (pl := plW z p) hQ (by omega) rfl rfl rfl (fun j => by
    have e : stW z p 60 j = (if (60 : Nat) = 60 ∧ plW z p ≤ j ∧ j < z 68 78 - 1 then z 60 (j + 1) else z 60 j) := rfl
    rw [e]
    simp only [true_and]) (fun j => by
    have e : stW z p 122 j = (if (122 : Nat) = 122 ∧ plW z p ≤ j ∧ j < z 68 78 - 1 then z 122 (j + 1) else z 122 j) := rfl
    rw [e]
    simp only [true_and])
  have hs2 := JS_tell (z2 := stW z p) hS (p := p) (s := 3) hp (by omega) hd hn hno rfl rfl rfl rfl (fun j => (Zup_ki : Zup z 77 (z 68 14) (p) 77 j = _)) (fun j => (Zup_ki : Zup z 21 (z 68 14) (3) 21 j = _)) (fun j => (Zup_ki : Zup z 78 (z 68 14) (3) 78 j = _)) (fun j => (Zup_ki : Zup z 20 (z 68 14) (z 68 11) 20 j = _)) (fun j => (Zup_ki : Zup z 79 (z 68 14) (z 68 11) 79 j = _)) (fun j => (Zup_ki : Zup z 22 (z 68 14) (z 19 p) 22 j = _)) (fun j => (Zup_ki : Zup z 19 p (z 68 14) 19 j = _))
  exact ⟨(JD_c rfl rfl hD), (JH_c rfl rfl rfl rfl rfl rfl rfl hH), (JP_c rfl rfl rfl rfl rfl rfl rfl rfl rfl rfl rfl rfl hP), hs2, (JL_c rfl rfl hL), (JT_c rfl rfl rfl rfl rfl hT), (JE_c rfl rfl rfl rfl hE), (JV_c rfl rfl rfl rfl hV), (JA_c rfl rfl rfl rfl hA), (JU_c rfl rfl rfl rfl rfl rfl rfl rfl rfl rfl hU), (JC_c rfl rfl rfl rfl rfl rfl rfl rfl rfl rfl hC), (JK_c rfl rfl rfl rfl rfl rfl rfl rfl rfl hK), (JW_c rfl rfl rfl rfl rfl rfl rfl rfl rfl rfl hW), ⟨hB.1, Or.inl hb⟩, (JG_c rfl rfl rfl rfl rfl hG), (JX_c rfl rfl rfl rfl rfl hX), hq2, (JO_c rfl rfl rfl rfl rfl rfl rfl rfl rfl rfl rfl hO)⟩
theorem stR_cg {sp sd sa sp2 sd2 sa2 : Int → Int} {p d : Int} : ∀ n : Nat, (∀ j : Int, 0 ≤ j → j < n → sp j = sp2 j ∧ sd j = sd2 j ∧ sa j = sa2 j) → stR sp sd sa p d n = stR sp2 sd2 sa2 p d n
  | 0, _ => rfl
  | n + 1, h => by
    have i := stR_cg (p := p) (d := d) n (fun j h1 h2 => h j h1 (by omega))
    have q := h n (by omega) (by omega)
    unfold stR
    rw [i, q.1, q.2.1, q.2.2]
theorem stF_stW {z : ZI} {p q d : Int} (hn : 0 ≤ z 68 14) (hq : q ≠ p) : stF (stW z p) q d = stF z q d := by
  rw [stF_d, stF_d]
  have e0 : stW z p 76 = z 76 := rfl
  have e1 : stW z p 68 14 = z 68 14 + 1 := rfl
  have e2 : ∀ j, stW z p 77 j = if j = z 68 14 then p else z 77 j := (fun j => (Zup_ki : Zup z 77 (z 68 14) (p) 77 j = _))
  have e3 : ∀ j, stW z p 79 j = if j = z 68 14 then z 68 11 else z 79 j := (fun j => (Zup_ki : Zup z 79 (z 68 14) (z 68 11) 79 j = _))
  have e4 : ∀ j, stW z p 78 j = if j = z 68 14 then 3 else z 78 j := (fun j => (Zup_ki : Zup z 78 (z 68 14) (3) 78 j = _))
  rw [e0, e1]
  by_cases c : d < z 76 q
  · rw [if_pos c, if_pos c]
  · rw [if_neg c, if_neg c, show (z 68 14 + 1).toNat = (z 68 14).toNat + 1 by omega]
    have u : stR (stW z p 77) (stW z p 79) (stW z p 78) q d ((z 68 14).toNat + 1) = if stW z p 77 (z 68 14).toNat = q ∧ stW z p 79 (z 68 14).toNat ≤ d then stW z p 78 (z 68 14).toNat else stR (stW z p 77) (stW z p 79) (stW z p 78) q d (z 68 14).toNat := rfl
    have e5 : stW z p 77 (z 68 14).toNat = p := by rw [e2, if_pos (by omega)]
    rw [u, e5, if_neg (fun r => hq r.1.symm)]
    exact stR_cg _ (fun j h1 h2 => by
      rw [e2, e3, e4, if_neg (by omega), if_neg (by omega), if_neg (by omega)]
      exact ⟨rfl, rfl, rfl⟩)
def InQ (z : ZI) (q : Int) : Prop := ∃ k, 0 ≤ k ∧ k < z 68 78 ∧ z 122 k = q
theorem InQ_pl {z : ZI} {q : Int} (h : InQ z q) : plW z q ≠ -9 := by
  obtain ⟨k, h1, h2, h3⟩ := h
  intro e
  exact srch_no (z 122) q (z 68 78).toNat 0 (Int.le_refl _) e k h1 (by omega) h3
theorem InQ_stW {z : ZI} {p q : Int} (h : InQ z q) (hq : q ≠ p) (hs : plW z p ≠ -9) : InQ (stW z p) q := by
  have hsr := srch_r (z 122) p (z 68 78).toNat 0 (Int.le_refl _)
  have ep : plW z p = srch (z 122) p (z 68 78).toNat 0 := rfl
  rw [← ep] at hsr
  obtain ⟨k, h1, h2, h3⟩ := h
  have e : ∀ j, stW z p 122 j = (if (122 : Nat) = 122 ∧ plW z p ≤ j ∧ j < z 68 78 - 1 then z 122 (j + 1) else z 122 j) := fun _ => rfl
  simp only [true_and] at e
  have e1 : stW z p 68 78 = z 68 78 - 1 := rfl
  rcases hsr with r | ⟨r1, r2, r3⟩
  · exact absurd r hs
  · have hk : k ≠ plW z p := by
      intro c
      rw [c] at h3
      exact hq (h3.symm.trans r3)
    by_cases c : k < plW z p
    · exact ⟨k, h1, by rw [e1]; omega, by rw [e, if_neg (by omega)]; exact h3⟩
    · exact ⟨k - 1, by omega, by rw [e1]; omega, by rw [e, if_pos (by omega), show k - 1 + 1 = k by omega]; exact h3⟩
def GI (A : Int → Int) (m i : Int) (z : ZI) : Prop := K z ∧ z 41 14 = 0 ∧ ∀ j, i ≤ j → j < m → InQ z (A j) ∧ (stF z (A j) (z 68 11) = 0 ∨ stF z (A j) (z 68 11) = 2)
theorem InQ_r {z : ZI} {q : Int} (hK : K z) (h : InQ z q) : 0 ≤ q ∧ q < z 68 13 := by
  obtain ⟨k, h1, h2, h3⟩ := h
  have := (K_Q hK).2.2.2.1 k h1 h2
  omega
theorem no_dead {z : ZI} {p : Int} (hK : K z) (hp : 0 ≤ p ∧ p < z 68 13) (h : stF z p (z 68 11) = 0 ∨ stF z p (z 68 11) = 2) : ∀ k, 0 ≤ k → k < z 68 14 → z 77 k = p → z 78 k ≠ 4 := by
  have hdi := dead_iff (K_P hK) (K_S hK) hp
  rcases deadR_b (z 77) (z 78) p (z 68 14).toNat with ⟨h1, h2⟩ | ⟨h1, h2⟩
  · intro k k1 k2 k3
    obtain ⟨j, rfl⟩ := Int.eq_ofNat_of_zero_le k1
    exact h2 j (by omega) k3
  · have := hdi.mp h1
    omega
theorem GI_s {A : Int → Int} {m i : Int} {z : ZI} (h : GI A m i z) (hi : i < m) (hinj : ∀ j, i < j → j < m → A j ≠ A i) (hn : z 68 14 < 150) : GI A m (i + 1) (stW z (A i)) := by
  obtain ⟨h1, h2, h3⟩ := h
  obtain ⟨q1, q2⟩ := h3 i (Int.le_refl _) hi
  have hp := InQ_r h1 q1
  have hs := InQ_pl q1
  have hs0 := (K_S h1).1
  refine ⟨K_stW h1 h2 hp hn (no_dead h1 hp q2) hs, h2, fun j j1 j2 => ?_⟩
  have ne := hinj j (by omega) j2
  obtain ⟨r1, r2⟩ := h3 j (by omega) j2
  refine ⟨InQ_stW r1 ne hs, ?_⟩
  rw [stF_stW hs0 ne]
  exact r2
def Wn (A : Int → Int) (w : ZI) : Nat → ZI
  | 0 => w
  | i + 1 => stW (Wn A w i) (A i)
theorem Wn_c (A : Int → Int) (w : ZI) : ∀ i : Nat, (Wn A w i) 68 14 = w 68 14 + i ∧ (Wn A w i) 68 11 = w 68 11 ∧ (Wn A w i) 61 = w 61 ∧ (Wn A w i) 59 2 = w 59 2 ∧ (Wn A w i) 123 = w 123 ∧ (Wn A w i) 1 = w 1 ∧ (Wn A w i) 69 = w 69
  | 0 => ⟨by show w 68 14 = w 68 14 + ((0 : Nat) : Int); omega, rfl, rfl, rfl, rfl, rfl, rfl⟩
  | i + 1 => by
    obtain ⟨h1, h2, h3, h4, h5, h6, h7⟩ := Wn_c A w i
    have e1 : (Wn A w (i + 1)) 68 14 = (Wn A w i) 68 14 + 1 := rfl
    exact ⟨by rw [e1, h1]; omega, h2, h3, h4, h5, h6, h7⟩
theorem GI_all {A : Int → Int} {w : ZI} {m : Nat} (h0 : GI A m 0 w) (hinj : ∀ i j : Int, 0 ≤ i → i < m → 0 ≤ j → j < m → A i = A j → i = j) (hn : w 68 14 + m ≤ 150) : ∀ i : Nat, i ≤ m → GI A m i (Wn A w i)
  | 0, _ => h0
  | i + 1, hi => by
    have h := GI_all h0 hinj hn i (by omega)
    have c := (Wn_c A w i).1
    have r := GI_s h (by omega) (fun j j1 j2 e => by
      have := hinj j i (by omega) j2 (by omega) (by omega) e
      omega) (by omega)
    have e : ((i + 1 : Nat) : Int) = (i : Int) + 1 := by omega
    rw [e]
    exact r
/-! the class' loop runs first: it goes with the sequence, but for what was known of the best -/
def RC (y W V : ZI) : Prop := (∀ k i, k < 68 → ¬ (k = 41 ∧ i = 14) → y k i = W k i) ∧ ∀ k i, 68 ≤ k → y k i = V k i
theorem RC_up {y W V : ZI} {k : Nat} {i v : Int} (hk : k < 68) (h : RC y W V) : RC (Zup y k i v) (Zup W k i v) V := by
  refine ⟨fun k' j a b => ?_, fun k' j a => ?_⟩
  · rw [Zup_d, Zup_d]
    by_cases c : k' = k ∧ j = i
    · rw [if_pos c, if_pos c]
    · rw [if_neg c, if_neg c, h.1 k' j a b]
  · rw [Zup_d, if_neg (by omega), h.2 k' j a]
theorem RC_sh {y W V : ZI} {pl n : Int} (h : RC y W V) : RC (Zsh y 60 pl n) (Zsh W 60 pl n) V := by
  refine ⟨fun k' j a b => ?_, fun k' j a => ?_⟩
  · unfold Zsh
    by_cases c : k' = 60 ∧ pl ≤ j ∧ j < n
    · rw [if_pos c, if_pos c, h.1 60 (j + 1) (by decide) (by omega)]
    · rw [if_neg c, if_neg c, h.1 k' j a b]
  · unfold Zsh
    rw [if_neg (by omega), h.2 k' j a]
theorem RC_w {y W V : ZI} {k : Nat} {i v : Int} (hk : 68 ≤ k) (h : RC y W V) : RC y (Zup W k i v) V := by
  refine ⟨fun k' j a b => ?_, h.2⟩
  rw [Zup_d, if_neg (by omega), h.1 k' j a b]
theorem RC_wsh {y W V : ZI} {pl n : Int} (h : RC y W V) : RC y (Zsh W 122 pl n) V := by
  refine ⟨fun k' j a b => ?_, h.2⟩
  unfold Zsh
  rw [if_neg (by omega), h.1 k' j a b]
theorem RC_st {y W V : ZI} {n p day lt pl a : Int} (h : RC y W V) : RC (cS y n p day lt pl a) (mS (cS W n p day lt pl a) n p day pl a) V := by
  unfold mS
  refine RC_w (by decide) (RC_wsh (RC_w (by decide) (RC_w (by decide) (RC_w (by decide) (RC_w (by decide) ?_)))))
  unfold cS
  exact RC_up (by decide) (RC_sh (RC_up (by decide) (RC_up (by decide) (RC_up (by decide) (RC_up (by decide) (RC_up (by decide) h))))))
def RM (y W V : ZI) : Prop := (∀ k i, 68 ≤ k → y k i = W k i) ∧ ∀ k i, k < 68 → y k i = V k i
theorem RM_up {y W V : ZI} {k : Nat} {i v : Int} (hk : 68 ≤ k) (h : RM y W V) : RM (Zup y k i v) (Zup W k i v) V := by
  refine ⟨fun k' j a => ?_, fun k' j a => ?_⟩
  · rw [Zup_d, Zup_d]
    by_cases c : k' = k ∧ j = i
    · rw [if_pos c, if_pos c]
    · rw [if_neg c, if_neg c, h.1 k' j a]
  · rw [Zup_d, if_neg (by omega), h.2 k' j a]
theorem RM_sh {y W V : ZI} {pl n : Int} (h : RM y W V) : RM (Zsh y 122 pl n) (Zsh W 122 pl n) V := by
  refine ⟨fun k' j a => ?_, fun k' j a => ?_⟩
  · unfold Zsh
    by_cases c : k' = 122 ∧ pl ≤ j ∧ j < n
    · rw [if_pos c, if_pos c, h.1 122 (j + 1) (by decide)]
    · rw [if_neg c, if_neg c, h.1 k' j a]
  · unfold Zsh
    rw [if_neg (by omega), h.2 k' j a]
theorem RM_c {y W V : ZI} {k : Nat} {i v : Int} (hk : k < 68) (h : RM y W V) : RM y (Zup W k i v) V := by
  refine ⟨fun k' j a => ?_, h.2⟩
  rw [Zup_d, if_neg (by omega), h.1 k' j a]
theorem RM_csh {y W V : ZI} {pl n : Int} (h : RM y W V) : RM y (Zsh W 60 pl n) V := by
  refine ⟨fun k' j a => ?_, h.2⟩
  unfold Zsh
  rw [if_neg (by omega), h.1 k' j a]
theorem RM_st {y W V : ZI} {n p day lt pl a : Int} (h : RM y W V) : RM (mS y n p day pl a) (mS (cS W n p day lt pl a) n p day pl a) V := by
  unfold mS
  refine RM_up (by decide) (RM_sh (RM_up (by decide) (RM_up (by decide) (RM_up (by decide) (RM_up (by decide) ?_)))))
  unfold cS
  exact RM_c (by decide) (RM_csh (RM_c (by decide) (RM_c (by decide) (RM_c (by decide) (RM_c (by decide) (RM_c (by decide) h))))))
theorem x_goes_L {A : Int → Int} {w V : ZI} {m : Nat} (hm : m ≤ 60) (hG : ∀ i : Nat, i ≤ m → GI A m i (Wn A w i)) (hs : w 68 14 + m ≤ 150) (h59 : (m : Int) ≤ w 59 2) (h61 : ∀ i : Int, 0 ≤ i → i < m → w 61 i = A i) : ∀ (n k fu : Nat) (y : ZI), k + n = m → n < fu → RC y (Wn A w k) V → ∃ y2, X10_goes_L67 fu y m k = X10_goes_b126 y2 m ∧ RC y2 (Wn A w m) V := by
  intro n
  induction n with
  | zero =>
    intro k fu y hk hf hr
    obtain ⟨fu, rfl⟩ : ∃ g, fu = g + 1 := ⟨fu - 1, by omega⟩
    obtain rfl : k = m := by omega
    refine ⟨y, ?_, hr⟩
    show X10_goes_L67b (X10_goes_L67 fu) y _ _ = _
    unfold X10_goes_L67b
    rw [if_pos (Int.le_refl _)]
  | succ n ih =>
    intro k fu y hk hf hr
    obtain ⟨fu, rfl⟩ : ∃ g, fu = g + 1 := ⟨fu - 1, by omega⟩
    obtain ⟨g1, g2, g3⟩ := hG k (by omega)
    obtain ⟨q1, q2⟩ := g3 k (Int.le_refl _) (by omega)
    obtain ⟨c1, c2, c3, c4, c5, -, -⟩ := Wn_c A w k
    have hp := InQ_r g1 q1
    have hpl := InQ_pl q1
    have hP60 := (K_P g1).2.1
    have hPp := (K_P g1).2.2.1
    have hS0 := (K_S g1).1
    have hSs := (K_S g1).2.2.1
    have hQ := K_Q g1
    have hD := (K_D g1).1
    have y59 : y 59 2 = w 59 2 := (hr.1 59 2 (by decide) (by decide)).trans c4
    have y61 : y 61 k = A k := by
      rw [hr.1 61 k (by decide) (fun q => absurd q.1 (by decide)), c3]
      exact h61 k (by omega) (by omega)
    have y11 : y 11 4 = (Wn A w k) 68 13 := (hr.1 11 4 (by decide) (by decide)).trans hPp
    have y1x : y 11 10 = (Wn A w k) 68 14 := (hr.1 11 10 (by decide) (by decide)).trans hSs
    have y00 : y 0 0 = (Wn A w k) 68 11 := (hr.1 0 0 (by decide) (by decide)).trans hD
    have y590 : y 59 0 = (Wn A w k) 68 78 := (hr.1 59 0 (by decide) (by decide)).trans hQ.1
    have y19 : y 19 (A k) = (Wn A w k) 19 (A k) := hr.1 19 _ (by decide) (fun q => absurd q.1 (by decide))
    have ysr : srch (y 60) (A k) (y 59 0).toNat 0 = plW (Wn A w k) (A k) := by
      rw [y590]
      refine srch_cong _ _ _ _ _ (fun j j1 j2 => ?_)
      have b := hQ.2.1
      rw [hr.1 60 j (by decide) (fun q => absurd q.1 (by decide))]
      exact (hQ.2.2.2.1 j j1 (by omega)).1
    have e0 : X10_goes_L67 (fu + 1) y m k = X10_goes_L67b (X10_goes_L67 fu) y m k := rfl
    have er : F_X5_rankedAt y k = some (A k, y) := by
      unfold F_X5_rankedAt X5_rankedAt_b23
      rw [if_neg (by omega), y59, if_neg (by omega), Zgd_t (by omega), y61]
    have et := x_tell3 (z := y) (p := A k) (d := y 0 0) (by omega) (by omega)
    have eq := x_quitC (z := Zup (Zup (Zup (Zup (Zup y 20 (y 11 10) (y 0 0)) 21 (y 11 10) 3) 22 (y 11 10) (y 19 (A k))) 19 (A k) (y 11 10)) 11 10 (y 11 10 + 1)) (p := A k) (by show 0 ≤ y 59 0 ∧ y 59 0 ≤ 60; have := hQ.2; omega) (by show srch (y 60) (A k) (y 59 0).toNat 0 ≠ -9; rw [ysr]; exact hpl)
    have eq : F_X5_quit (Zup (Zup (Zup (Zup (Zup y 20 (y 11 10) (y 0 0)) 21 (y 11 10) 3) 22 (y 11 10) (y 19 (A k))) 19 (A k) (y 11 10)) 11 10 (y 11 10 + 1)) (A k) = some ((), cS y (y 11 10) (A k) (y 0 0) (y 19 (A k)) (srch (y 60) (A k) (y 59 0).toNat 0) (y 59 0)) := eq
    rw [e0]
    unfold X10_goes_L67b
    rw [if_neg (by omega), er, Yb_some, e_hasPerson, Yb_some, bi_t (by omega), if_neg (by decide), et, Yb_some, eq, Yb_some]
    unfold X10_goes_b120
    rw [Zgd_t (by omega), show (k : Int) + 1 = ((k + 1 : Nat) : Int) by omega, y1x, y00, y19, ysr, y590]
    exact ih (k + 1) fu _ (by omega) (by omega) (RC_st hr)
theorem m_goes_L {A : Int → Int} {w V : ZI} {m : Nat} (hm : m ≤ 60) (hG : ∀ i : Nat, i ≤ m → GI A m i (Wn A w i)) (hs : w 68 14 + m ≤ 150) (h123 : ∀ i : Int, 0 ≤ i → i < m → w 123 i = A i) : ∀ (n k fu : Nat) (y : ZI), k + n = m → n < fu → RM y (Wn A w k) V → ∃ y2, X11_goes_L64 fu y m k = some ((m : Int), y2) ∧ RM y2 (Wn A w m) V := by
  intro n
  induction n with
  | zero =>
    intro k fu y hk hf hr
    obtain ⟨fu, rfl⟩ : ∃ g, fu = g + 1 := ⟨fu - 1, by omega⟩
    obtain rfl : k = m := by omega
    refine ⟨y, ?_, hr⟩
    show X11_goes_L64b (X11_goes_L64 fu) y _ _ = _
    unfold X11_goes_L64b
    rw [if_pos (Int.le_refl _)]
  | succ n ih =>
    intro k fu y hk hf hr
    obtain ⟨fu, rfl⟩ : ∃ g, fu = g + 1 := ⟨fu - 1, by omega⟩
    obtain ⟨g1, g2, g3⟩ := hG k (by omega)
    obtain ⟨q1, q2⟩ := g3 k (Int.le_refl _) (by omega)
    obtain ⟨c1, c2, c3, c4, c5, -, -⟩ := Wn_c A w k
    have hpl := InQ_pl q1
    have hS0 := (K_S g1).1
    have hQ := K_Q g1
    have y123 : y 123 k = A k := by
      rw [hr.1 123 k (by decide), c5]
      exact h123 k (by omega) (by omega)
    have y14 : y 68 14 = (Wn A w k) 68 14 := hr.1 68 14 (by decide)
    have y11 : y 68 11 = (Wn A w k) 68 11 := hr.1 68 11 (by decide)
    have y78 : y 68 78 = (Wn A w k) 68 78 := hr.1 68 78 (by decide)
    have y122 : y 122 = (Wn A w k) 122 := funext fun i => hr.1 122 i (by decide)
    have e0 : X11_goes_L64 (fu + 1) y m k = X11_goes_L64b (X11_goes_L64 fu) y m k := rfl
    have et := m_become (z := y) (p := A k) (by omega)
    generalize hy : Zup (Zup (Zup (Zup y 77 (y 68 14) (A k)) 78 (y 68 14) 3) 79 (y 68 14) (y 68 11)) 68 14 (y 68 14 + 1) = y1 at et
    have z123 : y1 123 k = A k := by rw [← hy]; exact y123
    have z78 : y1 68 78 = (Wn A w k) 68 78 := by rw [← hy]; exact y78
    have z122 : y1 122 = (Wn A w k) 122 := by rw [← hy]; exact y122
    have eq := m_quit (z := y1) (p := A k) (by rw [z78, z122]; exact hQ.2.2.2.2) (by rw [z78]; exact hQ.2.1) (by rw [z78]; exact hQ.2.2.1) (by rw [z78, z122]; exact hpl)
    rw [z78, z122] at eq
    rw [e0]
    unfold X11_goes_L64b
    rw [if_neg (by omega), Zgd_t (by omega), y123, et, Yb_some, Zgd_t (by omega), z123, eq, Yb_some, Zgd_t (by omega), show (k : Int) + 1 = ((k + 1 : Nat) : Int) by omega, ← hy, y14, y11]
    exact ih (k + 1) fu _ (by omega) (by omega) (RM_st hr)
theorem loc_zR {y1 y2 : ZI} {w : Int} (f : FrN y1 y2) : mix (zR y1 w) y2 = zR y2 w := by
  funext k i
  unfold mix
  by_cases c : k < 68
  · have e : y2 k = y1 k := f.k (by omega) (by omega) (by omega) (by omega) (by omega) (by omega)
    have e1 : y2 1 = y1 1 := f.k (by decide) (by decide) (by decide) (by decide) (by decide) (by decide)
    rw [if_pos c, zR_d, zR_d, e1, e]
  · rw [if_neg c, zR_d, if_neg (by omega)]
theorem mix_self {Y V : ZI} (h : ∀ k i, 68 ≤ k → Y k i = V k i) : mix Y V = Y := by
  funext k i
  unfold mix
  by_cases c : k < 68
  · rw [if_pos c]
  · rw [if_neg c, h k i (by omega)]
set_option maxHeartbeats 400000 in
theorem t_goes {n : Int} {z : ZI} (hK : K z) (hN : JN n z) (hn : n ≤ 1000) (q : Int) : Both (F_X10_goes z q) (fun z1 => F_X11_goes z1 q) (fun z2 => K z2 ∧ JN (n + 1) z2) := by
  have hR := hN.R hn
  have hl := links hK
  have hK0 := hK
  obtain ⟨hD, hH, hP, hS, hL, hT, hE, hV, hA, hU, hC, hK, hW, hB, hG, hX, hQ, hO⟩ := hK
  by_cases c1 : q < 0
  · refine Both_ref hK0 hN (w := -4) hn (by omega) ?_ ?_
    · unfold F_X10_goes 
      grind (gen := 20) [Yb_some, Zgd_i, Zl_eq, bi, e_refuse, e_checkRange, rng]
    · show F_X11_goes (zR z (-4)) q = _
      unfold F_X11_goes X11_goes_b39
      grind (gen := 20) [Yb_some, Zgd_i, Zl_eq, bi, zR_d, zR_k, e_no, e_out, rng]
  by_cases c2 : 60 < q
  · refine Both_ref hK0 hN (w := -6) hn (by omega) ?_ ?_
    · unfold F_X10_goes 
      grind (gen := 20) [Yb_some, Zgd_i, Zl_eq, bi, e_refuse, e_checkRange, rng]
    · show F_X11_goes (zR z (-6)) q = _
      unfold F_X11_goes X11_goes_b39
      grind (gen := 20) [Yb_some, Zgd_i, Zl_eq, bi, zR_d, zR_k, e_no, e_out, rng]
  have r0 : rng q 0 60 = 0 := by unfold rng; rw [if_neg (by omega), if_neg (by omega)]
  obtain ⟨y1, y2, m0, h1, h2, h3, h4, h5, h6, h7, h8, h9⟩ := both_list (d := z 68 11) hK0 (by omega)
  have b2 := hQ.2.2.1
  have hK1 := FrL_K h2 hK0
  have hK2 := FrN_K h5 hK1
  have hN1 := JN_fl hN h2
  have hN2 := JN_fn hN1 h5
  have y1c : ∀ i, y1 68 i = z 68 i := fun i => by rw [h2.k (k := 68) (by decide) (by decide) (by decide) (by decide) (by decide) (by decide)]
  have y2c : ∀ k, k < 68 → y2 k = y1 k := fun k c => h5.k (by omega) (by omega) (by omega) (by omega) (by omega) (by omega)
  have y2s : y2 68 14 = z 68 14 := (h5.l (by decide) (by decide)).trans (y1c _)
  have y2d : y2 68 11 = z 68 11 := (h5.l (by decide) (by decide)).trans (y1c _)
  have y11 : y1 11 10 = z 68 14 := ((K_S hK1).2.2.1).trans (y1c _)
  obtain ⟨g, hg⟩ : ∃ g : Nat, min q (m0 : Int) = g := ⟨(min q (m0 : Int)).toNat, by omega⟩
  have hx1 : F_X10_goes z q = Zgd (InR (z 68 14 + g)) (if z 68 14 + g ≤ 150 then X10_goes_L67 Zfuel y1 g 0 else (Yb (F_X10_refuse y1 (-6)) fun r12_ z10_ => some (r12_, z10_))) := by
    unfold F_X10_goes
    rw [e_checkRange, Yb_some, r0, if_pos rfl, hD.1, h1, Yb_some, hg, y11]
  have hm1 : ∀ (Y y3 : ZI), Y 68 11 = z 68 11 → y3 68 14 = z 68 14 → F_X11_findList Y (z 68 11) = some ((m0 : Int), y3) → F_X11_goes Y q = Zgd (InR (z 68 14 + g)) (if z 68 14 + g ≤ 150 then X11_goes_L64 Zfuel y3 g 0 else (Yb (F_X11_no y3 (-6)) fun r5_ z3_ => some (r5_, z3_))) := by
    intro Y y3 k1 k2 k3
    unfold F_X11_goes X11_goes_b39
    rw [e_out, Yb_some, r0, if_pos rfl, k1, k3, Yb_some, k2]
    by_cases c : (m0 : Int) ≤ q
    · rw [if_pos c, show (m0 : Int) = g by omega]
    · rw [if_neg c, show q = (g : Int) by omega]
  by_cases c3 : 150 < z 68 14 + g
  · have hl : F_X11_findList (zR y1 (-6)) (z 68 11) = some ((m0 : Int), zR y2 (-6)) := by
      have e : mix (zR y1 (-6)) y1 = zR y1 (-6) := mix_self (fun k i a => by rw [zR_d, if_neg (by omega)])
      have l := loc_F_X11_findList (V := zR y1 (-6)) y1 (z 68 11)
      rw [e, h4] at l
      rw [l]
      show some ((m0 : Int), mix (zR y1 (-6)) y2) = _
      rw [loc_zR h5]
    refine ⟨-6, zR y1 (-6), mR (zR y2 (-6)) (-6), ?_, ?_, K_ref hK2, JN_ref hN2 (by omega)⟩
    · rw [hx1, Zgd_t (by omega), if_neg (by omega), e_refuse (hN1.R hn) (by omega), Yb_some]
    · show F_X11_goes (zR y1 (-6)) q = _
      rw [hm1 (zR y1 (-6)) (zR y2 (-6)) (y1c _) y2s hl, Zgd_t (by omega), if_neg (by omega), e_no (hN2.R hn) (by omega), Yb_some]
  · have kw : K (Zup y2 41 14 0) := by
      obtain ⟨hD, hH, hP, hS, hL, hT, hE, hV, hA, hU, hC, hK, hW, hB, hG, hX, hQ, hO⟩ := hK2
      exact ⟨(JD_c rfl rfl hD), (JH_c rfl rfl rfl rfl rfl rfl rfl hH), (JP_c rfl rfl rfl rfl rfl rfl rfl rfl rfl rfl rfl rfl hP), (JS_c rfl rfl rfl rfl rfl rfl rfl rfl rfl rfl rfl hS), (JL_c rfl rfl hL), (JT_c rfl rfl rfl rfl rfl hT), (JE_c rfl rfl rfl rfl hE), (JV_c rfl rfl rfl rfl hV), (JA_c rfl rfl rfl rfl hA), (JU_c rfl rfl rfl rfl rfl rfl rfl rfl rfl rfl hU), (JC_c rfl rfl rfl rfl rfl rfl rfl rfl rfl rfl hC), (JK_c rfl rfl rfl rfl rfl rfl rfl rfl rfl hK), (JW_c rfl rfl rfl rfl rfl rfl rfl rfl rfl rfl hW), ⟨hB.1, Or.inl rfl⟩, (JG_c rfl rfl rfl rfl rfl hG), (JX_c rfl rfl rfl rfl rfl hX), (JQ_c rfl rfl rfl rfl rfl hQ), (JO_c rfl rfl rfl rfl rfl rfl rfl rfl rfl rfl rfl hO)⟩
    have g0 : GI (y2 123) g 0 (Zup y2 41 14 0) := by
      refine ⟨kw, rfl, fun j j1 j2 => ?_⟩
      obtain ⟨k, k1, k2, k3⟩ := h8 j j1 (by omega)
      have e1 : stF (Zup y2 41 14 0) = stF z := (show stF (Zup y2 41 14 0) = stF y2 from rfl).trans ((FrN_st h5).trans (FrL_st h2))
      have e2 : (Zup y2 41 14 0) 68 11 = z 68 11 := y2d
      have e3 : y2 123 j = z 122 k := (h7 j j1 (by omega)).symm.trans k2
      rw [e1, e2, e3]
      refine ⟨⟨k, by omega, ?_, ?_⟩, k3⟩
      · show (k : Int) < y2 68 78
        rw [h5.l (by decide) (by decide), y1c]
        have := hQ.2.1
        omega
      · show y2 122 k = _
        rw [h5.k (k := 122) (by decide) (by decide) (by decide) (by decide) (by decide) (by decide), h2.k (k := 122) (by decide) (by decide) (by decide) (by decide) (by decide) (by decide)]
    have hinj : ∀ i j : Int, 0 ≤ i → i < g → 0 ≤ j → j < g → y2 123 i = y2 123 j → i = j := by
      intro i j i1 i2 j1 j2 e
      rw [← h7 i i1 (by omega), ← h7 j j1 (by omega)] at e
      exact h9 i j i1 (by omega) j1 (by omega) e
    have hst : (Zup y2 41 14 0) 68 14 = z 68 14 := y2s
    have hG := GI_all (m := g) g0 hinj (by omega)
    obtain ⟨yN, x1, x2⟩ := x_goes_L (V := y1) (m := g) (by omega) hG (by omega) (by
        have e : (Zup y2 41 14 0) 59 2 = y1 59 2 := by
          show y2 59 2 = _
          rw [y2c 59 (by decide)]
        rw [e, h3]
        omega) (fun i i1 i2 => by
        show y2 61 i = _
        rw [y2c 61 (by decide)]
        exact h7 i i1 (by omega)) g 0 Zfuel y1 (by omega) (by unfold Zfuel; omega) ⟨fun k i a b => by
        show _ = Zup y2 41 14 0 k i
        rw [Zup_d, if_neg b, y2c k a], fun _ _ _ => rfl⟩
    have hYm : ∀ k i, 68 ≤ k → Zup yN 41 14 0 k i = y1 k i := fun k i a => by rw [Zup_d, if_neg (by omega)]; exact x2.2 k i a
    have hl : F_X11_findList (Zup yN 41 14 0) (z 68 11) = some ((m0 : Int), mix (Zup yN 41 14 0) y2) := by
      have l := loc_F_X11_findList (V := Zup yN 41 14 0) y1 (z 68 11)
      rw [mix_self hYm, h4] at l
      rw [l]
      rfl
    obtain ⟨yE, m1, m2⟩ := m_goes_L (V := Zup yN 41 14 0) (m := g) (by omega) hG (by omega) (fun _ _ _ => rfl) g 0 Zfuel (mix (Zup yN 41 14 0) y2) (by omega) (by unfold Zfuel; omega) ⟨fun k i a => by
        show mix (Zup yN 41 14 0) y2 k i = Zup y2 41 14 0 k i
        unfold mix
        rw [if_neg (by omega), Zup_d, if_neg (by omega)], fun k i a => by
        unfold mix
        rw [if_pos a]⟩
    have hE : yE = Wn (y2 123) (Zup y2 41 14 0) g := by
      funext k i
      by_cases c : 68 ≤ k
      · exact m2.1 k i c
      · rw [m2.2 k i (by omega), Zup_d]
        by_cases c2 : k = 41 ∧ i = 14
        · rw [if_pos c2, c2.1, c2.2]
          exact ((hG g (Nat.le_refl _)).2.1).symm
        · rw [if_neg c2]
          exact x2.1 k i (by omega) c2
    obtain ⟨-, -, -, -, -, w1, w69⟩ := Wn_c (y2 123) (Zup y2 41 14 0) g
    refine ⟨g, Zup yN 41 14 0, yE, ?_, ?_, by rw [hE]; exact (hG g (Nat.le_refl _)).1, by rw [hE]; exact JN_up hN2 w1 w69⟩
    · have x1 : X10_goes_L67 Zfuel y1 g 0 = X10_goes_b126 yN g := x1
      rw [hx1, Zgd_t (by omega), if_pos (by omega), x1]
      rfl
    · show F_X11_goes (Zup yN 41 14 0) q = _
      have m1 : X11_goes_L64 Zfuel (mix (Zup yN 41 14 0) y2) g 0 = some ((g : Int), yE) := m1
      rw [hm1 (Zup yN 41 14 0) (mix (Zup yN 41 14 0) y2) ((hYm 68 11 (by decide)).trans (y1c _)) y2s hl, Zgd_t (by omega), if_pos (by omega), m1]
