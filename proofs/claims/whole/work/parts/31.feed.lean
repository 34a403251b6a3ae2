/-! texts: feed -/
def Zfd (z : ZI) (kc kl : Nat) (il t0 : Int) (B : Nat → Int) (m : Nat) : ZI := fun k i => if k = kc ∧ t0 ≤ i ∧ i < t0 + m then B (i - t0).toNat else if k = kl ∧ i = il then t0 + m else z k i
theorem Zfd_s {z : ZI} {kc kl : Nat} {il t0 : Int} {B : Nat → Int} {m : Nat} (h : kc ≠ kl) : Zup (Zup (Zfd z kc kl il t0 B m) kc (t0 + m) (B m)) kl il (t0 + m + 1) = Zfd z kc kl il t0 B (m + 1) := by
  funext k i
  unfold Zup Zfd
  by_cases h1 : k = kl ∧ i = il
  · rw [if_pos h1, if_neg (by omega), if_pos h1]
    omega
  · rw [if_neg h1]
    by_cases h2 : k = kc ∧ i = t0 + m
    · rw [if_pos h2, if_pos (by omega), show (i - t0).toNat = m by omega]
    · rw [if_neg h2]
      by_cases h3 : k = kc ∧ t0 ≤ i ∧ i < t0 + m
      · rw [if_pos h3, if_pos (by omega)]
      · rw [if_neg h3, if_neg h1, if_neg (by omega), if_neg h1]
theorem Zfd_0 {z : ZI} {kc kl : Nat} {il t0 : Int} {B : Nat → Int} (h : z kl il = t0) : Zfd z kc kl il t0 B 0 = z := by
  funext k i
  unfold Zfd
  rw [if_neg (by omega)]
  by_cases h1 : k = kl ∧ i = il
  · rw [if_pos h1, h1.1, h1.2]; omega
  · rw [if_neg h1]
theorem Zfd_l {z : ZI} {kc kl : Nat} {il t0 : Int} {B : Nat → Int} {m : Nat} (h : kc ≠ kl) : Zfd z kc kl il t0 B m kl il = t0 + m := by
  unfold Zfd
  rw [if_neg (by omega), if_pos ⟨rfl, rfl⟩]
theorem Zfd_i {z : ZI} {kc kl : Nat} {il t0 : Int} {B : Nat → Int} {m : Nat} (h : kc ≠ kl) (i : Int) : Zfd z kc kl il t0 B m kc i = if t0 ≤ i ∧ i < t0 + m then B (i - t0).toNat else z kc i := by
  unfold Zfd
  by_cases q : t0 ≤ i ∧ i < t0 + m
  · rw [if_pos q, if_pos ⟨rfl, q⟩]
  · rw [if_neg q, if_neg (fun r => q r.2), if_neg (fun r => h r.1)]
def bX (x : Int) (k : Nat) : Int := ji2b (jl2i (jushrL x (8 * k)))
def bM (x : Int) (k : Nat) : Int := jl2i (jandL (jshrL x (8 * k)) 255)
theorem bX_M (x : Int) {k : Nat} (hk : k < 8) : 0 ≤ bM x k ∧ bM x k ≤ 255 ∧ bX x k = sgn8 (bM x k) := byt x k hk
theorem x_feed_L {z : ZI} {t0 x : Int} {N : Nat} (h : 0 ≤ t0 ∧ N ≤ 8 ∧ t0 + N ≤ 60) : ∀ (n k f : Nat), k + n = N → n < f → X7_takeBytes_L3 f (Zfd z 25 24 1 t0 (bX x) k) N x k = some (t0 + N, Zfd z 25 24 1 t0 (bX x) N) := by
  intro n
  induction n with
  | zero =>
    intro k f hk hf
    obtain ⟨f, rfl⟩ : ∃ g, f = g + 1 := ⟨f - 1, by omega⟩
    show X7_takeBytes_L3b (X7_takeBytes_L3 f) _ _ _ _ = _
    unfold X7_takeBytes_L3b
    obtain rfl : k = N := by omega
    rw [if_pos (by omega), Zfd_l (by decide)]
  | succ n ih =>
    intro k f hk hf
    obtain ⟨f, rfl⟩ : ∃ g, f = g + 1 := ⟨f - 1, by omega⟩
    have b := bX_M x (k := k) (by omega)
    have b1 : -128 ≤ bX x k ∧ bX x k ≤ 127 := by rw [b.2.2]; unfold sgn8; split <;> omega
    have e : Zfd z 25 24 1 t0 (bX x) k 24 1 = t0 + k := Zfd_l (by decide)
    have e2 : ∀ v, Zup (Zfd z 25 24 1 t0 (bX x) k) 25 (t0 + k) v 24 1 = t0 + k := fun v => by rw [Zup_k (by decide), e]
    show X7_takeBytes_L3b (X7_takeBytes_L3 f) _ _ _ _ = _
    unfold X7_takeBytes_L3b
    show (if _ then _ else Zgd _ (Zgd (-128 ≤ bX x k ∧ bX x k ≤ 127) (Zgd _ (Zl (Zup _ 25 _ (bX x k)) _)))) = _
    rw [if_neg (by omega), Zgd_t (by omega), Zgd_t b1, e, Zgd_t (by omega), Zl_eq, e2, Zgd_t (by omega), Zl_eq, Zgd_t (by omega), Zfd_s (by decide)]
    exact ih (k + 1) f (by omega) (by omega)
theorem m_feed_L {z : ZI} {t0 x : Int} {N : Nat} (h : 0 ≤ t0 ∧ N ≤ 8 ∧ t0 + N ≤ 60) : ∀ (n k f : Nat), k + n = N → n < f → X11_feed_L46 f (Zfd z 80 68 21 t0 (bM x) k) N x k = some (t0 + N, Zfd z 80 68 21 t0 (bM x) N) := by
  intro n
  induction n with
  | zero =>
    intro k f hk hf
    obtain ⟨f, rfl⟩ : ∃ g, f = g + 1 := ⟨f - 1, by omega⟩
    show X11_feed_L46b (X11_feed_L46 f) _ _ _ _ = _
    unfold X11_feed_L46b
    obtain rfl : k = N := by omega
    rw [if_pos (by omega), Zfd_l (by decide)]
  | succ n ih =>
    intro k f hk hf
    obtain ⟨f, rfl⟩ : ∃ g, f = g + 1 := ⟨f - 1, by omega⟩
    have e : Zfd z 80 68 21 t0 (bM x) k 68 21 = t0 + k := Zfd_l (by decide)
    have e2 : ∀ v, Zup (Zfd z 80 68 21 t0 (bM x) k) 80 (t0 + k) v 68 21 = t0 + k := fun v => by rw [Zup_k (by decide), e]
    show X11_feed_L46b (X11_feed_L46 f) _ _ _ _ = _
    unfold X11_feed_L46b
    show (if _ then _ else Zgd _ (Zgd _ (Zl (Zup _ 80 _ (bM x k)) _))) = _
    rw [if_neg (by omega), Zgd_t (by omega), e, Zgd_t (by omega), Zl_eq, e2, Zgd_t (by omega), Zl_eq, Zgd_t (by omega), Zfd_s (by decide)]
    exact ih (k + 1) f (by omega) (by omega)
theorem JA_feed {z z1 : ZI} {bx bm : Nat → Int} {N : Nat} (hB : ∀ k, k < 8 → 0 ≤ bm k ∧ bm k ≤ 255 ∧ bx k = sgn8 (bm k)) (hA : JA z) (hN : N ≤ 8) (h : z 68 21 + N ≤ 60) (e1 : z1 24 1 = z 68 21 + N) (e2 : z1 68 21 = z 68 21 + N) (e3 : ∀ i, z1 25 i = if z 68 21 ≤ i ∧ i < z 68 21 + N then bx (i - z 68 21).toNat else z 25 i) (e4 : ∀ i, z1 80 i = if z 68 21 ≤ i ∧ i < z 68 21 + N then bm (i - z 68 21).toNat else z 80 i) : JA z1 := by
  obtain ⟨a1, a2, a3, a4⟩ := hA
  refine ⟨by omega, by omega, by omega, fun i h1 h2 => ?_⟩
  rw [e3, e4]
  by_cases q : z 68 21 ≤ i ∧ i < z 68 21 + N
  · rw [if_pos q, if_pos q]
    exact hB _ (by omega)
  · rw [if_neg q, if_neg q]
    exact a4 i h1 (by omega)
theorem K_feed {z : ZI} (bx bm : Nat → Int) {N : Nat} (hbs : ∀ k, k < 8 → 0 ≤ bm k ∧ bm k ≤ 255 ∧ bx k = sgn8 (bm k)) (hN : N ≤ 8) (h : z 68 21 + N ≤ 60) (hK : K z) : K (Zfd (Zfd z 25 24 1 (z 68 21) bx N) 80 68 21 (z 68 21) bm N) := by
  obtain ⟨hD, hH, hP, hS, hL, hT, hE, hV, hA, hU, hC, hK, hW, hB, hG, hX, hQ, hO⟩ := hK
  exact ⟨(JD_c rfl rfl hD), (JH_c rfl rfl rfl rfl rfl rfl rfl hH), (JP_c rfl rfl rfl rfl rfl rfl rfl rfl rfl rfl rfl rfl hP), (JS_c rfl rfl rfl rfl rfl rfl rfl rfl rfl rfl rfl hS), (JL_c rfl rfl hL), (JT_c rfl rfl rfl rfl rfl hT), (JE_c rfl rfl rfl rfl hE), (JV_c rfl rfl rfl rfl hV), JA_feed hbs hA hN h rfl rfl (fun i => Zfd_i (z := z) (by decide) i) (fun i => Zfd_i (z := Zfd z 25 24 1 (z 68 21) bx N) (by decide) i), (JU_c rfl rfl rfl rfl rfl rfl rfl rfl rfl rfl hU), (JC_c rfl rfl rfl rfl rfl rfl rfl rfl rfl rfl hC), (JK_c rfl rfl rfl rfl rfl rfl rfl rfl rfl hK), (JW_c rfl rfl rfl rfl rfl rfl rfl rfl rfl rfl hW), (JB_c rfl rfl rfl rfl rfl rfl rfl rfl rfl rfl rfl rfl rfl rfl rfl rfl rfl rfl rfl rfl hB), (JG_c rfl rfl rfl rfl rfl hG), (JX_c rfl rfl rfl rfl rfl hX), (JQ_c rfl rfl rfl rfl rfl hQ), (JO_c rfl rfl rfl rfl rfl rfl rfl rfl rfl rfl rfl hO)⟩
theorem JN_feed {n : Int} {z : ZI} (bx bm : Nat → Int) {N : Nat} {t0 : Int} (h : JN n z) : JN (n + 1) (Zfd (Zfd z 25 24 1 t0 bx N) 80 68 21 t0 bm N) := JN_up h rfl rfl
theorem x_feed {z : ZI} {t0 x : Int} {N : Nat} (ht : z 24 1 = t0) (h : 0 ≤ t0 ∧ N ≤ 8 ∧ t0 + N ≤ 60) (h1 : 1 ≤ N) : F_X10_feed z N x = some (t0 + N, Zfd z 25 24 1 t0 (bX x) N) := by
  have e1 := x_feed_L (z := z) (x := x) h N 0 Zfuel (by omega) (by unfold Zfuel; omega)
  have z0 : ((0 : Nat) : Int) = 0 := rfl
  rw [Zfd_0 ht, z0] at e1
  unfold F_X10_feed F_X7_takeBytes
  rw [if_pos (by omega), if_neg (by omega), ht, Zgd_t (by omega), if_pos (by omega), e1, Yb_some]
theorem m_feed {z : ZI} {t0 x : Int} {N : Nat} (ht : z 68 21 = t0) (h : 0 ≤ t0 ∧ N ≤ 8 ∧ t0 + N ≤ 60) (h1 : 1 ≤ N) : F_X11_feed z N x = some (t0 + N, Zfd z 80 68 21 t0 (bM x) N) := by
  have e1 := m_feed_L (z := z) (x := x) h N 0 Zfuel (by omega) (by unfold Zfuel; omega)
  have z0 : ((0 : Nat) : Int) = 0 := rfl
  rw [Zfd_0 ht, z0] at e1
  unfold F_X11_feed X11_feed_b31
  rw [e_out, Yb_some, show rng (N : Int) 1 8 = 0 by (unfold rng; rw [if_neg (by omega), if_neg (by omega)]), if_pos rfl, ht, Zgd_t (by omega), if_pos (by omega), if_pos rfl, e1]
theorem m_feed_n {z : ZI} {m x w : Int} (hw : w ≠ 0) (h : rng m 1 8 = w) : F_X11_feed z m x = Yb (F_X11_no z w) fun r4_ z2_ => some (r4_, z2_) := by
  unfold F_X11_feed
  rw [e_out, Yb_some, h, if_neg hw]
  exact if_neg hw
theorem m_feed_n6 {z : ZI} {m x : Int} (h : rng m 1 8 = 0) (h2 : InR (z 68 21 + m)) (h3 : ¬ z 68 21 + m ≤ 60) : F_X11_feed z m x = Yb (F_X11_no z (-6)) fun r4_ z2_ => some (r4_, z2_) := by
  unfold F_X11_feed
  rw [e_out, Yb_some, h, if_pos rfl, Zgd_t h2, if_neg h3]
  exact if_neg (by decide)
theorem t_feed {n : Int} {z : ZI} (hK : K z) (hN : JN n z) (hn : n ≤ 1000) (m x : Int) : Both (F_X10_feed z m x) (fun z1 => F_X11_feed z1 m x) (fun z2 => K z2 ∧ JN (n + 1) z2) := by
  have hR := hN.R hn
  have hl := links hK
  have hK0 := hK
  obtain ⟨hD, hH, hP, hS, hL, hT, hE, hV, hA, hU, hC, hK, hW, hB, hG, hX, hQ, hO⟩ := hK
  by_cases c1 : m < 1
  · refine Both_ref hK0 hN (w := -4) hn (by omega) ?_ ?_
    · unfold F_X10_feed
      rw [if_neg (by omega), e_refuse hR (by omega), Yb_some]
    · rw [m_feed_n (w := -4) (by decide) (by unfold rng; rw [if_pos c1]), e_no hR (by omega), Yb_some]
  by_cases c2 : 8 < m
  · refine Both_ref hK0 hN (w := -6) hn (by omega) ?_ ?_
    · unfold F_X10_feed X10_feed_b32
      rw [if_pos (by omega), if_pos c2, e_refuse hR (by omega), Yb_some]
    · rw [m_feed_n (w := -6) (by decide) (by unfold rng; rw [if_neg c1, if_pos c2]), e_no hR (by omega), Yb_some]
  have hr0 : rng m 1 8 = 0 := by unfold rng; rw [if_neg c1, if_neg c2]
  by_cases c3 : 60 < z 68 21 + m
  · refine Both_ref hK0 hN (w := -6) hn (by omega) ?_ ?_
    · unfold F_X10_feed X10_feed_b32
      rw [if_pos (by omega), if_neg c2, Zgd_t (by omega), if_neg (by omega), e_refuse hR (by omega), Yb_some]
    · have e : (zR z (-6)) 68 21 = z 68 21 := rfl
      rw [m_feed_n6 hr0 (by omega) (by omega), e_no hR (by omega), Yb_some]
  obtain ⟨N, rfl⟩ : ∃ N : Nat, m = N := ⟨m.toNat, by omega⟩
  have hb : 0 ≤ z 68 21 ∧ N ≤ 8 ∧ z 68 21 + N ≤ 60 := by omega
  refine ⟨z 68 21 + N, Zfd z 25 24 1 (z 68 21) (bX x) N, Zfd (Zfd z 25 24 1 (z 68 21) (bX x) N) 80 68 21 (z 68 21) (bM x) N, x_feed hA.1 hb (by omega), m_feed rfl hb (by omega), K_feed _ _ (fun k hk => bX_M x hk) hb.2.1 hb.2.2 hK0, JN_feed _ _ hN⟩
