/-! texts: draw and points, the reference -/
section
variable {k51 : ZI → Int → Int → Int → Int → Option (Int × ZI)} {z : ZI} {c d r p : Int} {f : Int → Int}
theorem m_b186 {y : ZI} (hp : 0 ≤ p ∧ p < 60) : X11_drawOf_b186 k51 y c d r p = k51 y c d r (p + 1) := by
  unfold X11_drawOf_b186
  rw [Zgd_t (by omega)]
theorem m_b184 {y2 y3 : Int} (hp : 0 ≤ p ∧ p < 60) (h : InR (y2 + y3)) : X11_drawOf_b184 k51 (Zro z 85 f) c d r p 115 y2 y3 = k51 (Zro z 85 (fupd f 115 (y2 + y3))) c d r (p + 1) := by
  unfold X11_drawOf_b184
  rw [Zgd_t h, Zgd_t (by omega), Zl_eq, Zro_u, m_b186 hp]
theorem m_b158 {y2 y3 : Int} (hP : JP z) (hS : JS z) (hp : 0 ≤ p ∧ p < z 68 13) (h : InR (y2 + y3)) (hb : 0 ≤ f 115 ∧ f 115 ≤ 60) : X11_drawOf_b158 k51 (Zro z 85 f) c d r p 111 y2 y3 = k51 (Zro z 85 (fupd (fupd f 111 (y2 + y3)) 115 (f 115 + if stF z p d = 2 then 1 else 0))) c d r (p + 1) := by
  have h60 := hP.2.1
  have es := m_stateOn (z := Zro z 85 (fupd f 111 (y2 + y3))) (d := d) (JP_c rfl rfl rfl rfl rfl rfl rfl rfl rfl rfl rfl rfl hP) (JS_c rfl rfl rfl rfl rfl rfl rfl rfl rfl rfl rfl hS) hp
  have es2 : stF (Zro z 85 (fupd f 111 (y2 + y3))) p d = stF z p d := rfl
  have e5 : fupd f 111 (y2 + y3) 115 = f 115 := rfl
  unfold X11_drawOf_b158
  rw [Zgd_t h, Zgd_t (by omega), Zl_eq, Zro_u, Zgd_t (by omega), es, es2, Yb_some, Zro_s, e5]
  by_cases c2 : stF z p d = 2
  · rw [if_pos c2, if_pos c2, m_b184 (by omega) (by omega)]
  · rw [if_neg c2, if_neg c2, m_b184 (by omega) (by omega)]
theorem m_b128 {y2 y3 : Int} (hD : JD z) (hP : JP z) (hS : JS z) (hp : 0 ≤ p ∧ p < z 68 13) (hd : 0 ≤ d ∧ d ≤ 999) (h : InR (y2 + y3)) (hb : 0 ≤ f 115 ∧ f 115 ≤ 60) (hb2 : 0 ≤ f 111 ∧ f 111 ≤ 60) : X11_drawOf_b128 k51 (Zro z 85 f) c d r p 107 y2 y3 = k51 (Zro z 85 (fupd (fupd (fupd f 107 (y2 + y3)) 111 (f 111 + if 21900 < d - z 74 p then 1 else 0)) 115 (f 115 + if stF z p d = 2 then 1 else 0))) c d r (p + 1) := by
  have hd9 := hD.2
  have h60 := hP.2.1
  have hq := hP.2.2.2 p hp.1 hp.2
  have e5 : fupd f 107 (y2 + y3) 111 = f 111 := rfl
  have e6 : fupd f 107 (y2 + y3) 115 = f 115 := rfl
  unfold X11_drawOf_b128
  rw [Zgd_t h, Zgd_t (by omega), Zl_eq, Zro_u, Zgd_t (by omega), Zgd_t (by omega), Zro_k (k := 74) (by decide), Zgd_t (by omega), Zro_s, e5]
  by_cases c2 : d - z 74 p ≤ 21900
  · rw [if_pos c2, if_neg (by omega), m_b158 (f := fupd f 107 (y2 + y3)) hP hS hp (by omega) hb, e6]
  · rw [if_neg c2, if_pos (by omega), m_b158 (f := fupd f 107 (y2 + y3)) hP hS hp (by omega) hb, e6]
end
def mLs (z : ZI) (h d : Int) (k : Nat) (b : Int) : Int := if b = 110 then lcZ z h d 0 k else if b = 107 then lcZ z h d 1 k else if b = 111 then lcZ z h d 2 k else if b = 115 then lcZ z h d 3 k else 0
theorem m_dl_L {z : ZI} {c d r : Int} (hD : JD z) (hP : JP z) (hS : JS z) (hd : 0 ≤ d ∧ d ≤ 999) (hc : 0 ≤ c ∧ c < 40) : ∀ (n k fu : Nat) (f : Int → Int), k + n = (z 68 13).toNat → n < fu → (∀ b, isLet b → f b = mLs z (z 88 c) d k b) → ∃ g, X11_drawOf_L51 fu (Zro z 85 f) c d r k = X11_drawOf_b192 (Zro z 85 g) c d r ∧ (∀ b, isLet b → g b = mLs z (z 88 c) d (z 68 13).toNat b) := by
  have hd9 := hD.2
  have hp0 := hP.1
  have h60 := hP.2.1
  intro n
  induction n with
  | zero =>
    intro k fu f hk hf hg
    obtain ⟨fu, rfl⟩ : ∃ g, fu = g + 1 := ⟨fu - 1, by omega⟩
    obtain rfl : k = (z 68 13).toNat := by omega
    refine ⟨f, ?_, hg⟩
    show X11_drawOf_L51b (X11_drawOf_L51 fu) (Zro z 85 f) c d r _ = _
    unfold X11_drawOf_L51b
    rw [Zro_k (by decide), if_pos (by omega)]
  | succ n ih =>
    intro k fu f hk hf hg
    obtain ⟨fu, rfl⟩ : ∃ g, fu = g + 1 := ⟨fu - 1, by omega⟩
    have hp : 0 ≤ (k : Int) ∧ (k : Int) < z 68 13 := by omega
    have hq := hP.2.2.2 k hp.1 hp.2
    have us : ∀ q, lcZ z (z 88 c) d q (k + 1) = lcZ z (z 88 c) d q k + (if z 73 k = z 88 c ∧ (stF z k d = 0 ∨ stF z k d = 2) then lqS q (d - z 74 k) (stF z k d) else 0) := fun _ => rfl
    have lr : ∀ q, 0 ≤ lcZ z (z 88 c) d q k ∧ lcZ z (z 88 c) d q k ≤ k := fun q => lcR_r _ _ _ _ _ q k
    have eh := m_isHere (z := Zro z 85 f) (d := d) (JP_c rfl rfl rfl rfl rfl rfl rfl rfl rfl rfl rfl rfl hP) (JS_c rfl rfl rfl rfl rfl rfl rfl rfl rfl rfl rfl hS) hp
    have es : stF (Zro z 85 f) k d = stF z k d := rfl
    rw [es] at eh
    have e0 : X11_drawOf_L51 (fu + 1) (Zro z 85 f) c d r k = X11_drawOf_L51b (X11_drawOf_L51 fu) (Zro z 85 f) c d r k := rfl
    have skip : ¬ (z 73 k = z 88 c ∧ (stF z k d = 0 ∨ stF z k d = 2)) → ∀ b, isLet b → f b = mLs z (z 88 c) d (k + 1) b := by
      intro nc b hb
      rw [hg b hb]
      unfold mLs
      simp only [us, if_neg nc, Int.add_zero]
    have b186 : X11_drawOf_b186 (X11_drawOf_L51 fu) (Zro z 85 f) c d r k = X11_drawOf_L51 fu (Zro z 85 f) c d r ((k + 1 : Nat) : Int) := by
      rw [m_b186 (by omega), show (k : Int) + 1 = ((k + 1 : Nat) : Int) by omega]
    rw [e0]
    unfold X11_drawOf_L51b
    rw [Zro_k (k := 68) (by decide), if_neg (by omega), Zgd_t (by omega), Zgd_t (by omega), Zro_k (k := 73) (by decide), Zro_k (k := 88) (by decide)]
    by_cases c1 : z 73 k = z 88 c
    · rw [if_pos c1, eh, Yb_some]
      by_cases c2 : stF z k d = 0 ∨ stF z k d = 2
      · have l0 := lr 0
        have l1 := lr 1
        have l2 := lr 2
        have l3 := lr 3
        have f110 : f 110 = lcZ z (z 88 c) d 0 k := hg 110 (by decide)
        have f107 : f 107 = lcZ z (z 88 c) d 1 k := hg 107 (by decide)
        have f111 : f 111 = lcZ z (z 88 c) d 2 k := hg 111 (by decide)
        have f115 : f 115 = lcZ z (z 88 c) d 3 k := hg 115 (by decide)
        have f100 : f 100 = 0 := hg 100 (by decide)
        have f97 : f 97 = 0 := hg 97 (by decide)
        have f116 : f 116 = 0 := hg 116 (by decide)
        have f99 : f 99 = 0 := hg 99 (by decide)
        have k107 : fupd f 110 (f 110 + 1) 107 = f 107 := rfl
        have k111 : fupd f 110 (f 110 + 1) 111 = f 111 := rfl
        have k115 : fupd f 110 (f 110 + 1) 115 = f 115 := rfl
        have key : ∀ v, (v = f 107 + if d - z 74 k < 1825 then 1 else 0) → ∃ g, X11_drawOf_L51 fu (Zro z 85 (fupd (fupd (fupd (fupd f 110 (f 110 + 1)) 107 v) 111 (f 111 + if 21900 < d - z 74 k then 1 else 0)) 115 (f 115 + if stF z k d = 2 then 1 else 0))) c d r ((k + 1 : Nat) : Int) = X11_drawOf_b192 (Zro z 85 g) c d r ∧ (∀ b, isLet b → g b = mLs z (z 88 c) d (z 68 13).toNat b) := by
          intro v hv
          refine ih (k + 1) fu _ (by omega) (by omega) (fun b hb => ?_)
          have u0 := us 0
          have u1 := us 1
          have u2 := us 2
          have u3 := us 3
          rw [if_pos ⟨c1, c2⟩] at u0 u1 u2 u3
          have w0 : lqS 0 (d - z 74 k) (stF z k d) = 1 := rfl
          have w1 : lqS 1 (d - z 74 k) (stF z k d) = if d - z 74 k < 1825 then 1 else 0 := rfl
          have w2 : lqS 2 (d - z 74 k) (stF z k d) = if 21900 < d - z 74 k then 1 else 0 := rfl
          have w3 : lqS 3 (d - z 74 k) (stF z k d) = if stF z k d = 2 then 1 else 0 := rfl
          rw [w0, ← f110] at u0
          rw [w1, ← f107, ← hv] at u1
          rw [w2, ← f111] at u2
          rw [w3, ← f115] at u3
          rcases hb with q | q | q | q | q | q | q | q <;> subst q
          · exact u0.symm
          · exact u1.symm
          · exact u2.symm
          · exact u3.symm
          · exact f100
          · exact f97
          · exact f116
          · exact f99
        rw [bi_t c2, if_neg (by decide), Zgd_t (by omega), Zro_s, Zgd_t (by omega), Zgd_t (by omega), Zl_eq, Zro_u, Zgd_t (by omega), Zgd_t (by omega), Zro_k (k := 74) (by decide), Zgd_t (by omega), Zro_s, k107]
        by_cases c3 : 1825 ≤ d - z 74 k
        · rw [if_pos c3, m_b128 hD hP hS hp hd (by omega) (by omega) (by omega), k111, k115]
          exact key _ (by rw [if_neg (by omega)])
        · rw [if_neg c3, m_b128 hD hP hS hp hd (by omega) (by omega) (by omega), k111, k115]
          exact key _ (by rw [if_pos (by omega)])
      · rw [bi_f c2, if_pos rfl, b186]
        exact ih (k + 1) fu f (by omega) (by omega) (skip (fun q => c2 q.2))
    · rw [if_neg c1, b186]
      exact ih (k + 1) fu f (by omega) (by omega) (skip (fun q => c1 q.1))
theorem m_drawOf {z : ZI} {c d : Int} (hU : JU z) (hD : JD z) (hP : JP z) (hS : JS z) (hd : 0 ≤ d ∧ d ≤ 999) (hc : 0 ≤ c ∧ c < 40) (hs : 0 ≤ z 89 c ∧ z 89 c ≤ 999) (h1 : z 89 c ≤ d) (h2 : z 90 c < 0 ∨ d < z 90 c) : ∃ z2, F_X11_drawOf z c d = some (dwS z (z 88 c) d (z 89 c), z2) ∧ FrM z z2 := by
  have hd9 := hD.2
  have fr := frc_r hU 0 d
  have e1 : F_X11_drawOf z c d = X11_drawOf_b31 z c d := by
    unfold F_X11_drawOf
    rw [Zgd_t (by omega), if_neg (by omega), Zgd_t (by omega)]
    by_cases q : z 90 c < 0
    · rw [if_pos q]
    · rw [if_neg q, Zgd_t (by omega), if_pos (by omega)]
  rw [e1]
  unfold X11_drawOf_b31 dwS
  rw [m_force hU, Yb_some]
  by_cases q : frc z 0 d = -9
  · rw [if_neg (by omega), if_pos q]
    exact ⟨z, rfl, FrM.rf z⟩
  · rw [if_pos (by omega), if_neg q, m_noF, Yb_some]
    obtain ⟨g, e, eg⟩ := m_dl_L (z := z) (c := c) (d := d) (r := frc z 0 d) hD hP hS hd hc (z 68 13).toNat 0 Zfuel (fun i => if 0 ≤ i ∧ i < 128 then 0 else z 85 i) (by omega) (by have := hP.2.1; unfold Zfuel; omega) (fun b hb => by
      rw [if_pos (by omega)]
      have : ∀ q, lcZ z (z 88 c) d q 0 = 0 := fun _ => rfl
      unfold mLs
      simp only [this]
      grind)
    have e : X11_drawOf_L51 Zfuel (Zro z 85 fun i => if 0 ≤ i ∧ i < 128 then 0 else z 85 i) c d (frc z 0 d) 0 = _ := e
    have lr : ∀ q, 0 ≤ lcZ z (z 88 c) d q (z 68 13).toNat ∧ lcZ z (z 88 c) d q (z 68 13).toNat ≤ 60 := by
      intro q
      have := lcR_r (z 73) (z 74) (stF z) (z 88 c) d q (z 68 13).toNat
      have := hP.2.1
      unfold lcZ
      omega
    have r0 := lr 0
    have r1 := lr 1
    have r2 := lr 2
    have r3 := lr 3
    have gl : ∀ b, isLet b → dLet z (z 88 c) d (z 89 c) b = fupd g 100 (d - z 89 c) b := by
      intro b hb
      have q := eg b hb
      unfold fupd dLet
      unfold mLs at q
      grind
    obtain ⟨z2, j1, j2⟩ := m_worth (z := Zro z 85 (fupd g 100 (d - z 89 c))) (r := frc z 0 d) (lt := dLet z (z 88 c) d (z 89 c)) (JU_c rfl rfl rfl rfl rfl rfl rfl rfl rfl rfl hU) (by show 0 ≤ frc z 0 d ∧ frc z 0 d < z 68 22; omega) (fun b hb => by rw [Zro_s]; exact gl b hb) (fun b hb => by
      rw [Zro_s, ← gl b hb]
      unfold dLet
      repeat' split
      all_goals omega)
    refine ⟨z2, ?_, (FrM_85 z _).tr (FrM_W j2)⟩
    have j1 : F_X11_worth (Zro z 85 (fupd g 100 (d - z 89 c))) (frc z 0 d) = some (wrS z (frc z 0 d) (dLet z (z 88 c) d (z 89 c)), z2) := j1
    rw [e]
    unfold X11_drawOf_b192 X11_drawOf_b239
    rw [Zgd_t (by omega), Zro_k (k := 89) (by decide), Zgd_t (by omega), Zgd_t (by omega), Zl_eq, Zro_u, j1, Yb_some]
    generalize wrS z (frc z 0 d) (dLet z (z 88 c) d (z 89 c)) = v
    unfold clampS
    by_cases k1 : 0 ≤ v
    · rw [if_pos k1]
      by_cases k2 : v ≤ 9999
      · rw [if_pos k2, show max 0 (min 9999 v) = v by omega]
      · rw [if_neg k2, show max 0 (min 9999 v) = 9999 by omega]
    · rw [if_neg k1, show max 0 (min 9999 v) = 0 by omega]
theorem m_pt85 {z : ZI} {p d r s : Int} {g : Int → Int} (hU : JU z) (hD : JD z) (hP : JP z) (hS : JS z) (hp : 0 ≤ p ∧ p < z 68 13) (hd : 0 ≤ d ∧ d ≤ 999) (hr : 0 ≤ r ∧ r < z 68 22) (hs : s = if stF z p d = 2 then 1 else 0) (hg : ∀ b, isLet b → b ≠ 115 → b ≠ 110 → g b = pLet z p d b) : ∃ z2, X11_pointsOf_b85 (Zro z 85 g) p d r 115 s = some (wrS z r (pLet z p d), z2) ∧ FrM z z2 := by
  have hd9 := hD.2
  have hq := hP.2.2.2 p hp.1 hp.2
  have h60 := hP.2.1
  have hh := hereH_b (z := z) (z 73 p) d hP
  have hdv := Int.natAbs_tdiv_le_natAbs (d - z 74 p) 365
  have hs2 : 0 ≤ s ∧ s ≤ 1 := by rw [hs]; split <;> decide
  have e73 : (Zro z 85 (fupd g 115 s)) 73 p = z 73 p := rfl
  have eh := m_hereOf (z := Zro z 85 (fupd g 115 s)) (h := z 73 p) (d := d) (JP_c rfl rfl rfl rfl rfl rfl rfl rfl rfl rfl rfl rfl hP) (JS_c rfl rfl rfl rfl rfl rfl rfl rfl rfl rfl rfl hS)
  have eh2 : hereH (Zro z 85 (fupd g 115 s)) (z 73 p) d = hereH z (z 73 p) d := rfl
  unfold X11_pointsOf_b85
  rw [Zgd_t (by omega), Zl_eq, Zro_u, Zgd_t (by omega), e73, eh, eh2, Yb_some, Zgd_t (by omega), Zl_eq, Zro_u]
  have gl : ∀ b, isLet b → pLet z p d b = fupd (fupd g 115 s) 110 (hereH z (z 73 p) d) b := by
    intro b hb
    have q := hg b hb
    unfold fupd
    by_cases q1 : b = 110
    · rw [if_pos q1, q1]; rfl
    · rw [if_neg q1]
      by_cases q2 : b = 115
      · rw [if_pos q2, q2, hs]; rfl
      · rw [if_neg q2, q q2 q1]
  obtain ⟨z2, j1, j2⟩ := m_worth (z := Zro z 85 (fupd (fupd g 115 s) 110 (hereH z (z 73 p) d))) (r := r) (lt := pLet z p d) (JU_c rfl rfl rfl rfl rfl rfl rfl rfl rfl rfl hU) hr (fun b hb => by rw [Zro_s]; exact gl b hb) (fun b hb => by
    rw [Zro_s, ← gl b hb]
    unfold pLet
    repeat' split
    all_goals omega)
  have j1 : F_X11_worth (Zro z 85 (fupd (fupd g 115 s) 110 (hereH z (z 73 p) d))) r = some (wrS z r (pLet z p d), z2) := j1
  refine ⟨z2, ?_, (FrM_85 z _).tr (FrM_W j2)⟩
  rw [j1, Yb_some]
theorem m_pointsOf {z : ZI} {p d : Int} (hU : JU z) (hD : JD z) (hP : JP z) (hS : JS z) (hp : 0 ≤ p ∧ p < z 68 13) (hd : 0 ≤ d ∧ d ≤ 999) : ∃ z2, F_X11_pointsOf z p d = some (ptS z p d, z2) ∧ FrM z z2 := by
  have hd9 := hD.2
  have fr := frc_r hU 1 d
  have hq := hP.2.2.2 p hp.1 hp.2
  have h60 := hP.2.1
  unfold F_X11_pointsOf ptS
  rw [m_force hU, Yb_some]
  by_cases c : frc z 1 d = -9
  · rw [if_neg (by omega), if_pos c]
    exact ⟨z, rfl, FrM.rf z⟩
  · rw [if_pos (by omega), if_neg c, m_noF, Yb_some]
    generalize hg0 : (fun i => if 0 ≤ i ∧ i < 128 then (0 : Int) else z 85 i) = g0
    have hdv := Int.natAbs_tdiv_le_natAbs (d - z 74 p) 365
    rw [Zgd_t (by omega), Zro_k (k := 74) (by decide), Zgd_t (by omega), Zgd_t (by omega), Zl_eq, Zro_u, Zgd_t (by omega), Zgd_t (by omega), Zro_k (k := 75) (by decide), Zl_eq, Zro_u, Zgd_t (by omega), Zro_k (k := 76) (by decide), Zgd_t (by omega), Zgd_t (by omega), Zl_eq, Zro_u]
    generalize hG : fupd (fupd (fupd g0 97 ((d - z 74 p).tdiv 365)) 116 (z 75 p)) 99 (d - z 76 p) = G
    have es := m_stateOn (z := Zro z 85 G) (d := d) (JP_c rfl rfl rfl rfl rfl rfl rfl rfl rfl rfl rfl rfl hP) (JS_c rfl rfl rfl rfl rfl rfl rfl rfl rfl rfl rfl hS) hp
    have es2 : stF (Zro z 85 G) p d = stF z p d := rfl
    have gz : ∀ i, 0 ≤ i → i < 128 → g0 i = 0 := by
      intro i h1 h2
      rw [← hg0]
      exact if_pos ⟨h1, h2⟩
    have hg : ∀ b, isLet b → b ≠ 115 → b ≠ 110 → G b = pLet z p d b := by
      intro b hb b1 b2
      have q := gz b (by omega) (by omega)
      rw [← hG]
      unfold fupd pLet
      grind
    rw [es, es2, Yb_some]
    by_cases c2 : stF z p d = 2
    · rw [if_pos c2]
      exact m_pt85 hU hD hP hS hp hd (by omega) (by rw [if_pos c2]) hg
    · rw [if_neg c2]
      exact m_pt85 hU hD hP hS hp hd (by omega) (by rw [if_neg c2]) hg
theorem JN_fx {n : Int} {z z2 : ZI} (h : JN n z) (f : FrX z z2) : JN n z2 := by
  intro i a b
  rw [f 1 (by decide) (by decide) (by decide), f 69 (by decide) (by decide) (by decide)]
  exact h i a b
theorem JN_fm {n : Int} {z z2 : ZI} (h : JN n z) (f : FrM z z2) : JN n z2 := by
  intro i a b
  rw [f.k (k := 1) (by decide) (by decide) (by decide) (by decide), f.k (k := 69) (by decide) (by decide) (by decide) (by decide)]
  exact h i a b
theorem ptS_fx {z z2 : ZI} (f : FrX z z2) (p d : Int) : ptS z2 p d = ptS z p d := by
  rw [f.eq]
  rfl
theorem ptS_fm {z z2 : ZI} (f : FrM z z2) (p d : Int) : ptS z2 p d = ptS z p d := by
  rw [f.eq]
  rfl
theorem dwS_fx {z z2 : ZI} (f : FrX z z2) (h d s : Int) : dwS z2 h d s = dwS z h d s := by
  rw [f.eq]
  rfl
theorem K_U {z : ZI} (h : K z) : JU z := by
  obtain ⟨hD, hH, hP, hS, hL, hT, hE, hV, hA, hU, hC, hK, hW, hB, hG, hX, hQ, hO⟩ := h
  exact hU
theorem K_P {z : ZI} (h : K z) : JP z := by
  obtain ⟨hD, hH, hP, hS, hL, hT, hE, hV, hA, hU, hC, hK, hW, hB, hG, hX, hQ, hO⟩ := h
  exact hP
theorem K_S {z : ZI} (h : K z) : JS z := by
  obtain ⟨hD, hH, hP, hS, hL, hT, hE, hV, hA, hU, hC, hK, hW, hB, hG, hX, hQ, hO⟩ := h
  exact hS
theorem K_D {z : ZI} (h : K z) : JD z := by
  obtain ⟨hD, hH, hP, hS, hL, hT, hE, hV, hA, hU, hC, hK, hW, hB, hG, hX, hQ, hO⟩ := h
  exact hD
