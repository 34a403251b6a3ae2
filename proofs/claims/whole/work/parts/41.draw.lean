/-! texts: draw and points -/
def lqS (q ag s : Int) : Int := if q = 0 then 1 else if q = 1 then (if ag < 1825 then 1 else 0) else if q = 2 then (if 21900 < ag then 1 else 0) else (if s = 2 then 1 else 0)
def lcR (ph bo : Int → Int) (st : Int → Int → Int) (h d q : Int) : Nat → Int
  | 0 => 0
  | n + 1 => lcR ph bo st h d q n + (if ph n = h ∧ (st n d = 0 ∨ st n d = 2) then lqS q (d - bo n) (st n d) else 0)
theorem lqS_r (q ag s : Int) : 0 ≤ lqS q ag s ∧ lqS q ag s ≤ 1 := by
  unfold lqS
  repeat' split
  all_goals omega
theorem lcR_r (ph bo : Int → Int) (st : Int → Int → Int) (h d q : Int) : ∀ n : Nat, 0 ≤ lcR ph bo st h d q n ∧ lcR ph bo st h d q n ≤ n
  | 0 => ⟨Int.le_refl _, Int.le_refl _⟩
  | n + 1 => by
    have i := lcR_r ph bo st h d q n
    have j := lqS_r q (d - bo n) (st n d)
    unfold lcR
    split <;> omega
def lcZ (z : ZI) (h d q : Int) (n : Nat) : Int := lcR (z 73) (z 74) (stF z) h d q n
def dLet (z : ZI) (h d s b : Int) : Int := if b = 110 then lcZ z h d 0 (z 68 13).toNat else if b = 107 then lcZ z h d 1 (z 68 13).toNat else if b = 111 then lcZ z h d 2 (z 68 13).toNat else if b = 115 then lcZ z h d 3 (z 68 13).toNat else if b = 100 then d - s else 0
def pLet (z : ZI) (p d b : Int) : Int := if b = 110 then hereH z (z 73 p) d else if b = 115 then (if stF z p d = 2 then 1 else 0) else if b = 97 then (d - z 74 p).tdiv 365 else if b = 116 then z 75 p else if b = 99 then d - z 76 p else 0
/-- the worth of rule r's text -/
def wrS (z : ZI) (r : Int) (lt : Int → Int) : Int := (pS (fun i => z 81 (60 * r + i)) (z 82 r) lt 6 0).1
theorem wrS_c {z : ZI} {r : Int} {lt lt2 : Int → Int} (hU : JU z) (h : 0 ≤ r ∧ r < z 68 22) (e : ∀ b, isLet b → lt b = lt2 b) : wrS z r lt = wrS z r lt2 := by
  obtain ⟨u1, u2, u3, u4⟩ := hU
  obtain ⟨v1, v2, v3, v4, v5, v6, v7⟩ := u4 r h.1 h.2
  have key : ∀ l : Int → Int, fauS (z 82 r) (pS (fun i => z 81 (60 * r + i)) (z 82 r) l 6 0) = -9 := by
    intro l
    have pe := par_eq (fun i => z 81 (60 * r + i)) l ⟨v4, v5⟩ (fun t h1 h2 => (v6 t h1 h2).1)
    apply Classical.byContradiction
    intro q
    rw [if_neg q] at pe
    rw [pe] at v7
    exact absurd v7 (show ¬ (0 : Int) = 1 by decide)
  have e1 := w_all (a := fun i => z 81 (60 * r + i)) (fa := lt2) ⟨v4, v5⟩ e (key lt)
  have e2 := w_all (a := fun i => z 81 (60 * r + i)) (fa := lt2) ⟨v4, v5⟩ (fun _ _ => rfl) (key lt2)
  rw [e1] at e2
  exact Option.some.inj e2
/-! the class -/
theorem x_add63 {z : ZI} {p d : Int} {f : Int → Int} (hP : JP z) (hS : JS z) (hp : 0 ≤ p ∧ p < z 68 13) (hb : 0 ≤ f 3 ∧ f 3 ≤ 100) : X7_addToLetters_b63 (Zro z 31 f) p d = some ((), Zro z 31 (if stF z p d = 2 then fupd f 3 (f 3 + 1) else f)) := by
  unfold X7_addToLetters_b63 X7_addToLetters_b86
  rw [x_stateOn (z := Zro z 31 f) (JP_c rfl rfl rfl rfl rfl rfl rfl rfl rfl rfl rfl rfl hP) (JS_c rfl rfl rfl rfl rfl rfl rfl rfl rfl rfl rfl hS) hp, Yb_some]
  have e : stF (Zro z 31 f) p d = stF z p d := rfl
  rw [e]
  by_cases h : stF z p d = 2
  · rw [if_pos h, if_pos h, Zro_s, Zgd_t (by omega), Zgd_t (by omega), Zgd_t (by omega), Zl_eq, Zro_u]
  · rw [if_neg h, if_neg h]
theorem x_add42 {z : ZI} {p d ag : Int} {f : Int → Int} (hP : JP z) (hS : JS z) (hp : 0 ≤ p ∧ p < z 68 13) (hb : ∀ i, 0 ≤ i → i < 8 → 0 ≤ f i ∧ f i ≤ 90) : ∃ g, X7_addToLetters_b42 (Zro z 31 f) p d ag = some ((), Zro z 31 g) ∧ ∀ i, g i = f i + (if (i = 2 ∧ 21900 < ag) ∨ (i = 3 ∧ stF z p d = 2) then 1 else 0) := by
  have b2 := hb 2 (by decide) (by decide)
  have b3 := hb 3 (by decide) (by decide)
  unfold X7_addToLetters_b42
  by_cases h : ag ≤ 21900
  · rw [if_pos h, x_add63 hP hS hp (by omega)]
    refine ⟨_, rfl, fun i => ?_⟩
    by_cases h2 : stF z p d = 2
    · rw [if_pos h2]
      unfold fupd
      by_cases h3 : i = 3
      · rw [if_pos h3, if_pos (Or.inr ⟨h3, h2⟩), h3]
      · rw [if_neg h3, if_neg (by omega)]; omega
    · rw [if_neg h2, if_neg (by omega)]; omega
  · rw [if_neg h, Zro_s, Zgd_t (by omega), Zgd_t (by omega), Zgd_t (by omega), Zl_eq, Zro_u]
    have b3' : 0 ≤ fupd f 2 (f 2 + 1) 3 ∧ fupd f 2 (f 2 + 1) 3 ≤ 100 := ⟨b3.1, Int.le_trans b3.2 (by decide)⟩
    rw [x_add63 hP hS hp b3']
    refine ⟨_, rfl, fun i => ?_⟩
    by_cases h2 : stF z p d = 2
    · rw [if_pos h2]
      unfold fupd
      by_cases h3 : i = 3
      · rw [if_pos h3, if_neg (by decide), if_pos (Or.inr ⟨h3, h2⟩), h3]
      · rw [if_neg h3]
        by_cases h4 : i = 2
        · rw [if_pos h4, if_pos (by omega), h4]
        · rw [if_neg h4, if_neg (by omega)]; omega
    · rw [if_neg h2]
      unfold fupd
      by_cases h4 : i = 2
      · rw [if_pos h4, if_pos (by omega), h4]
      · rw [if_neg h4, if_neg (by omega)]; omega
theorem x_add {z : ZI} {p d : Int} {f : Int → Int} (hD : JD z) (hP : JP z) (hS : JS z) (hp : 0 ≤ p ∧ p < z 68 13) (hd : 0 ≤ d ∧ d ≤ 999) (hb : ∀ i, 0 ≤ i → i < 8 → 0 ≤ f i ∧ f i ≤ 60) : ∃ g, F_X7_addToLetters (Zro z 31 f) p d = some ((), Zro z 31 g) ∧ ∀ i, 0 ≤ i → i < 8 → g i = f i + (if i < 4 then lqS i (d - z 74 p) (stF z p d) else 0) := by
  have hd9 := hD.2
  have hq := hP.2.2.2 p hp.1 hp.2
  have h60 := hP.2.1
  have b0 := hb 0 (by decide) (by decide)
  have b1 := hb 1 (by decide) (by decide)
  have ea : F_X3_ageOn (Zro z 31 f) p d = some (d - z 74 p, Zro z 31 f) := by
    unfold F_X3_ageOn
    rw [Zro_k (by decide), hq.2.2.2.1, Zgd_t (by omega), Zgd_t (by omega)]
  unfold F_X7_addToLetters
  rw [ea, Yb_some, Zro_s, Zgd_t (by omega), Zgd_t (by omega), Zgd_t (by omega), Zl_eq, Zro_u]
  have hb' : ∀ i, fupd f 0 (f 0 + 1) i = f i + (if i = 0 then 1 else 0) := by
    intro i
    unfold fupd
    by_cases h : i = 0
    · rw [if_pos h, if_pos h, h]
    · rw [if_neg h, if_neg h]; omega
  by_cases h : 1825 ≤ d - z 74 p
  · rw [if_pos h]
    obtain ⟨g, e, eg⟩ := x_add42 (d := d) (ag := d - z 74 p) hP hS hp (f := fupd f 0 (f 0 + 1)) (fun i h1 h2 => by rw [hb']; have := hb i h1 h2; split <;> omega)
    refine ⟨g, e, fun i h1 h2 => ?_⟩
    rw [eg, hb']
    unfold lqS
    grind
  · have hb2 : ∀ i, fupd (fupd f 0 (f 0 + 1)) 1 (fupd f 0 (f 0 + 1) 1 + 1) i = f i + (if i = 0 ∨ i = 1 then 1 else 0) := by
      intro i
      have e : fupd (fupd f 0 (f 0 + 1)) 1 (fupd f 0 (f 0 + 1) 1 + 1) i = if i = 1 then fupd f 0 (f 0 + 1) 1 + 1 else fupd f 0 (f 0 + 1) i := rfl
      rw [e, hb', hb']
      by_cases h : i = 1
      · rw [if_pos h, if_neg (by decide), if_pos (Or.inr h), h]; omega
      · rw [if_neg h]
        by_cases h3 : i = 0
        · rw [if_pos h3, if_pos (Or.inl h3)]
        · rw [if_neg h3, if_neg (by omega)]
    have b1' : fupd f 0 (f 0 + 1) 1 = f 1 := rfl
    rw [if_neg h, Zro_s, b1', Zgd_t (by omega), Zgd_t (by omega), Zgd_t (by omega), Zl_eq, Zro_u]
    rw [b1'] at hb2
    obtain ⟨g, e, eg⟩ := x_add42 (d := d) (ag := d - z 74 p) hP hS hp (f := fupd (fupd f 0 (f 0 + 1)) 1 (f 1 + 1)) (fun i h1 h2 => by rw [hb2]; have := hb i h1 h2; split <;> omega)
    refine ⟨g, e, fun i h1 h2 => ?_⟩
    rw [eg, hb2]
    unfold lqS
    grind
theorem x_dl_L {z : ZI} {h d s r : Int} (hD : JD z) (hP : JP z) (hS : JS z) (hd : 0 ≤ d ∧ d ≤ 999) : ∀ (n k fu : Nat) (f : Int → Int), k + n = (z 68 13).toNat → n < fu → (∀ i, 0 ≤ i → i < 8 → f i = if i < 4 then lcZ z h d i k else 0) → ∃ g, X7_drawOf_L27 fu (Zro z 31 f) h d s r k = X7_drawOf_b70 (Zro z 31 g) d s r ∧ (∀ i, 0 ≤ i → i < 8 → g i = if i < 4 then lcZ z h d i (z 68 13).toNat else 0) := by
  have hd9 := hD.2
  have hp0 := hP.1
  have h60 := hP.2.1
  have hpp : z 11 4 = z 68 13 := hP.2.2.1
  intro n
  induction n with
  | zero =>
    intro k fu f hk hf hg
    obtain ⟨fu, rfl⟩ : ∃ g, fu = g + 1 := ⟨fu - 1, by omega⟩
    obtain rfl : k = (z 68 13).toNat := by omega
    refine ⟨f, ?_, hg⟩
    show X7_drawOf_L27b (X7_drawOf_L27 fu) (Zro z 31 f) h d s r _ = _
    unfold X7_drawOf_L27b
    rw [Zro_k (by decide), if_pos (by omega)]
  | succ n ih =>
    intro k fu f hk hf hg
    obtain ⟨fu, rfl⟩ : ∃ g, fu = g + 1 := ⟨fu - 1, by omega⟩
    have hp : 0 ≤ (k : Int) ∧ (k : Int) < z 68 13 := by omega
    have hq := hP.2.2.2 k hp.1 hp.2
    have us : ∀ q, lcZ z h d q (k + 1) = lcZ z h d q k + (if z 73 k = h ∧ (stF z k d = 0 ∨ stF z k d = 2) then lqS q (d - z 74 k) (stF z k d) else 0) := fun _ => rfl
    have b64 : ∀ g, X7_drawOf_b64 (X7_drawOf_L27 fu) (Zro z 31 g) h d s r k = X7_drawOf_L27 fu (Zro z 31 g) h d s r ((k + 1 : Nat) : Int) := by
      intro g
      unfold X7_drawOf_b64
      rw [Zgd_t (by omega), show (k : Int) + 1 = ((k + 1 : Nat) : Int) by omega]
    have eo : F_X3_isOfHouse (Zro z 31 f) k h = some (bi (z 73 k = h), Zro z 31 f) := by
      unfold F_X3_isOfHouse X3_isOfHouse_b15
      rw [Zro_k (by decide), hq.1, Zgd_t (by omega)]
      by_cases c : z 73 k = h
      · rw [if_pos c, Zgd_t (by omega), bi_t c]
      · rw [if_neg c, Zgd_t (by omega), bi_f c]
    have eh := x_isHere (z := Zro z 31 f) (d := d) (JP_c rfl rfl rfl rfl rfl rfl rfl rfl rfl rfl rfl rfl hP) (JS_c rfl rfl rfl rfl rfl rfl rfl rfl rfl rfl rfl hS) hp
    have es : stF (Zro z 31 f) k d = stF z k d := rfl
    rw [es] at eh
    have e0 : X7_drawOf_L27 (fu + 1) (Zro z 31 f) h d s r k = X7_drawOf_L27b (X7_drawOf_L27 fu) (Zro z 31 f) h d s r k := rfl
    rw [e0]
    unfold X7_drawOf_L27b
    rw [Zro_k (by decide), if_neg (by omega), eo, Yb_some]
    by_cases c1 : z 73 k = h
    · rw [bi_t c1, if_neg (by decide), eh, Yb_some]
      by_cases c2 : stF z k d = 0 ∨ stF z k d = 2
      · obtain ⟨g, e, eg⟩ := x_add (d := d) (f := f) hD hP hS hp hd (fun i h1 h2 => by
          rw [hg i h1 h2]
          have := lcR_r (z 73) (z 74) (stF z) h d i k
          have q : lcZ z h d i k = lcR (z 73) (z 74) (stF z) h d i k := rfl
          split <;> omega)
        rw [bi_t c2, if_neg (by decide), e, Yb_some, b64]
        refine ih (k + 1) fu g (by omega) (by omega) (fun i h1 h2 => ?_)
        rw [eg i h1 h2, hg i h1 h2]
        by_cases c4 : i < 4
        · rw [if_pos c4, if_pos c4, if_pos c4, us, if_pos ⟨c1, c2⟩]
        · rw [if_neg c4, if_neg c4, if_neg c4]; rfl
      · rw [bi_f c2, if_pos rfl, b64]
        refine ih (k + 1) fu f (by omega) (by omega) (fun i h1 h2 => ?_)
        rw [hg i h1 h2]
        by_cases c4 : i < 4
        · rw [if_pos c4, if_pos c4, us, if_neg (fun q => c2 q.2), Int.add_zero]
        · rw [if_neg c4, if_neg c4]
    · rw [bi_f c1, if_pos rfl, b64]
      refine ih (k + 1) fu f (by omega) (by omega) (fun i h1 h2 => ?_)
      rw [hg i h1 h2]
      by_cases c4 : i < 4
      · rw [if_pos c4, if_pos c4, us, if_neg (fun q => c1 q.1), Int.add_zero]
      · rw [if_neg c4, if_neg c4]
def clampS (v : Int) : Int := max 0 (min 9999 v)
def dwS (z : ZI) (h d s : Int) : Int := if frc z 0 d = -9 then 0 else clampS (wrS z (frc z 0 d) (dLet z h d s))
def ptS (z : ZI) (p d : Int) : Int := if frc z 1 d = -9 then 0 else wrS z (frc z 1 d) (pLet z p d)
theorem frc_r {z : ZI} (hU : JU z) (p d : Int) : frc z p d = -9 ∨ (0 ≤ frc z p d ∧ frc z p d < z 68 22) := by
  have := frcR_r (z 83) (z 84) p d (z 68 22).toNat
  have := hU.2.1
  unfold frc
  omega
theorem x_worth2 {z : ZI} {r : Int} {g lt : Int → Int} (hU : JU z) (h : 0 ≤ r ∧ r < z 68 22) (hL : ∀ i, 0 ≤ i → i < 8 → InR (g i)) (hl : ∀ b, isLet b → g (letIx b) = lt b) : ∃ z2, F_X7_worth (Zro z 31 g) r = some (wrS z r lt, z2) ∧ FrX z z2 := by
  obtain ⟨t, e, q⟩ := x_worth (z := Zro z 31 g) (r := r) (JU_c rfl rfl rfl rfl rfl rfl rfl rfl rfl rfl hU) (fun i h1 h2 => by rw [Zro_s]; exact hL i h1 h2) h
  have hl2 : ∀ b, isLet b → ltZ (Zro z 31 g) b = lt b := hl
  rw [← wrS_c hU h hl2]
  exact ⟨_, q, (FrX_31 z g).tr (FrX_rd (Zro z 31 g) _ _ _ _ _)⟩
theorem x_drawOf {z : ZI} {h d s : Int} (hU : JU z) (hD : JD z) (hP : JP z) (hS : JS z) (hd : 0 ≤ d ∧ d ≤ 999) (hs : 0 ≤ s ∧ s ≤ 999) : ∃ z2, F_X7_drawOf z h d s = some (dwS z h d s, z2) ∧ FrX z z2 := by
  have hd9 := hD.2
  have fr := frc_r hU 0 d
  unfold F_X7_drawOf dwS
  rw [x_force hU, Yb_some]
  by_cases c : frc z 0 d = -9
  · rw [if_pos c, if_pos c]
    exact ⟨z, rfl, FrX.rf z⟩
  · rw [if_neg c, if_neg c, x_clear, Yb_some]
    obtain ⟨g, e, eg⟩ := x_dl_L (z := z) (h := h) (s := s) (r := frc z 0 d) hD hP hS hd (z 68 13).toNat 0 Zfuel (fun i => if 0 ≤ i ∧ i < 8 then 0 else z 31 i) (by omega) (by have := hP.2.1; unfold Zfuel; omega) (fun i h1 h2 => by
      rw [if_pos ⟨h1, h2⟩]
      have : lcZ z h d i 0 = 0 := rfl
      rw [this]
      split <;> rfl)
    have e : X7_drawOf_L27 Zfuel (Zro z 31 fun i => if 0 ≤ i ∧ i < 8 then 0 else z 31 i) h d s (frc z 0 d) 0 = _ := e
    have lr : ∀ q, 0 ≤ lcZ z h d q (z 68 13).toNat ∧ lcZ z h d q (z 68 13).toNat ≤ 60 := by
      intro q
      have := lcR_r (z 73) (z 74) (stF z) h d q (z 68 13).toNat
      have := hP.2.1
      unfold lcZ
      omega
    have eg4 : ∀ i, fupd g 4 (d - s) i = if i = 4 then d - s else g i := fun _ => rfl
    obtain ⟨z2, q1, q2⟩ := x_worth2 (z := z) (r := frc z 0 d) (g := fupd g 4 (d - s)) (lt := dLet z h d s) hU (by omega) (fun i h1 h2 => by
      rw [eg4]
      by_cases c4 : i = 4
      · rw [if_pos c4]; omega
      · rw [if_neg c4, eg i h1 h2]
        have := lr i
        split <;> omega) (fun b hb => by
      rw [eg4]
      have l0 := eg 0 (by decide) (by decide)
      have l1 := eg 1 (by decide) (by decide)
      have l2 := eg 2 (by decide) (by decide)
      have l3 := eg 3 (by decide) (by decide)
      have l5 := eg 5 (by decide) (by decide)
      have l6 := eg 6 (by decide) (by decide)
      have l7 := eg 7 (by decide) (by decide)
      unfold dLet
      rcases hb with q | q | q | q | q | q | q | q <;> subst q
      · exact l0
      · exact l1
      · exact l2
      · exact l3
      · rfl
      · exact l5
      · exact l6
      · exact l7)
    refine ⟨z2, ?_, q2⟩
    rw [e]
    unfold X7_drawOf_b70
    rw [Zgd_t (by omega), Zgd_t (by omega), Zl_eq, Zro_u, q1, Yb_some]
    rfl
theorem x_pt67 {z : ZI} {p d r s : Int} {g : Int → Int} (hU : JU z) (hD : JD z) (hP : JP z) (hS : JS z) (hp : 0 ≤ p ∧ p < z 68 13) (hd : 0 ≤ d ∧ d ≤ 999) (hr : 0 ≤ r ∧ r < z 68 22) (hs : s = if stF z p d = 2 then 1 else 0) (hg : ∀ i, 0 ≤ i → i < 8 → g i = if i = 0 then hereH z (z 73 p) d else 0) : ∃ z2, X7_pointsOf_b67 (Zro z 31 g) p d r 3 s = some (wrS z r (pLet z p d), z2) ∧ FrX z z2 := by
  have hd9 := hD.2
  have hq := hP.2.2.2 p hp.1 hp.2
  have h60 := hP.2.1
  have hh := hereH_b (z := z) (z 73 p) d hP
  have ea : ∀ f, F_X3_ageOn (Zro z 31 f) p d = some (d - z 74 p, Zro z 31 f) := by
    intro f
    unfold F_X3_ageOn
    rw [Zro_k (by decide), hq.2.2.2.1, Zgd_t (by omega), Zgd_t (by omega)]
  have hdv := Int.natAbs_tdiv_le_natAbs (d - z 74 p) 365
  have hs2 : 0 ≤ s ∧ s ≤ 1 := by rw [hs]; split <;> decide
  unfold X7_pointsOf_b67
  rw [Zgd_t (by omega), Zl_eq, Zro_u, ea, Yb_some, Zgd_t (by omega), Zl_eq, Zro_u, Zgd_t (by omega), Zgd_t (by omega), Zro_k (k := 17) (by decide), hq.2.2.2.2.2.2.1, Zl_eq, Zro_u, Zgd_t (by omega), Zro_k (k := 18) (by decide), hq.2.2.2.2.2.2.2.2.2.1, Zgd_t (by omega), Zgd_t (by omega), Zl_eq, Zro_u]
  have g0 := hg 0 (by decide) (by decide)
  have g1 := hg 1 (by decide) (by decide)
  have g2 := hg 2 (by decide) (by decide)
  have g4 := hg 4 (by decide) (by decide)
  generalize hG : fupd (fupd (fupd (fupd g 3 s) 5 ((d - z 74 p).tdiv 365)) 6 (z 75 p)) 7 (d - z 76 p) = G
  have eG : ∀ i, G i = if i = 7 then d - z 76 p else if i = 6 then z 75 p else if i = 5 then (d - z 74 p).tdiv 365 else if i = 3 then s else g i := by
    intro i
    rw [← hG]
    rfl
  obtain ⟨z2, q1, q2⟩ := x_worth2 (z := z) (r := r) (g := G) (lt := pLet z p d) hU hr (fun i h1 h2 => by
    rw [eG]
    have := hg i h1 h2
    by_cases c7 : i = 7
    · rw [if_pos c7]; omega
    rw [if_neg c7]
    by_cases c6 : i = 6
    · rw [if_pos c6]; omega
    rw [if_neg c6]
    by_cases c5 : i = 5
    · rw [if_pos c5]; omega
    rw [if_neg c5]
    by_cases c3 : i = 3
    · rw [if_pos c3]; omega
    rw [if_neg c3, this]
    split <;> omega) (fun b hb => by
    unfold pLet
    rcases hb with q | q | q | q | q | q | q | q <;> subst q
    · exact (eG 0).trans g0
    · exact (eG 1).trans g1
    · exact (eG 2).trans g2
    · exact (eG 3).trans hs
    · exact (eG 4).trans g4
    · exact eG 5
    · exact eG 6
    · exact eG 7)
  refine ⟨z2, ?_, q2⟩
  rw [q1, Yb_some]
theorem x_pointsOf {z : ZI} {p d : Int} (hU : JU z) (hD : JD z) (hP : JP z) (hS : JS z) (hp : 0 ≤ p ∧ p < z 68 13) (hd : 0 ≤ d ∧ d ≤ 999) : ∃ z2, F_X7_pointsOf z p d = some (ptS z p d, z2) ∧ FrX z z2 := by
  have hd9 := hD.2
  have fr := frc_r hU 1 d
  have hq := hP.2.2.2 p hp.1 hp.2
  have h60 := hP.2.1
  unfold F_X7_pointsOf ptS
  rw [x_force hU, Yb_some]
  by_cases c : frc z 1 d = -9
  · rw [if_pos c, if_pos c]
    exact ⟨z, rfl, FrX.rf z⟩
  · rw [if_neg c, if_neg c, x_clear, Yb_some]
    generalize hg0 : (fun i => if 0 ≤ i ∧ i < 8 then (0 : Int) else z 31 i) = g0
    have e15 : (Zro z 31 g0) 15 p = z 73 p := hq.1
    have eh := x_hereInHouse (z := Zro z 31 g0) (h := z 73 p) (d := d) (JP_c rfl rfl rfl rfl rfl rfl rfl rfl rfl rfl rfl rfl hP) (JS_c rfl rfl rfl rfl rfl rfl rfl rfl rfl rfl rfl hS)
    have eh2 : hereH (Zro z 31 g0) (z 73 p) d = hereH z (z 73 p) d := rfl
    have es := x_stateOn (z := Zro z 31 (fupd g0 0 (hereH z (z 73 p) d))) (d := d) (JP_c rfl rfl rfl rfl rfl rfl rfl rfl rfl rfl rfl rfl hP) (JS_c rfl rfl rfl rfl rfl rfl rfl rfl rfl rfl rfl hS) hp
    have es2 : stF (Zro z 31 (fupd g0 0 (hereH z (z 73 p) d))) p d = stF z p d := rfl
    rw [Zgd_t (by omega), e15, eh, eh2, Yb_some, Zgd_t (by omega), Zl_eq, Zro_u, es, es2, Yb_some]
    have hg : ∀ i, 0 ≤ i → i < 8 → fupd g0 0 (hereH z (z 73 p) d) i = if i = 0 then hereH z (z 73 p) d else 0 := by
      intro i h1 h2
      rw [← hg0]
      unfold fupd
      split
      · rfl
      · exact if_pos ⟨h1, h2⟩
    by_cases c2 : stF z p d = 2
    · rw [if_pos c2]
      exact x_pt67 hU hD hP hS hp hd (by omega) (by rw [if_pos c2]) hg
    · rw [if_neg c2]
      exact x_pt67 hU hD hP hS hp hd (by omega) (by rw [if_neg c2]) hg
