/-! pairs -/
def Zar (z : ZI) (k : Nat) (f : Int → Int) : ZI := fun k' => if k' = k then f else z k'
theorem Zar_k {z : ZI} {k k' : Nat} {f : Int → Int} (h : k' ≠ k) : Zar z k f k' = z k' := if_neg h
theorem Zar_s {z : ZI} {k : Nat} {f : Int → Int} : Zar z k f k = f := if_pos rfl
theorem Zar_id (z : ZI) (k : Nat) : Zar z k (z k) = z := by
  funext k'
  unfold Zar
  split
  · subst_vars; rfl
  · rfl
theorem Zar_up (z : ZI) (k : Nat) (f : Int → Int) (i v : Int) : Zup (Zar z k f) k i v = Zar z k (fupd f i v) := by
  funext k' j
  unfold Zup Zar fupd
  by_cases h : k' = k
  · subst h; simp
  · simp [h]
def rg (n : Int) (f g : Int → Int) : Int → Int := fun i => if 0 ≤ i ∧ i < n then f i else g i
theorem rg_in {n : Int} {f g : Int → Int} {i : Int} (h : 0 ≤ i ∧ i < n) : rg n f g i = f i := if_pos h
theorem rg_up {n : Int} {f g : Int → Int} {i v : Int} (h : 0 ≤ i ∧ i < n) : fupd (rg n f g) i v = rg n (fupd f i v) g := by
  funext j
  unfold fupd rg
  by_cases e : j = i
  · subst e; simp [h]
  · simp [e]
theorem rg_0 {f g : Int → Int} : rg 0 f g = g := by
  funext j
  unfold rg
  rw [if_neg (by omega)]
/-- filling on: one more place -/
theorem rg_fill {k : Nat} {v : Int} {g : Int → Int} : fupd (rg k (fun _ => v) g) k v = rg (k + 1 : Nat) (fun _ => v) g := by
  funext j
  unfold fupd rg
  by_cases e : j = k
  · subst e
    rw [if_pos rfl, if_pos (by omega)]
  · rw [if_neg e]
    by_cases h : 0 ≤ j ∧ j < (k : Int)
    · rw [if_pos h, if_pos (by omega)]
    · rw [if_neg h, if_neg (by omega)]
def mmF (z : ZI) (oh d p : Int) (tk : Int → Int) : Int → Int := fun q => bi (z 73 q = oh ∧ tk q = 0 ∧ z 75 p = z 75 q ∧ -3 ≤ z 74 p - z 74 q ∧ z 74 p - z 74 q ≤ 3 ∧ (stF z q d = 0 ∨ stF z q d = 2))
theorem mmF_d (z : ZI) (oh d p : Int) (tk : Int → Int) (q : Int) : mmF z oh d p tk q = bi (z 73 q = oh ∧ tk q = 0 ∧ z 75 p = z 75 q ∧ -3 ≤ z 74 p - z 74 q ∧ z 74 p - z 74 q ≤ 3 ∧ (stF z q d = 0 ∨ stF z q d = 2)) := rfl
def prR (z : ZI) (h oh d : Int) : Nat → Int × (Int → Int)
  | 0 => (0, fun _ => 0)
  | n + 1 => if z 73 n = h ∧ (stF z n d = 0 ∨ stF z n d = 2) then (if leanR (mmF z oh d n (prR z h oh d n).2) (z 68 13).toNat 0 < 0 then prR z h oh d n else ((prR z h oh d n).1 + 1, fupd (prR z h oh d n).2 (leanR (mmF z oh d n (prR z h oh d n).2) (z 68 13).toNat 0) 1)) else prR z h oh d n
theorem prR_s (z : ZI) (h oh d : Int) (n : Nat) : prR z h oh d (n + 1) = if z 73 n = h ∧ (stF z n d = 0 ∨ stF z n d = 2) then (if leanR (mmF z oh d n (prR z h oh d n).2) (z 68 13).toNat 0 < 0 then prR z h oh d n else ((prR z h oh d n).1 + 1, fupd (prR z h oh d n).2 (leanR (mmF z oh d n (prR z h oh d n).2) (z 68 13).toNat 0) 1)) else prR z h oh d n := rfl
theorem prR_b (z : ZI) (h oh d : Int) : ∀ n : Nat, 0 ≤ (prR z h oh d n).1 ∧ (prR z h oh d n).1 ≤ n
  | 0 => ⟨Int.le_refl _, Int.le_refl _⟩
  | n + 1 => by
    have := prR_b z h oh d n
    rw [prR_s]
    split
    · split
      · omega
      · show 0 ≤ (prR z h oh d n).1 + 1 ∧ (prR z h oh d n).1 + 1 ≤ _
        omega
    · omega
theorem leanR_in (p : Int → Int) (n : Nat) (k : Int) (hk : 0 ≤ k) : leanR p n k = -9 ∨ (k ≤ leanR p n k ∧ leanR p n k < k + n) := by
  rcases leanR_c p n k hk with ⟨h, _⟩ | ⟨h, _⟩
  · exact Or.inl h
  · rcases leanR_lt p n k with h2 | h2
    · exact Or.inr ⟨h, h2⟩
    · exact Or.inl h2
/-! the class' side -/
theorem x_matches {z : ZI} {p q : Int} (hP : JP z) (hd : 0 ≤ z 68 11 ∧ z 68 11 ≤ 999) (hp : 0 ≤ p ∧ p < z 68 13) (hq : 0 ≤ q ∧ q < z 68 13) : F_X3_matches z p q = some (bi (z 75 p = z 75 q ∧ -3 ≤ z 74 p - z 74 q ∧ z 74 p - z 74 q ≤ 3), z) := by
  have a := hP.2.2.2 p hp.1 hp.2
  have b := hP.2.2.2 q hq.1 hq.2
  have c := hP.2.1
  clear hP
  unfold F_X3_matches X3_matches_b39 X3_matches_b40 jabs
  grind [Zgd_i, bi]
theorem x_take_L {z : ZI} {p oh d : Int} {tk : Int → Int} (hP : JP z) (hS : JS z) (hd : 0 ≤ z 68 11 ∧ z 68 11 ≤ 999) (hp : 0 ≤ p ∧ p < z 68 13) : ∀ (n k f : Nat), k + n = (z 68 13).toNat → n < f → X3_takeMatch_L3 f (Zar z 23 (rg (z 68 13) tk (z 23))) p oh d k = if leanR (mmF z oh d p tk) n k < 0 then some (0, Zar z 23 (rg (z 68 13) tk (z 23))) else some (1, Zar z 23 (rg (z 68 13) (fupd tk (leanR (mmF z oh d p tk) n k) 1) (z 23))) := by
  have hPz : JP (Zar z 23 (rg (z 68 13) tk (z 23))) := (JP_c rfl rfl rfl rfl rfl rfl rfl rfl rfl rfl rfl rfl hP)
  have hSz : JS (Zar z 23 (rg (z 68 13) tk (z 23))) := (JS_c rfl rfl rfl rfl rfl rfl rfl rfl rfl rfl rfl hS)
  have l4 : (Zar z 23 (rg (z 68 13) tk (z 23))) 11 4 = z 68 13 := hP.2.2.1
  have l23 : (Zar z 23 (rg (z 68 13) tk (z 23))) 23 = rg (z 68 13) tk (z 23) := rfl
  have l15 : (Zar z 23 (rg (z 68 13) tk (z 23))) 15 = z 15 := rfl
  have b60 := hP.2.1
  intro n
  induction n with
  | zero =>
    intro k f hk hf
    obtain ⟨f, rfl⟩ : ∃ g, f = g + 1 := ⟨f - 1, by omega⟩
    show X3_takeMatch_L3b (X3_takeMatch_L3 f) _ p oh d k = _
    unfold X3_takeMatch_L3b
    rw [l4, if_pos (by omega)]
    rfl
  | succ n ih =>
    intro k f hk hf
    obtain ⟨f, rfl⟩ : ∃ g, f = g + 1 := ⟨f - 1, by omega⟩
    have e := ih (k + 1) f (by omega) (by omega)
    clear ih
    have hm := x_matches (z := Zar z 23 (rg (z 68 13) tk (z 23))) (p := p) (q := k) hPz hd hp ⟨by omega, by show (k : Int) < z 68 13; omega⟩
    have hh := x_isHere (z := Zar z 23 (rg (z 68 13) tk (z 23))) (p := k) (d := d) hPz hSz ⟨by omega, by show (k : Int) < z 68 13; omega⟩
    have m1 : (Zar z 23 (rg (z 68 13) tk (z 23))) 75 = z 75 := rfl
    have m2 : (Zar z 23 (rg (z 68 13) tk (z 23))) 74 = z 74 := rfl
    have m3 : stF (Zar z 23 (rg (z 68 13) tk (z 23))) = stF z := rfl
    rw [m1, m2] at hm
    rw [m3] at hh
    have hr := (hP.2.2.2 k (by omega) (by omega)).1
    have u : leanR (mmF z oh d p tk) (n + 1) k = if mmF z oh d p tk k = 0 then leanR (mmF z oh d p tk) n (k + 1) else (k : Int) := rfl
    have r1 : rg (z 68 13) tk (z 23) k = tk k := rg_in ⟨by omega, by omega⟩
    show X3_takeMatch_L3b (X3_takeMatch_L3 f) _ p oh d k = _
    unfold X3_takeMatch_L3b X3_takeMatch_b37 X3_takeMatch_b38 X3_takeMatch_b65 X3_takeMatch_b75
    rw [u, l4, if_neg (by omega), Zgd_t (by omega), Zgd_t (by omega), l23, r1, l15, hr, hm, Yb_some, hh, Yb_some]
    have e2 : Zup (Zar z 23 (rg (z 68 13) tk (z 23))) 23 k 1 = Zar z 23 (rg (z 68 13) (fupd tk k 1) (z 23)) := by rw [Zar_up, rg_up ⟨by omega, by omega⟩]
    rw [e2]
    have cs : ((k + 1 : Nat) : Int) = (k : Int) + 1 := by omega
    rw [cs] at e
    rw [Zgd_t (show InR ((k : Int) + 1) by omega), Zgd_t (show IJ (k : Int) 60 by omega), mmF_d]
    clear hPz hSz l4 l23 l15 m1 m2 m3 hm hh hr u r1 e2 cs hP hS
    generalize X3_takeMatch_L3 f (Zar z 23 (rg (z 68 13) tk (z 23))) p oh d ((k : Int) + 1) = A at *
    by_cases c1 : z 73 k = oh
    · by_cases c2 : tk k = 0
      · by_cases c3 : z 75 p = z 75 k ∧ -3 ≤ z 74 p - z 74 k ∧ z 74 p - z 74 k ≤ 3
        · by_cases c4 : stF z k d = 0 ∨ stF z k d = 2
          · rw [if_pos c1, if_pos c2, if_neg (by decide), bi_t c3, if_neg (by decide), bi_t c4, if_neg (by decide), bi_t ⟨c1, c2, c3.1, c3.2.1, c3.2.2, c4⟩, if_neg (show ¬ ((1 : Int) = 0) by decide), if_neg (show ¬ ((k : Int) < 0) by omega)]
            rfl
          · rw [if_pos c1, if_pos c2, if_neg (by decide), bi_t c3, if_neg (by decide), bi_f c4, if_pos rfl, bi_f (fun h => c4 h.2.2.2.2.2), if_pos rfl]
            exact e
        · rw [if_pos c1, if_pos c2, if_neg (by decide), bi_f c3, if_pos rfl, bi_f (fun h => c3 ⟨h.2.2.1, h.2.2.2.1, h.2.2.2.2.1⟩), if_pos rfl]
          exact e
      · rw [if_pos c1, if_neg c2, if_pos rfl, bi_f (fun h => c2 h.2.1), if_pos rfl]
        exact e
    · rw [if_neg c1, if_pos rfl, bi_f (fun h => c1 h.1), if_pos rfl]
      exact e
theorem x_take {z : ZI} {p oh d : Int} {tk : Int → Int} (hP : JP z) (hS : JS z) (hd : 0 ≤ z 68 11 ∧ z 68 11 ≤ 999) (hp : 0 ≤ p ∧ p < z 68 13) : F_X3_takeMatch (Zar z 23 (rg (z 68 13) tk (z 23))) p oh d = if leanR (mmF z oh d p tk) (z 68 13).toNat 0 < 0 then some (0, Zar z 23 (rg (z 68 13) tk (z 23))) else some (1, Zar z 23 (rg (z 68 13) (fupd tk (leanR (mmF z oh d p tk) (z 68 13).toNat 0) 1) (z 23))) :=
  x_take_L hP hS hd hp (z 68 13).toNat 0 Zfuel (by omega) (by have := hP.2.1; unfold Zfuel; omega)
theorem x_pair_L {z : ZI} {h oh d : Int} (hP : JP z) (hS : JS z) (hd : 0 ≤ z 68 11 ∧ z 68 11 ≤ 999) : ∀ (n k f : Nat), k + n = (z 68 13).toNat → n < f → X3_pairUp_L32 f (Zar z 23 (rg (z 68 13) (prR z h oh d k).2 (z 23))) h oh d (prR z h oh d k).1 k = some ((prR z h oh d (z 68 13).toNat).1, Zar z 23 (rg (z 68 13) (prR z h oh d (z 68 13).toNat).2 (z 23))) := by
  have b60 := hP.2.1
  intro n
  induction n with
  | zero =>
    intro k f hk hf
    obtain ⟨f, rfl⟩ : ∃ g, f = g + 1 := ⟨f - 1, by omega⟩
    show X3_pairUp_L32b (X3_pairUp_L32 f) _ h oh d _ k = _
    have l4 : (Zar z 23 (rg (z 68 13) (prR z h oh d k).2 (z 23))) 11 4 = z 68 13 := hP.2.2.1
    unfold X3_pairUp_L32b
    rw [l4, if_pos (by omega), show k = (z 68 13).toNat by omega]
  | succ n ih =>
    intro k f hk hf
    obtain ⟨f, rfl⟩ : ∃ g, f = g + 1 := ⟨f - 1, by omega⟩
    have e := ih (k + 1) f (by omega) (by omega)
    clear ih
    have hPz : JP (Zar z 23 (rg (z 68 13) (prR z h oh d k).2 (z 23))) := (JP_c rfl rfl rfl rfl rfl rfl rfl rfl rfl rfl rfl rfl hP)
    have hSz : JS (Zar z 23 (rg (z 68 13) (prR z h oh d k).2 (z 23))) := (JS_c rfl rfl rfl rfl rfl rfl rfl rfl rfl rfl rfl hS)
    have hh := x_isHere (z := Zar z 23 (rg (z 68 13) (prR z h oh d k).2 (z 23))) (p := k) (d := d) hPz hSz ⟨by omega, by show (k : Int) < z 68 13; omega⟩
    have m3 : stF (Zar z 23 (rg (z 68 13) (prR z h oh d k).2 (z 23))) = stF z := rfl
    rw [m3] at hh
    have ht := x_take (z := z) (p := k) (oh := oh) (d := d) (tk := (prR z h oh d k).2) hP hS hd ⟨by omega, by omega⟩
    have hr := (hP.2.2.2 k (by omega) (by omega)).1
    have l4 : (Zar z 23 (rg (z 68 13) (prR z h oh d k).2 (z 23))) 11 4 = z 68 13 := hP.2.2.1
    have l15 : (Zar z 23 (rg (z 68 13) (prR z h oh d k).2 (z 23))) 15 = z 15 := rfl
    have hs := prR_s z h oh d k
    have hb := prR_b z h oh d k
    show X3_pairUp_L32b (X3_pairUp_L32 f) _ h oh d _ k = _
    unfold X3_pairUp_L32b X3_pairUp_b76
    have cs : ((k + 1 : Nat) : Int) = (k : Int) + 1 := by omega
    rw [cs] at e
    rw [l4, if_neg (by omega), Zgd_t (by omega), l15, hr, hh, Yb_some, ht, Zgd_t (show InR ((k : Int) + 1) by omega)]
    by_cases c1 : z 73 k = h
    · by_cases c2 : stF z k d = 0 ∨ stF z k d = 2
      · by_cases c3 : leanR (mmF z oh d k (prR z h oh d k).2) (z 68 13).toNat 0 < 0
        · rw [if_pos ⟨c1, c2⟩, if_pos c3] at hs
          rw [hs] at e
          rw [if_pos c1, bi_t c2, if_neg (by decide), if_pos c3, Yb_some, if_pos rfl, Zgd_t (show InR ((k : Int) + 1) by omega)]
          exact e
        · rw [if_pos ⟨c1, c2⟩, if_neg c3] at hs
          rw [hs] at e
          rw [if_pos c1, bi_t c2, if_neg (by decide), if_neg c3, Yb_some, if_neg (by decide), Zgd_t (show InR ((prR z h oh d k).1 + 1) by omega), Zgd_t (show InR ((k : Int) + 1) by omega)]
          exact e
      · rw [if_neg (fun q => c2 q.2)] at hs
        rw [hs] at e
        rw [if_pos c1, bi_f c2, if_pos rfl]
        exact e
    · rw [if_neg (fun q => c1 q.1)] at hs
      rw [hs] at e
      rw [if_neg c1]
      exact e
theorem x_clear_L {z : ZI} {h oh d : Int} (hn : z 11 4 = z 68 13) (h4 : 0 ≤ z 68 13 ∧ z 68 13 ≤ 60) : ∀ (n k f : Nat), k + n = (z 68 13).toNat → n < f → X3_pairUp_L3 f (Zar z 23 (rg k (fun _ => 0) (z 23))) h oh d k = X3_pairUp_b26 (Zar z 23 (rg (z 68 13) (fun _ => 0) (z 23))) h oh d := by
  intro n
  induction n with
  | zero =>
    intro k f hk hf
    obtain ⟨f, rfl⟩ : ∃ g, f = g + 1 := ⟨f - 1, by omega⟩
    show X3_pairUp_L3b (X3_pairUp_L3 f) _ h oh d k = _
    have l4 : (Zar z 23 (rg k (fun _ => 0) (z 23))) 11 4 = z 68 13 := hn
    unfold X3_pairUp_L3b
    rw [l4, if_pos (by omega), show (k : Int) = z 68 13 by omega]
  | succ n ih =>
    intro k f hk hf
    obtain ⟨f, rfl⟩ : ∃ g, f = g + 1 := ⟨f - 1, by omega⟩
    have e := ih (k + 1) f (by omega) (by omega)
    show X3_pairUp_L3b (X3_pairUp_L3 f) _ h oh d k = _
    have l4 : (Zar z 23 (rg k (fun _ => 0) (z 23))) 11 4 = z 68 13 := hn
    unfold X3_pairUp_L3b
    rw [l4, if_neg (by omega), Zgd_t (by omega), Zl_eq, Zgd_t (by omega), Zar_up, rg_fill]
    exact e
theorem x_pairUp {z : ZI} {h oh d : Int} (hP : JP z) (hS : JS z) (hd : 0 ≤ z 68 11 ∧ z 68 11 ≤ 999) : F_X3_pairUp z h oh d = some ((prR z h oh d (z 68 13).toNat).1, Zar z 23 (rg (z 68 13) (prR z h oh d (z 68 13).toNat).2 (z 23))) := by
  have e1 := x_clear_L (z := z) (h := h) (oh := oh) (d := d) hP.2.2.1 ⟨hP.1, hP.2.1⟩ (z 68 13).toNat 0 Zfuel (by omega) (by have := hP.2.1; unfold Zfuel; omega)
  have e2 := x_pair_L (h := h) (oh := oh) (d := d) hP hS hd (z 68 13).toNat 0 Zfuel (by omega) (by have := hP.2.1; unfold Zfuel; omega)
  have z0 : rg ((0 : Nat) : Int) (fun _ => 0) (z 23) = z 23 := rg_0
  rw [z0, Zar_id] at e1
  unfold F_X3_pairUp
  refine e1.trans ?_
  exact e2
/-! the reference's side: free is 1 less taken -/
def frF (tk : Int → Int) : Int → Int := fun i => 1 - tk i
theorem frF_up (tk : Int → Int) (i : Int) : fupd (frF tk) i 0 = frF (fupd tk i 1) := by
  funext j
  show (if j = i then 0 else 1 - tk j) = 1 - (if j = i then 1 else tk j)
  split <;> omega
theorem m_inner {z : ZI} {k31 : ZI → Int → Int → Int → Int → Option (Int × ZI)} {c1 c2 p v : Int} {tk : Int → Int} (hP : JP z) (hS : JS z) (hd : 0 ≤ z 68 11 ∧ z 68 11 ≤ 999) (hp : 0 ≤ p ∧ p < z 68 13) (hc : 0 ≤ c2 ∧ c2 < 40) (hv : 0 ≤ v ∧ v ≤ 60) (ht : ∀ i, tk i = 0 ∨ tk i = 1) : ∀ (n k f : Nat), k + n = (z 68 13).toNat → n + 1 < f → X11_pairsOf_L78 k31 f (Zar z 94 (rg (z 68 13) (frF tk) (z 94))) c1 c2 v p 0 k = if leanR (mmF z (z 88 c2) (z 68 11) p tk) n k < 0 then X11_pairsOf_b199 k31 (Zar z 94 (rg (z 68 13) (frF tk) (z 94))) c1 c2 v p else X11_pairsOf_b199 k31 (Zar z 94 (rg (z 68 13) (frF (fupd tk (leanR (mmF z (z 88 c2) (z 68 11) p tk) n k) 1)) (z 94))) c1 c2 (v + 1) p := by
  have hPz : JP (Zar z 94 (rg (z 68 13) (frF tk) (z 94))) := (JP_c rfl rfl rfl rfl rfl rfl rfl rfl rfl rfl rfl rfl hP)
  have hSz : JS (Zar z 94 (rg (z 68 13) (frF tk) (z 94))) := (JS_c rfl rfl rfl rfl rfl rfl rfl rfl rfl rfl rfl hS)
  have b60 := hP.2.1
  intro n
  induction n with
  | zero =>
    intro k f hk hf
    obtain ⟨f, rfl⟩ : ∃ g, f = g + 1 := ⟨f - 1, by omega⟩
    show X11_pairsOf_L78b k31 (X11_pairsOf_L78 k31 f) _ c1 c2 v p 0 k = _
    have l4 : (Zar z 94 (rg (z 68 13) (frF tk) (z 94))) 68 13 = z 68 13 := rfl
    unfold X11_pairsOf_L78b
    rw [l4, if_pos (by omega)]
    rfl
  | succ n ih =>
    intro k f hk hf
    obtain ⟨f, rfl⟩ : ∃ g, f = g + 1 := ⟨f - 1, by omega⟩
    have e := ih (k + 1) f (by omega) (by omega)
    clear ih
    have hh := m_isHere (z := Zar z 94 (rg (z 68 13) (frF tk) (z 94))) (p := k) (d := z 68 11) hPz hSz ⟨by omega, by show (k : Int) < z 68 13; omega⟩
    have m3 : stF (Zar z 94 (rg (z 68 13) (frF tk) (z 94))) = stF z := rfl
    rw [m3] at hh
    have a := hP.2.2.2 p hp.1 hp.2
    have b := hP.2.2.2 k (by omega) (by omega)
    have u : leanR (mmF z (z 88 c2) (z 68 11) p tk) (n + 1) k = if mmF z (z 88 c2) (z 68 11) p tk k = 0 then leanR (mmF z (z 88 c2) (z 68 11) p tk) n (k + 1) else (k : Int) := rfl
    have r1 : (Zar z 94 (rg (z 68 13) (frF tk) (z 94))) 94 k = 1 - tk k := rg_in ⟨by omega, by omega⟩
    have tk01 := ht k
    have e2 : Zup (Zar z 94 (rg (z 68 13) (frF tk) (z 94))) 94 k 0 = Zar z 94 (rg (z 68 13) (frF (fupd tk k 1)) (z 94)) := by rw [Zar_up, rg_up ⟨by omega, by omega⟩, frF_up]
    show X11_pairsOf_L78b k31 (X11_pairsOf_L78 k31 f) _ c1 c2 v p 0 k = _
    have l1 : (Zar z 94 (rg (z 68 13) (frF tk) (z 94))) 68 13 = z 68 13 := rfl
    have l2 : (Zar z 94 (rg (z 68 13) (frF tk) (z 94))) 68 11 = z 68 11 := rfl
    have l3 : (Zar z 94 (rg (z 68 13) (frF tk) (z 94))) 73 = z 73 := rfl
    have l4 : (Zar z 94 (rg (z 68 13) (frF tk) (z 94))) 74 = z 74 := rfl
    have l5 : (Zar z 94 (rg (z 68 13) (frF tk) (z 94))) 75 = z 75 := rfl
    have l6 : (Zar z 94 (rg (z 68 13) (frF tk) (z 94))) 88 = z 88 := rfl
    unfold X11_pairsOf_L78b X11_pairsOf_b193
    have cs : ((k + 1 : Nat) : Int) = (k : Int) + 1 := by omega
    rw [cs] at e
    rw [u, l1, l2, l3, l6, if_neg (by omega), if_pos rfl, Zgd_t (by omega), Zgd_t hc, hh, Yb_some, r1, l4, Zgd_t (show IJ (k : Int) 60 by omega)]
    rw [Zgd_t (show IJ p 60 by omega), Zgd_t (show InR (z 74 p - z 74 k) by omega), e_isIn, Yb_some]
    rw [l5, e2, Zl_eq, Zgd_t (show IJ p 60 by omega), Zgd_t (show InR (v + 1) by omega), mmF_d]
    simp only [Zgd_t (show IJ (k : Int) 60 by omega), Zgd_t (show InR ((k : Int) + 1) by omega)]
    -- one more turn ends the search
    have e3 : ∀ zz : ZI, X11_pairsOf_L78 k31 f zz c1 c2 (v + 1) p 1 ((k : Int) + 1) = X11_pairsOf_b199 k31 zz c1 c2 (v + 1) p := by
      intro zz
      obtain ⟨g, rfl⟩ : ∃ g, f = g + 1 := ⟨f - 1, by omega⟩
      show X11_pairsOf_L78b k31 (X11_pairsOf_L78 k31 g) zz c1 c2 (v + 1) p 1 ((k : Int) + 1) = _
      unfold X11_pairsOf_L78b
      split
      · rfl
      · rw [if_neg (by decide)]
    rw [e3]
    clear hPz hSz l1 l2 l3 l4 l5 l6 m3 hh u r1 e2 cs hP hS a b e3 ht
    generalize X11_pairsOf_L78 k31 f (Zar z 94 (rg (z 68 13) (frF tk) (z 94))) c1 c2 v p 0 ((k : Int) + 1) = AA at *
    by_cases q1 : z 73 k = z 88 c2
    · by_cases q4 : stF z k (z 68 11) = 0 ∨ stF z k (z 68 11) = 2
      · by_cases q2 : tk k = 0
        · by_cases q3 : -3 ≤ z 74 p - z 74 k ∧ z 74 p - z 74 k ≤ 3
          · by_cases q5 : z 75 p = z 75 k
            · rw [if_pos q1, bi_t q4, if_neg (by decide), if_neg (by omega), bi_t q3, if_neg (by decide), if_pos q5, bi_t ⟨q1, q2, q5, q3.1, q3.2, q4⟩, if_neg (show ¬ ((1 : Int) = 0) by decide), if_neg (show ¬ ((k : Int) < 0) by omega)]
            · rw [if_pos q1, bi_t q4, if_neg (by decide), if_neg (by omega), bi_t q3, if_neg (by decide), if_neg q5, bi_f (fun h => q5 h.2.2.1), if_pos rfl]
              exact e
          · rw [if_pos q1, bi_t q4, if_neg (by decide), if_neg (by omega), bi_f q3, if_pos rfl, bi_f (fun h => q3 ⟨h.2.2.2.1, h.2.2.2.2.1⟩), if_pos rfl]
            exact e
        · rw [if_pos q1, bi_t q4, if_neg (by decide), if_pos (by omega), bi_f (fun h => q2 h.2.1), if_pos rfl]
          exact e
      · rw [if_pos q1, bi_f q4, if_pos rfl, bi_f (fun h => q4 h.2.2.2.2.2), if_pos rfl]
        exact e
    · rw [if_neg q1, bi_f (fun h => q1 h.1), if_pos rfl]
      exact e
theorem prR_c {z z1 : ZI} (e1 : z1 73 = z 73) (e2 : z1 75 = z 75) (e3 : z1 74 = z 74) (e4 : stF z1 = stF z) (e5 : z1 68 13 = z 68 13) (h oh d : Int) : ∀ n : Nat, prR z1 h oh d n = prR z h oh d n
  | 0 => rfl
  | n + 1 => by
    have i := prR_c e1 e2 e3 e4 e5 h oh d n
    have m : ∀ p tk, mmF z1 oh d p tk = mmF z oh d p tk := by
      intro p tk
      unfold mmF
      simp only [e1, e2, e3, e4]
    rw [prR_s, prR_s, i]
    simp only [m, e1, e4, e5]
theorem prR_01 (z : ZI) (h oh d : Int) : ∀ (n : Nat) (i : Int), (prR z h oh d n).2 i = 0 ∨ (prR z h oh d n).2 i = 1
  | 0, _ => Or.inl rfl
  | n + 1, i => by
    have := prR_01 z h oh d n i
    rw [prR_s]
    split
    · split
      · exact this
      · show fupd (prR z h oh d n).2 _ 1 i = 0 ∨ fupd (prR z h oh d n).2 _ 1 i = 1
        unfold fupd
        split
        · exact Or.inr rfl
        · exact this
    · exact this
theorem m_pair_L {z : ZI} {c1 c2 : Int} (hP : JP z) (hS : JS z) (hd : 0 ≤ z 68 11 ∧ z 68 11 ≤ 999) (h1 : 0 ≤ c1 ∧ c1 < 40) (h2 : 0 ≤ c2 ∧ c2 < 40) : ∀ (n k f : Nat), k + n = (z 68 13).toNat → n < f → X11_pairsOf_L31 f (Zar z 94 (rg (z 68 13) (frF (prR z (z 88 c1) (z 88 c2) (z 68 11) k).2) (z 94))) c1 c2 (prR z (z 88 c1) (z 88 c2) (z 68 11) k).1 k = some ((prR z (z 88 c1) (z 88 c2) (z 68 11) (z 68 13).toNat).1, Zar z 94 (rg (z 68 13) (frF (prR z (z 88 c1) (z 88 c2) (z 68 11) (z 68 13).toNat).2) (z 94))) := by
  have b60 := hP.2.1
  intro n
  induction n with
  | zero =>
    intro k f hk hf
    obtain ⟨f, rfl⟩ : ∃ g, f = g + 1 := ⟨f - 1, by omega⟩
    show X11_pairsOf_L31b (X11_pairsOf_L31 f) _ c1 c2 _ k = _
    have l4 : ∀ t : Int → Int, (Zar z 94 t) 68 13 = z 68 13 := fun _ => rfl
    unfold X11_pairsOf_L31b
    rw [l4, if_pos (by omega), show k = (z 68 13).toNat by omega]
  | succ n ih =>
    intro k f hk hf
    obtain ⟨f, rfl⟩ : ∃ g, f = g + 1 := ⟨f - 1, by omega⟩
    have e := ih (k + 1) f (by omega) (by omega)
    clear ih
    have hs := prR_s z (z 88 c1) (z 88 c2) (z 68 11) k
    have hb := prR_b z (z 88 c1) (z 88 c2) (z 68 11) k
    have h01 := prR_01 z (z 88 c1) (z 88 c2) (z 68 11) k
    show X11_pairsOf_L31b (X11_pairsOf_L31 f) _ c1 c2 _ k = _
    generalize prR z (z 88 c1) (z 88 c2) (z 68 11) k = pk at *
    obtain ⟨v, tk⟩ := pk
    have hi := m_inner (z := z) (k31 := X11_pairsOf_L31 f) (c1 := c1) (c2 := c2) (p := k) (v := v) (tk := tk) hP hS hd ⟨by omega, by omega⟩ h2 (by dsimp only at hb; omega) h01 (z 68 13).toNat 0 Zfuel (by omega) (by unfold Zfuel; omega)
    have cz : ((0 : Nat) : Int) = 0 := rfl
    rw [cz] at hi
    have hPz : JP (Zar z 94 (rg (z 68 13) (frF tk) (z 94))) := (JP_c rfl rfl rfl rfl rfl rfl rfl rfl rfl rfl rfl rfl hP)
    have hSz : JS (Zar z 94 (rg (z 68 13) (frF tk) (z 94))) := (JS_c rfl rfl rfl rfl rfl rfl rfl rfl rfl rfl rfl hS)
    have hh := m_isHere (z := Zar z 94 (rg (z 68 13) (frF tk) (z 94))) (p := k) (d := z 68 11) hPz hSz ⟨by omega, by show (k : Int) < z 68 13; omega⟩
    have m3 : stF (Zar z 94 (rg (z 68 13) (frF tk) (z 94))) = stF z := rfl
    rw [m3] at hh
    have l1 : ∀ t : Int → Int, (Zar z 94 t) 68 13 = z 68 13 := fun _ => rfl
    have l2 : ∀ t : Int → Int, (Zar z 94 t) 68 11 = z 68 11 := fun _ => rfl
    have l3 : ∀ t : Int → Int, (Zar z 94 t) 73 = z 73 := fun _ => rfl
    have l6 : ∀ t : Int → Int, (Zar z 94 t) 88 = z 88 := fun _ => rfl
    have cs : ((k + 1 : Nat) : Int) = (k : Int) + 1 := by omega
    rw [cs] at e
    unfold X11_pairsOf_b199 at hi
    unfold X11_pairsOf_L31b X11_pairsOf_b199
    dsimp only at hb hs ⊢
    rw [l1, l2, l3, l6, if_neg (by omega), Zgd_t (by omega), Zgd_t h1, hh, Yb_some, Zgd_t (show InR ((k : Int) + 1) by omega)]
    rw [hi]
    rw [Zgd_t (show InR ((k : Int) + 1) by omega), Zgd_t (show InR ((k : Int) + 1) by omega)]
    clear hi hPz hSz hh m3 l1 l2 l3 l6 cs hP hS h01
    by_cases q1 : z 73 k = z 88 c1
    · by_cases q2 : stF z k (z 68 11) = 0 ∨ stF z k (z 68 11) = 2
      · by_cases q3 : leanR (mmF z (z 88 c2) (z 68 11) k tk) (z 68 13).toNat 0 < 0
        · rw [if_pos ⟨q1, q2⟩, if_pos q3] at hs
          rw [hs] at e
          rw [if_pos q1, bi_t q2, if_neg (by decide)]
          exact (if_pos q3).trans e
        · rw [if_pos ⟨q1, q2⟩, if_neg q3] at hs
          rw [hs] at e
          rw [if_pos q1, bi_t q2, if_neg (by decide)]
          exact (if_neg q3).trans e
      · rw [if_neg (fun q => q2 q.2)] at hs
        rw [hs] at e
        rw [if_pos q1, bi_f q2]
        exact e
    · rw [if_neg (fun q => q1 q.1)] at hs
      rw [hs] at e
      rw [if_neg q1]
      exact e
theorem m_clear_L {z : ZI} {c1 c2 : Int} (h4 : 0 ≤ z 68 13 ∧ z 68 13 ≤ 60) : ∀ (n k f : Nat), k + n = (z 68 13).toNat → n < f → X11_pairsOf_L5 f (Zar z 94 (rg k (fun _ => 1) (z 94))) c1 c2 0 k = X11_pairsOf_b28 (Zar z 94 (rg (z 68 13) (fun _ => 1) (z 94))) c1 c2 0 := by
  intro n
  induction n with
  | zero =>
    intro k f hk hf
    obtain ⟨f, rfl⟩ : ∃ g, f = g + 1 := ⟨f - 1, by omega⟩
    show X11_pairsOf_L5b (X11_pairsOf_L5 f) _ c1 c2 0 k = _
    have l4 : (Zar z 94 (rg k (fun _ => 1) (z 94))) 68 13 = z 68 13 := rfl
    unfold X11_pairsOf_L5b
    rw [l4, if_pos (by omega), show (k : Int) = z 68 13 by omega]
  | succ n ih =>
    intro k f hk hf
    obtain ⟨f, rfl⟩ : ∃ g, f = g + 1 := ⟨f - 1, by omega⟩
    have e := ih (k + 1) f (by omega) (by omega)
    show X11_pairsOf_L5b (X11_pairsOf_L5 f) _ c1 c2 0 k = _
    have l4 : (Zar z 94 (rg k (fun _ => 1) (z 94))) 68 13 = z 68 13 := rfl
    unfold X11_pairsOf_L5b
    rw [l4, if_neg (by omega), Zgd_t (by omega), Zl_eq, Zgd_t (by omega), Zar_up, rg_fill]
    exact e
theorem m_pairsOf {z : ZI} {c1 c2 : Int} (hP : JP z) (hS : JS z) (hd : 0 ≤ z 68 11 ∧ z 68 11 ≤ 999) (h1 : 0 ≤ c1 ∧ c1 < 40) (h2 : 0 ≤ c2 ∧ c2 < 40) : F_X11_pairsOf z c1 c2 = some ((prR z (z 88 c1) (z 88 c2) (z 68 11) (z 68 13).toNat).1, Zar z 94 (rg (z 68 13) (frF (prR z (z 88 c1) (z 88 c2) (z 68 11) (z 68 13).toNat).2) (z 94))) := by
  have e1 := m_clear_L (z := z) (c1 := c1) (c2 := c2) ⟨hP.1, hP.2.1⟩ (z 68 13).toNat 0 Zfuel (by omega) (by have := hP.2.1; unfold Zfuel; omega)
  have e2 := m_pair_L (c1 := c1) (c2 := c2) hP hS hd h1 h2 (z 68 13).toNat 0 Zfuel (by omega) (by have := hP.2.1; unfold Zfuel; omega)
  have z0 : rg ((0 : Nat) : Int) (fun _ => 1) (z 94) = z 94 := rg_0
  rw [z0, Zar_id] at e1
  unfold F_X11_pairsOf
  exact e1.trans e2
/-! how far -/
theorem x_apart {z : ZI} {a b : Int} (ha : 0 ≤ a ∧ a < 144) (hb : 0 ≤ b ∧ b < 144) : F_X4_apart z a b = some (farS a b, z) := by
  unfold F_X4_apart farS jabs
  rw [tmod12 ha.1, tmod12 hb.1, tdiv12 ha.1, tdiv12 hb.1]
  grind [Zgd_i]
theorem m_far {z : ZI} {a b : Int} (ha : 0 ≤ a ∧ a < 144) (hb : 0 ≤ b ∧ b < 144) : F_X11_far z a b = some (farS a b, z) := by
  unfold F_X11_far F_X11_away X11_away_b10 farS jabs
  rw [tmod12 ha.1, tmod12 hb.1, tdiv12 ha.1, tdiv12 hb.1]
  grind [Zgd_i, Yb_some]
/-- 0 where two cards are two and not ended -/
def twoS (z : ZI) (a b : Int) : Int := if ¬ (0 ≤ a ∧ a < z 68 34) ∨ ¬ (0 ≤ b ∧ b < z 68 34) ∨ a = b then -1 else if 0 ≤ z 90 a ∨ 0 ≤ z 90 b then -3 else 0
theorem x_two {z : ZI} {a b : Int} (hC : JC z) : F_X10_checkTwoCards z a b = some (twoS z a b, z) := by
  have ha := hC.2.2.2 a
  have hb := hC.2.2.2 b
  have c0 := hC.1
  have c2 := hC.2.2.1
  clear hC
  unfold F_X10_checkTwoCards X10_checkTwoCards_b51 X10_checkTwoCards_b57 X10_checkTwoCards_b27 twoS
  grind (gen := 20) [Yb_some, e_hasCard, e_isEnded, bi]
theorem m_two {z : ZI} {a b : Int} (c2 : z 68 34 ≤ 40) : F_X11_notTwo z a b = some (twoS z a b, z) := by
  unfold F_X11_notTwo X11_notTwo_b21 X11_notTwo_b43 X11_notTwo_b49 twoS
  grind (gen := 20) [Yb_some, Zgd_i, e_isCard, bi]
theorem twoS_r (z : ZI) (a b : Int) : twoS z a b = -1 ∨ twoS z a b = -3 ∨ (twoS z a b = 0 ∧ 0 ≤ a ∧ a < z 68 34 ∧ 0 ≤ b ∧ b < z 68 34) := by
  unfold twoS
  grind
set_option maxHeartbeats 1000000 in
theorem t_pairs {n : Int} {z : ZI} (hK : K z) (hN : JN n z) (hn : n ≤ 1000) (a b : Int) : Both (F_X10_pairs z a b) (fun z1 => F_X11_pairs z1 a b) (fun z2 => K z2 ∧ JN (n + 1) z2) := by
  have hR := hN.R hn
  have hl := links hK
  have hK0 := hK
  obtain ⟨hD, hH, hP, hS, hL, hT, hE, hV, hA, hU, hC, hK, hW, hB, hG, hX, hQ, hO⟩ := hK
  have ht := twoS_r z a b
  have hx := x_two (a := a) (b := b) hC
  have hm1 := m_two (z := zR z (-1)) (a := a) (b := b) hC.2.2.1
  have hm3 := m_two (z := zR z (-3)) (a := a) (b := b) hC.2.2.1
  have hq1 : twoS (zR z (-1)) a b = twoS z a b := rfl
  have hq3 : twoS (zR z (-3)) a b = twoS z a b := rfl
  by_cases c1 : twoS z a b = -1
  · refine Both_ref hK0 hN (w := -1) hn (by omega) ?_ ?_
    · unfold F_X10_pairs 
      grind (gen := 20) [Yb_some, Zgd_i, Zl_eq, bi, e_refuse, x_two]
    · show F_X11_pairs (zR z (-1)) a b = _
      unfold F_X11_pairs X11_pairs_b25
      grind (gen := 20) [Yb_some, Zgd_i, Zl_eq, bi, zR_d, zR_k, e_no, m_two]
  by_cases c2 : twoS z a b = -3
  · refine Both_ref hK0 hN (w := -3) hn (by omega) ?_ ?_
    · unfold F_X10_pairs 
      grind (gen := 20) [Yb_some, Zgd_i, Zl_eq, bi, e_refuse, x_two]
    · show F_X11_pairs (zR z (-3)) a b = _
      unfold F_X11_pairs X11_pairs_b25
      grind (gen := 20) [Yb_some, Zgd_i, Zl_eq, bi, zR_d, zR_k, e_no, m_two]
  have h0 : twoS z a b = 0 ∧ 0 ≤ a ∧ a < z 68 34 ∧ 0 ≤ b ∧ b < z 68 34 := by omega
  have ra := hC.2.2.2 a h0.2.1 h0.2.2.1
  have rb := hC.2.2.2 b h0.2.2.2.1 h0.2.2.2.2
  have hp := x_pairUp (h := z 88 a) (oh := z 88 b) (d := z 68 11) hP hS ⟨hD.2.1, hD.2.2⟩
  refine ⟨(prR z (z 88 a) (z 88 b) (z 68 11) (z 68 13).toNat).1, Zar z 23 (rg (z 68 13) (prR z (z 88 a) (z 88 b) (z 68 11) (z 68 13).toNat).2 (z 23)), Zar (Zar z 23 (rg (z 68 13) (prR z (z 88 a) (z 88 b) (z 68 11) (z 68 13).toNat).2 (z 23))) 94 (rg (z 68 13) (frF (prR z (z 88 a) (z 88 b) (z 68 11) (z 68 13).toNat).2) (z 94)), ?_, ?_, ?_, JN_up hN rfl rfl⟩
  · unfold F_X10_pairs 
    unfold F_X0_houseOf
    clear ht hm1 hm3 hq1 hq3
    grind (gen := 20) [Yb_some, Zgd_i]
  · show F_X11_pairs _ a b = _
    clear hp hx hm1 hm3 hq1 hq3
    generalize rg (z 68 13) (prR z (z 88 a) (z 88 b) (z 68 11) (z 68 13).toNat).2 (z 23) = F
    have hPz : JP (Zar z 23 F) := (JP_c rfl rfl rfl rfl rfl rfl rfl rfl rfl rfl rfl rfl hP)
    have hSz : JS (Zar z 23 F) := (JS_c rfl rfl rfl rfl rfl rfl rfl rfl rfl rfl rfl hS)
    have e : F_X11_pairsOf (Zar z 23 F) a b = some ((prR (Zar z 23 F) (z 88 a) (z 88 b) (z 68 11) (z 68 13).toNat).1, Zar (Zar z 23 F) 94 (rg (z 68 13) (frF (prR (Zar z 23 F) (z 88 a) (z 88 b) (z 68 11) (z 68 13).toNat).2) (z 94))) := m_pairsOf (z := Zar z 23 F) (c1 := a) (c2 := b) hPz hSz ⟨hD.2.1, hD.2.2⟩ ⟨h0.2.1, by omega⟩ ⟨h0.2.2.2.1, by omega⟩
    have e2 := m_two (z := Zar z 23 F) (a := a) (b := b) hC.2.2.1
    have e3 : twoS (Zar z 23 F) a b = 0 := h0.1
    rw [e3] at e2
    rw [prR_c (z := z) (z1 := Zar z 23 F) rfl rfl rfl rfl rfl] at e
    unfold F_X11_pairs X11_pairs_b25
    rw [e2, Yb_some, if_pos rfl, e, Yb_some]
  · exact ⟨(JD_c rfl rfl hD), (JH_c rfl rfl rfl rfl rfl rfl rfl hH), (JP_c rfl rfl rfl rfl rfl rfl rfl rfl rfl rfl rfl rfl hP), (JS_c rfl rfl rfl rfl rfl rfl rfl rfl rfl rfl rfl hS), (JL_c rfl rfl hL), (JT_c rfl rfl rfl rfl rfl hT), (JE_c rfl rfl rfl rfl hE), (JV_c rfl rfl rfl rfl hV), (JA_c rfl rfl rfl rfl hA), (JU_c rfl rfl rfl rfl rfl rfl rfl rfl rfl rfl hU), (JC_c rfl rfl rfl rfl rfl rfl rfl rfl rfl rfl hC), (JK_c rfl rfl rfl rfl rfl rfl rfl rfl rfl hK), (JW_c rfl rfl rfl rfl rfl rfl rfl rfl rfl rfl hW), (JB_c rfl rfl rfl rfl rfl rfl rfl rfl rfl rfl rfl rfl rfl rfl rfl rfl rfl rfl rfl rfl hB), (JG_c rfl rfl rfl rfl rfl hG), (JX_c rfl rfl rfl rfl rfl hX), (JQ_c rfl rfl rfl rfl rfl hQ), (JO_c rfl rfl rfl rfl rfl rfl rfl rfl rfl rfl rfl hO)⟩
