/-! the reference's reading is paM -/
def Zat (z : ZI) (t : Int) : ZI := Zup z 68 23 t
theorem Zat_u (z : ZI) (t t' : Int) : Zup (Zat z t) 68 23 t' = Zat z t' := by
  funext k i
  unfold Zat Zup
  by_cases h : k = 68 ∧ i = 23
  · rw [if_pos h, if_pos h]
  · rw [if_neg h, if_neg h, if_neg h]
theorem Zat_k {z : ZI} {t : Int} {k : Nat} (h : k ≠ 68) : Zat z t k = z k := Zup_k h
def TM (z : ZI) (n : Int) : Prop := z 68 21 = n ∧ 0 ≤ n ∧ n ≤ 60 ∧ ∀ t, 0 ≤ t → t < n → 0 ≤ z 80 t ∧ z 80 t ≤ 255
theorem m_sign {z : ZI} {n t : Int} (hT : TM z n) (ht : 0 ≤ t ∧ t ≤ n) : F_X11_sign (Zat z t) = some (sgA (z 80) n t, Zat z t) := by
  have e1 : (Zat z t) 68 21 = n := hT.1
  have e2 : (Zat z t) 68 23 = t := Zup_s
  have e3 : (Zat z t) 80 = z 80 := rfl
  have b := hT.2.2.1
  unfold F_X11_sign X11_sign_b24 sgA
  rw [e1, e2, e3]
  by_cases h : n ≤ t
  · rw [if_pos h, if_pos h]
  · rw [if_neg h, if_neg h, Zgd_t (by omega)]
theorem m_let (z : ZI) (x : Int) : F_X11_isLetter z x = some (bi (isLet x), z) := by
  unfold F_X11_isLetter X11_isLetter_b48 X11_isLetter_b53
  grind (splits := 20) [Zgd_i, bi]
theorem m_dig (z : ZI) (x : Int) : F_X11_isDigit z x = some (bi (isDig x), z) := by
  unfold F_X11_isDigit X11_isDigit_b16 X11_isDigit_b17
  grind [Zgd_i, bi]
theorem m_cmp (z : ZI) (x : Int) : F_X11_isCompare z x = some (bi (isCmp x), z) := by
  unfold F_X11_isCompare X11_isCompare_b18 X11_isCompare_b23
  grind [Zgd_i, bi]
theorem m_dg_L {z : ZI} {n d c : Int} {K9 : ZI → Int → Int → Option (Int × ZI)} (hT : TM z n) : ∀ (m k f : Nat) (t : Int), k + m = 4 → m < f → 0 ≤ t → t ≤ n → X11_parses_L86 K9 f (Zat z t) d c k = X11_parses_L117 K9 Zfuel (Zat z (dgR (z 80) n m t)) d c := by
  intro m
  induction m with
  | zero =>
    intro k f t hk hf h0 h1
    obtain ⟨f, rfl⟩ : ∃ g, f = g + 1 := ⟨f - 1, by omega⟩
    show X11_parses_L86b K9 (X11_parses_L86 K9 f) _ d c k = _
    unfold X11_parses_L86b
    rw [if_pos (by omega)]
    rfl
  | succ m ih =>
    intro k f t hk hf h0 h1
    obtain ⟨f, rfl⟩ : ∃ g, f = g + 1 := ⟨f - 1, by omega⟩
    have u : dgR (z 80) n (m + 1) t = if isDig (sgA (z 80) n t) then dgR (z 80) n m (t + 1) else t := rfl
    have n60 := hT.2.2.1
    show X11_parses_L86b K9 (X11_parses_L86 K9 f) _ d c k = _
    unfold X11_parses_L86b
    rw [if_neg (by omega), m_sign hT ⟨h0, h1⟩, Yb_some, m_dig, Yb_some, u]
    by_cases h : isDig (sgA (z 80) n t)
    · have hl : t < n := by
        unfold sgA at h
        apply Classical.byContradiction
        intro q
        rw [if_pos (by omega)] at h
        exact absurd h (by decide)
      have i := ih (k + 1) f (t + 1) (by omega) (by omega) (by omega) (by omega)
      rw [bi_t h, if_neg (by decide), if_pos h, show (Zat z t) 68 23 = t from Zup_s, Zgd_t (by omega), Zl_eq, Zat_u, Zgd_t (by omega)]
      exact i
    · rw [bi_f h, if_pos rfl, if_neg h]
theorem m_par {z : ZI} {n : Int} (hT : TM z n) : ∀ m : Nat, (∀ (t d c : Int) (f : Nat), 0 ≤ t → t ≤ n → 0 ≤ d → d ≤ 5 → n - t < m → n - t < f → X11_parses_L9 f (Zat z t) d c = some ((paM (z 80) n m 0 t d c).1, Zat z (paM (z 80) n m 0 t d c).2)) ∧ (∀ (t d c : Int) (f g : Nat), 0 ≤ t → t ≤ n → 0 ≤ d → d ≤ 5 → n - t < m → n - t ≤ f → n - t < g → X11_parses_L117 (X11_parses_L9 f) g (Zat z t) d c = some ((paM (z 80) n m 1 t d c).1, Zat z (paM (z 80) n m 1 t d c).2)) := by
  intro m
  induction m with
  | zero => exact ⟨fun t d c f h0 h1 _ _ h _ => by omega, fun t d c f g h0 h1 _ _ h _ _ => by omega⟩
  | succ m ih =>
    obtain ⟨i0, i1⟩ := ih
    have n60 := hT.2.2.1
    constructor
    · intro t d c f h0 h1 d0 d5 hm hf
      obtain ⟨f, rfl⟩ : ∃ g, f = g + 1 := ⟨f - 1, by omega⟩
      show X11_parses_L9b (X11_parses_L9 f) _ d c = _
      unfold X11_parses_L9b
      rw [m_sign hT ⟨h0, h1⟩, Yb_some, paM_0]
      have lt_n : sgA (z 80) n t ≠ -1 → t < n := by
        intro q
        unfold sgA at q
        apply Classical.byContradiction
        intro q2
        rw [if_pos (by omega)] at q
        exact q rfl
      by_cases e1 : sgA (z 80) n t = 40
      · have l := lt_n (by omega)
        rw [if_pos e1, if_pos e1]
        by_cases e2 : d = 5
        · rw [if_pos e2, if_pos e2]
        · rw [if_neg e2, if_neg e2, Zgd_t (by omega), show (Zat z t) 68 23 = t from Zup_s, Zgd_t (by omega), Zl_eq, Zat_u]
          exact i0 (t + 1) (d + 1) _ f (by omega) (by omega) (by omega) (by omega) (by omega) (by omega)
      · rw [if_neg e1, if_neg e1, m_sign hT ⟨h0, h1⟩, Yb_some, m_let, Yb_some]
        by_cases e3 : isLet (sgA (z 80) n t)
        · have l := lt_n (by omega)
          rw [bi_t e3, if_neg (by decide), if_pos e3, show (Zat z t) 68 23 = t from Zup_s, Zgd_t (by omega), Zl_eq, Zat_u]
          exact i1 (t + 1) d c f Zfuel (by omega) (by omega) d0 d5 (by omega) (by omega) (by unfold Zfuel; omega)
        · rw [bi_f e3, if_pos rfl, if_neg e3, m_sign hT ⟨h0, h1⟩, Yb_some, m_dig, Yb_some]
          by_cases e4 : isDig (sgA (z 80) n t)
          · have l := lt_n (by omega)
            have r := dgR_gt l e4
            rw [bi_t e4, if_neg (by decide), if_pos e4]
            refine (m_dg_L (K9 := X11_parses_L9 f) (d := d) (c := c) hT 4 0 Zfuel t rfl (by unfold Zfuel; omega) h0 h1).trans ?_
            exact i1 _ d c f Zfuel (by omega) (by omega) d0 d5 (by omega) (by omega) (by unfold Zfuel; omega)
          · rw [bi_f e4, if_pos rfl, if_neg e4]
    · intro t d c f g h0 h1 d0 d5 hm hf hg
      obtain ⟨g, rfl⟩ : ∃ q, g = q + 1 := ⟨g - 1, by omega⟩
      show X11_parses_L117b (X11_parses_L9 f) (X11_parses_L117 (X11_parses_L9 f) g) _ d c = _
      unfold X11_parses_L117b
      rw [m_sign hT ⟨h0, h1⟩, Yb_some, paM_1]
      have lt_n : sgA (z 80) n t ≠ -1 → t < n := by
        intro q
        unfold sgA at q
        apply Classical.byContradiction
        intro q2
        rw [if_pos (by omega)] at q
        exact q rfl
      have b146 : (sgA (z 80) n t = 41 → d ≤ 0) → X11_parses_b146 (X11_parses_L9 f) (Zat z t) d c = some ((if sgA (z 80) n t = -1 ∧ d = 0 then (1, t) else if isCmp (sgA (z 80) n t) ∧ 0 < d ∧ bitT c d = 0 then paM (z 80) n m 0 (t + 1) d (bitS c d) else if isOp (sgA (z 80) n t) then paM (z 80) n m 0 (t + 1) d c else (0, t)).1, Zat z (if sgA (z 80) n t = -1 ∧ d = 0 then (1, t) else if isCmp (sgA (z 80) n t) ∧ 0 < d ∧ bitT c d = 0 then paM (z 80) n m 0 (t + 1) d (bitS c d) else if isOp (sgA (z 80) n t) then paM (z 80) n m 0 (t + 1) d c else (0, t)).2) := by
        intro _
        have b216 : ∀ c', t < n → X11_parses_b216 (X11_parses_L9 f) (Zat z t) d c' = some ((paM (z 80) n m 0 (t + 1) d c').1, Zat z (paM (z 80) n m 0 (t + 1) d c').2) := by
          intro c' l
          unfold X11_parses_b216
          rw [show (Zat z t) 68 23 = t from Zup_s, Zgd_t (by omega), Zl_eq, Zat_u]
          exact i0 (t + 1) d c' f (by omega) (by omega) d0 d5 (by omega) (by omega)
        have b190 : X11_parses_b190 (X11_parses_L9 f) (Zat z t) d c (sgA (z 80) n t) = some ((if isOp (sgA (z 80) n t) then paM (z 80) n m 0 (t + 1) d c else (0, t)).1, Zat z (if isOp (sgA (z 80) n t) then paM (z 80) n m 0 (t + 1) d c else (0, t)).2) := by
          unfold X11_parses_b190
          by_cases e : isOp (sgA (z 80) n t)
          · rw [if_pos e, b216 c (lt_n (by omega))]
            rcases e with e | e | e | e
            · rw [if_pos e]
            · rw [if_neg (by omega), if_pos e]
            · rw [if_neg (by omega), if_neg (by omega), if_pos e]
            · rw [if_neg (by omega), if_neg (by omega), if_neg (by omega), if_pos e]
          · rw [if_neg e, if_neg (by omega), if_neg (by omega), if_neg (by omega), if_neg (by omega)]
        have b162 : X11_parses_b162 (X11_parses_L9 f) (Zat z t) d c (sgA (z 80) n t) = some ((if isCmp (sgA (z 80) n t) ∧ 0 < d ∧ bitT c d = 0 then paM (z 80) n m 0 (t + 1) d (bitS c d) else if isOp (sgA (z 80) n t) then paM (z 80) n m 0 (t + 1) d c else (0, t)).1, Zat z (if isCmp (sgA (z 80) n t) ∧ 0 < d ∧ bitT c d = 0 then paM (z 80) n m 0 (t + 1) d (bitS c d) else if isOp (sgA (z 80) n t) then paM (z 80) n m 0 (t + 1) d c else (0, t)).2) := by
          unfold X11_parses_b162
          rw [m_cmp, Yb_some]
          by_cases e : isCmp (sgA (z 80) n t)
          · rw [bi_t e, if_neg (by decide)]
            by_cases e2 : d ≤ 0
            · rw [if_pos e2, if_neg (c := _ ∧ _) (fun q => by omega)]
              exact b190
            · rw [if_neg e2]
              by_cases e3 : bitT c d = 0
              · have e3' : jand (jshr c d) 1 = 0 := e3
                rw [if_pos e3', if_pos ⟨e, by omega, e3⟩]
                exact b216 (bitS c d) (lt_n (by omega))
              · have e3' : ¬ jand (jshr c d) 1 = 0 := e3
                rw [if_neg e3', if_neg (c := _ ∧ _) (fun q => e3 q.2.2)]
                exact b190
          · rw [bi_f e, if_pos rfl, if_neg (c := _ ∧ _) (fun q => e q.1)]
            exact b190
        unfold X11_parses_b146
        rw [m_sign hT ⟨h0, h1⟩, Yb_some]
        by_cases e : sgA (z 80) n t = -1
        · rw [if_pos e]
          by_cases e2 : d = 0
          · rw [if_pos e2, if_pos ⟨e, e2⟩]
          · rw [if_neg e2, if_neg (c := _ ∧ _) (fun q => e2 q.2)]
            exact b162
        · rw [if_neg e, if_neg (c := _ ∧ _) (fun q => e q.1)]
          exact b162
      by_cases e1 : sgA (z 80) n t = 41
      · rw [if_pos e1]
        by_cases e2 : d ≤ 0
        · rw [if_pos e2, if_neg (c := _ ∧ _) (fun q => by omega)]
          exact b146 (fun _ => e2)
        · have l := lt_n (by omega)
          rw [if_neg e2, if_pos ⟨e1, by omega⟩, show (Zat z t) 68 23 = t from Zup_s, Zgd_t (by omega), Zl_eq, Zat_u, Zgd_t (by omega)]
          exact i1 (t + 1) (d - 1) c f g (by omega) (by omega) (by omega) (by omega) (by omega) (by omega) (by omega)
      · rw [if_neg e1, if_neg (c := _ ∧ _) (fun q => e1 q.1)]
        exact b146 (fun q => absurd q e1)
theorem m_parses {z : ZI} {n : Int} (hT : TM z n) : F_X11_parses z = some ((paM (z 80) n 200 0 0 0 0).1, Zat z (paM (z 80) n 200 0 0 0 0).2) := by
  have n60 := hT.2.2.1
  unfold F_X11_parses
  rw [Zl_eq]
  exact (m_par hT 200).1 0 0 0 Zfuel (by decide) hT.2.1 (by decide) (by decide) (by omega) (by unfold Zfuel; omega)
