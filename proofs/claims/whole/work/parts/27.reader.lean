def letR (c : Int) : Nat → Int → Int
  | 0, _ => -1
  | n + 1, k => if Ylet k = c then k else letR c n (k + 1)
def letIx (x : Int) : Int := if x = 110 then 0 else if x = 107 then 1 else if x = 111 then 2 else if x = 115 then 3 else if x = 100 then 4 else if x = 97 then 5 else if x = 116 then 6 else if x = 99 then 7 else -1
theorem letIx_r (x : Int) : (isLet x ∧ 0 ≤ letIx x ∧ letIx x < 8) ∨ (¬ isLet x ∧ letIx x = -1) := by
  unfold letIx
  grind (splits := 30)
theorem letR_ix {x : Int} (h : 0 ≤ x ∧ x ≤ 255) : letR (ji2b x) 8 0 = letIx x ∧ ji2c x = x := by
  have key : ∀ b : Fin 256, letR (ji2b (b.val : Int)) 8 0 = letIx (b.val : Int) ∧ ji2c (b.val : Int) = (b.val : Int) := by decide +kernel
  have := key ⟨x.toNat, by omega⟩
  rwa [show ((x.toNat : Nat) : Int) = x by omega] at this
theorem x_ixc_L {z : ZI} {c : Int} : ∀ (n k f : Nat), k + n = 8 → n < f → J1_indexOfChar_4cfef_L7 f z 8 c (k : Int) = some (letR c n k, z) := by
  intro n
  induction n with
  | zero =>
    intro k f hk hf
    obtain ⟨f, rfl⟩ : ∃ g, f = g + 1 := ⟨f - 1, by omega⟩
    show J1_indexOfChar_4cfef_L7b (J1_indexOfChar_4cfef_L7 f) z 8 c (k : Int) = _
    unfold J1_indexOfChar_4cfef_L7b 
    grind [Zgd_i, letR.eq_1, letR.eq_2]
  | succ n ih =>
    intro k f hk hf
    obtain ⟨f, rfl⟩ : ∃ g, f = g + 1 := ⟨f - 1, by omega⟩
    have e := ih (k + 1) f (by omega) (by omega)
    clear ih
    show J1_indexOfChar_4cfef_L7b (J1_indexOfChar_4cfef_L7 f) z 8 c (k : Int) = _
    unfold J1_indexOfChar_4cfef_L7b 
    grind [Zgd_i, letR.eq_1, letR.eq_2]
theorem x_indexOf {z : ZI} {x : Int} (h : 0 ≤ x ∧ x ≤ 255) : F_J0_indexOf_0f7a4 z (ji2c x) = some (letIx x, z) := by
  have e := x_ixc_L (z := z) (c := ji2b x) 8 0 Zfuel rfl (by unfold Zfuel; omega)
  have q := letR_ix h
  have j : jshr 8 0 = 8 := by decide
  have m1 : max (0 : Int) 0 = 0 := by decide
  have m2 : min (8 : Int) 8 = 8 := by decide
  unfold F_J0_indexOf_0f7a4 F_J0_indexOf_7cf53 F_J0_isLatin1_aae02 J0_isLatin1_aae02_b18 F_J0_length_8abf5 F_J0_coder_7d493 J0_coder_7d493_b14 J0_indexOf_7cf53_b36 F_J1_indexOf_4cfef F_J1_canEncode_9a6ad J1_canEncode_9a6ad_b15 J1_canEncode_9a6ad_b16 F_J1_indexOfChar_4cfef
  rw [q.2, Zgd_t (Or.inr rfl), Yb_some, if_neg (by decide), Zgd_t (Or.inl rfl), Yb_some, Yb_some, j, if_neg (by omega), if_neg (by omega), Zgd_t (Or.inr rfl), Yb_some, if_neg (by decide), m1, m2, if_pos (by decide)]
  rw [← q.1]
  have e2 : J1_indexOfChar_4cfef_L7 Zfuel z 8 (ji2b x) 0 = some (letR (ji2b x) 8 0, z) := e
  rw [e2]
  rfl
def ltZ (z : ZI) (b : Int) : Int := z 31 (letIx b)
/-- the letters are ints -/
def LT (z : ZI) : Prop := ∀ i, 0 ≤ i → i < 8 → InR (z 31 i)
def IsT (n : Int) (S : Int → Int × Int × Int) : Prop := ∀ t, 0 ≤ t → t ≤ n → okT n t (S t)
def MeT (z : ZI) (n : Int) (f : ZI → Option (Int × ZI)) (S : Int → Int × Int × Int) : Prop := ∀ t, 0 ≤ t → t ≤ n → f (Zaf z t (-9)) = some ((S t).1, Zaf z (S t).2.1 (S t).2.2)
theorem close_ok {z : ZI} {a : Int → Int} {n v t t0 : Int} (hT : TX z a n) (hv : InR v) (h0 : 0 ≤ t0 ∧ t0 ≤ t ∧ t ≤ n) : okT n t0 (closeS a n v t) := by
  unfold closeS okT
  split
  · have := nxS_lt (a := a) (n := n) (t := t) (by omega)
    exact ⟨hv, by dsimp only; omega, by dsimp only; omega, Or.inl rfl⟩
  · exact ⟨r_0, by dsimp only; omega, by dsimp only; omega, Or.inr (by dsimp only; omega)⟩
theorem cmpS_r (s x y : Int) : InR (cmpS s x y) := by
  unfold cmpS
  repeat' split
  all_goals decide
theorem bkt_ok {z : ZI} {a : Int → Int} {n t : Int} {S : Int → Int × Int × Int} (hT : TX z a n) (hS : IsT n S) (h0 : 0 ≤ t) (h1 : t < n) : okT n t (bktS a n S t) := by
  have q1 := hS (t + 1) (by omega) (by omega)
  unfold okT at q1
  unfold bktS
  split
  · exact ⟨r_0, by dsimp only; omega, by dsimp only; omega, by dsimp only; omega⟩
  · split
    · have l2 := nxS_lt (a := a) (n := n) (t := (S (t + 1)).2.1) (by omega)
      have q2 := hS ((S (t + 1)).2.1 + 1) (by omega) (by omega)
      unfold okT at q2
      split
      · exact ⟨r_0, by dsimp only; omega, by dsimp only; omega, by dsimp only; omega⟩
      · exact close_ok hT (cmpS_r _ _ _) (by omega)
    · exact close_ok hT q1.1 (by omega)
theorem unit_ok {z : ZI} {a : Int → Int} {n t : Int} {S : Int → Int × Int × Int} {ok : Prop} [Decidable ok] (hT : TX z a n) (hL : LT z) (hS : ok → IsT n S) (h0 : 0 ≤ t) (h1 : t ≤ n) : okT n t (unitS a n (ltZ z) S ok t) := by
  unfold unitS
  split
  · have l := nxS_lt (a := a) (n := n) (t := t) (by omega)
    split
    · exact bkt_ok hT (hS (by assumption)) h0 l
    · exact ⟨r_0, by dsimp only; omega, by dsimp only; omega, Or.inr (by dsimp only; omega)⟩
  · split
    · have r := numR_r hT 4 t 0 h0 h1
      have v := numR_v a n 4 t 0 0 (by omega) (by omega) (by omega) (by omega)
      exact ⟨by dsimp only; omega, by dsimp only; omega, by dsimp only; omega, Or.inl rfl⟩
    · split
      · have l := nxS_lt (a := a) (n := n) (t := t) (by omega)
        rcases letIx_r (nxS a n t) with ⟨_, h2, h3⟩ | ⟨h2, _⟩
        · exact ⟨hL _ h2 h3, by dsimp only; omega, by dsimp only; omega, Or.inl rfl⟩
        · exact absurd (by assumption) h2
      · exact ⟨r_0, by dsimp only; omega, by dsimp only; omega, Or.inr (by dsimp only; omega)⟩
theorem termL_ok {z : ZI} {a : Int → Int} {n t0 : Int} {U : Int → Int × Int × Int} (hT : TX z a n) (hU : IsT n U) : ∀ (k : Nat) (r : Int × Int × Int), 0 ≤ t0 → okT n t0 r → okT n t0 (termL a n U k r)
  | 0, r, _, h => h
  | k + 1, r, h0, h => by
    unfold termL
    unfold okT at h
    split
    · exact h
    · split
      · have l := nxS_lt (a := a) (n := n) (t := r.2.1) (by omega)
        have q := hU (r.2.1 + 1) (by omega) (by omega)
        unfold okT at q
        refine termL_ok hT hU k _ h0 ⟨?_, by dsimp only; omega, by dsimp only; omega, by dsimp only; omega⟩
        have := hldS_r (if nxS a n r.2.1 = 42 then r.1 * (U (r.2.1 + 1)).1 else dvdS r.1 (U (r.2.1 + 1)).1)
        dsimp only
        omega
      · exact h
theorem sumL_ok {z : ZI} {a : Int → Int} {n t0 : Int} {U : Int → Int × Int × Int} (hT : TX z a n) (hU : IsT n U) : ∀ (k : Nat) (r : Int × Int × Int), 0 ≤ t0 → okT n t0 r → okT n t0 (sumL a n U k r)
  | 0, r, _, h => h
  | k + 1, r, h0, h => by
    unfold sumL
    unfold okT at h
    split
    · exact h
    · split
      · have l := nxS_lt (a := a) (n := n) (t := r.2.1) (by omega)
        have q := hU (r.2.1 + 1) (by omega) (by omega)
        unfold okT at q
        refine sumL_ok hT hU k _ h0 ⟨?_, by dsimp only; omega, by dsimp only; omega, by dsimp only; omega⟩
        have := hldS_r (if nxS a n r.2.1 = 43 then r.1 + (U (r.2.1 + 1)).1 else r.1 - (U (r.2.1 + 1)).1)
        dsimp only
        omega
      · exact h
theorem pS_ok {z : ZI} {a : Int → Int} {n : Int} (hT : TX z a n) (hL : LT z) : ∀ k : Nat, 1 ≤ k → IsT n (pS a n (ltZ z) k)
  | 0, h => by omega
  | k + 1, _ => by
    intro t h0 h1
    have hu : IsT n (unitS a n (ltZ z) (pS a n (ltZ z) k) (1 ≤ k)) := fun t a1 a2 => unit_ok hT hL (fun h => pS_ok hT hL k h) a1 a2
    have ht : IsT n (termS a n (unitS a n (ltZ z) (pS a n (ltZ z) k) (1 ≤ k))) := fun t a1 a2 => termL_ok hT hu 60 _ a1 (hu t a1 a2)
    exact sumL_ok hT ht 60 _ h0 (ht t h0 h1)
/-! the walks' programs do so -/
theorem x_b77 {z : ZI} {rs : ZI → Int → Option (Int × ZI)} {a : Int → Int} {n t v : Int} (hT : TX z a n) (ht : 0 ≤ t ∧ t ≤ n) : X6_readBracket_b77 rs (Zaf z t (-9)) v = some ((closeS a n v t).1, Zaf z (closeS a n v t).2.1 (closeS a n v t).2.2) := by
  have hn := x_next (e := -9) hT ht
  have n60 := hT.2.2.1
  unfold X6_readBracket_b77 closeS
  rw [x_sound, Yb_some, bi_t rfl, if_neg (by decide), hn, Yb_some]
  by_cases h : nxS a n t = 41
  · rw [if_pos h, if_pos h, show (Zaf z t (-9)) 30 3 = t from rfl, Zgd_t (by omega), Zl_eq, Zaf_3]
  · rw [if_neg h, if_neg h, x_fail, Yb_some]
theorem x_b77f {z : ZI} {rs : ZI → Int → Option (Int × ZI)} {t e v : Int} (he : e ≠ -9) : X6_readBracket_b77 rs (Zaf z t e) v = some (0, Zaf z t e) := by
  unfold X6_readBracket_b77
  rw [x_sound, Yb_some, bi_f he, if_pos rfl]
theorem x_bracket {z : ZI} {rs : ZI → Int → Option (Int × ZI)} {a : Int → Int} {n d t : Int} {S : Int → Int × Int × Int} (hT : TX z a n) (hd : 0 ≤ d ∧ d ≤ 5) (hS : d + 1 ≤ 5 → IsT n S) (hrs : d + 1 ≤ 5 → MeT z n (fun y => rs y (d + 1)) S) (ht : 0 ≤ t ∧ t < n) : F_X6_readBracket rs (Zaf z t (-9)) (d + 1) = some ((if d + 1 ≤ 5 then bktS a n S t else (0, t, t)).1, Zaf z (if d + 1 ≤ 5 then bktS a n S t else (0, t, t)).2.1 (if d + 1 ≤ 5 then bktS a n S t else (0, t, t)).2.2) := by
  have n60 := hT.2.2.1
  unfold F_X6_readBracket
  by_cases h5 : d + 1 ≤ 5
  · have q1 := hS h5 (t + 1) (by omega) (by omega)
    have r1 : rs (Zaf z (t + 1) (-9)) (d + 1) = _ := hrs h5 (t + 1) (by omega) (by omega)
    unfold okT at q1
    rw [if_pos h5, if_pos h5, show (Zaf z t (-9)) 30 3 = t from rfl, Zgd_t (by omega), Zl_eq, Zaf_3, r1, Yb_some, x_next hT (by omega), Yb_some, x_sound, Yb_some]
    unfold bktS
    by_cases e1 : (S (t + 1)).2.2 ≠ -9
    · rw [if_pos e1, bi_f e1, if_pos rfl, x_b77f e1]
    · have e1' : (S (t + 1)).2.2 = -9 := by omega
      rw [if_neg e1, bi_t e1', if_neg (by decide), e1']
      by_cases e2 : isCmp (nxS a n (S (t + 1)).2.1)
      · have l2 := nxS_lt (a := a) (n := n) (t := (S (t + 1)).2.1) (by omega)
        have q2 := hS h5 ((S (t + 1)).2.1 + 1) (by omega) (by omega)
        have r2 : rs (Zaf z ((S (t + 1)).2.1 + 1) (-9)) (d + 1) = _ := hrs h5 ((S (t + 1)).2.1 + 1) (by omega) (by omega)
        unfold okT at q2
        have b56 : X6_readBracket_b56 rs (Zaf z (S (t + 1)).2.1 (-9)) (d + 1) (S (t + 1)).1 (nxS a n (S (t + 1)).2.1) = some ((if (S ((S (t + 1)).2.1 + 1)).2.2 ≠ -9 then (0, (S ((S (t + 1)).2.1 + 1)).2) else closeS a n (cmpS (nxS a n (S (t + 1)).2.1) (S (t + 1)).1 (S ((S (t + 1)).2.1 + 1)).1) (S ((S (t + 1)).2.1 + 1)).2.1).1, Zaf z (if (S ((S (t + 1)).2.1 + 1)).2.2 ≠ -9 then (0, (S ((S (t + 1)).2.1 + 1)).2) else closeS a n (cmpS (nxS a n (S (t + 1)).2.1) (S (t + 1)).1 (S ((S (t + 1)).2.1 + 1)).1) (S ((S (t + 1)).2.1 + 1)).2.1).2.1 (if (S ((S (t + 1)).2.1 + 1)).2.2 ≠ -9 then (0, (S ((S (t + 1)).2.1 + 1)).2) else closeS a n (cmpS (nxS a n (S (t + 1)).2.1) (S (t + 1)).1 (S ((S (t + 1)).2.1 + 1)).1) (S ((S (t + 1)).2.1 + 1)).2.1).2.2) := by
          unfold X6_readBracket_b56
          rw [show (Zaf z (S (t + 1)).2.1 (-9)) 30 3 = (S (t + 1)).2.1 from rfl, Zgd_t (by omega), Zl_eq, Zaf_3, r2, Yb_some, x_cmp e2, Yb_some]
          by_cases e3 : (S ((S (t + 1)).2.1 + 1)).2.2 ≠ -9
          · rw [if_pos e3, x_b77f e3]
          · rw [if_neg e3, show (S ((S (t + 1)).2.1 + 1)).2.2 = -9 by omega, x_b77 hT (by omega)]
        rw [if_pos e2, b56]
        rcases e2 with e | e | e
        · rw [if_pos e]
        · rw [if_neg (by omega), if_pos e]
        · rw [if_neg (by omega), if_neg (by omega), if_pos e]
      · rw [if_neg e2, if_neg (fun h => e2 (Or.inl h)), if_neg (fun h => e2 (Or.inr (Or.inl h))), if_neg (fun h => e2 (Or.inr (Or.inr h))), x_b77 hT (by omega)]
  · rw [if_neg h5, if_neg h5, x_fail, Yb_some]
theorem x_unit {z : ZI} {rs : ZI → Int → Option (Int × ZI)} {a : Int → Int} {n d t : Int} {S : Int → Int × Int × Int} (hT : TX z a n) (hd : 0 ≤ d ∧ d ≤ 5) (hS : d + 1 ≤ 5 → IsT n S) (hrs : d + 1 ≤ 5 → MeT z n (fun y => rs y (d + 1)) S) (ht : 0 ≤ t ∧ t ≤ n) : F_X6_readUnit rs (Zaf z t (-9)) d = some ((unitS a n (ltZ z) S (d + 1 ≤ 5) t).1, Zaf z (unitS a n (ltZ z) S (d + 1 ≤ 5) t).2.1 (unitS a n (ltZ z) S (d + 1 ≤ 5) t).2.2) := by
  have n60 := hT.2.2.1
  have hr := nxS_r hT ht.1
  unfold F_X6_readUnit X6_readUnit_b52 unitS
  rw [x_next hT ht, Yb_some]
  by_cases h40 : nxS a n t = 40
  · have l := nxS_lt (a := a) (n := n) (t := t) (by omega)
    rw [if_pos h40, if_pos h40, Zgd_t (by omega), x_bracket hT hd hS hrs ⟨ht.1, l⟩, Yb_some]
  · rw [if_neg h40, if_neg h40, x_dig, Yb_some]
    by_cases hdg : isDig (nxS a n t)
    · rw [bi_t hdg, if_neg (by decide), if_pos hdg, x_num hT ht, Yb_some]
    · rw [bi_f hdg, if_pos rfl, if_neg hdg, x_indexOf hr, Yb_some]
      rcases letIx_r (nxS a n t) with ⟨h1, h2, h3⟩ | ⟨h1, h2⟩
      · rw [if_pos h1, if_neg (by omega), if_pos h3, show (Zaf z t (-9)) 30 3 = t from rfl, Zgd_t (by omega), Zl_eq, Zaf_3, Zgd_t (by omega)]
        rfl
      · rw [if_neg h1, if_pos (by omega), x_fail, Yb_some]
theorem x_term_L {z : ZI} {rs : ZI → Int → Option (Int × ZI)} {a : Int → Int} {n d : Int} {U : Int → Int × Int × Int} (hT : TX z a n) (hU : IsT n U) (hm : MeT z n (fun y => F_X6_readUnit rs y d) U) : ∀ (m k f : Nat) (r : Int × Int × Int) (t0 : Int), k + m = 60 → m < f → 0 ≤ t0 → okT n t0 r → X6_readTerm_L8 rs f (Zaf z r.2.1 r.2.2) d r.1 k = some ((termL a n U m r).1, Zaf z (termL a n U m r).2.1 (termL a n U m r).2.2) := by
  intro m
  induction m with
  | zero =>
    intro k f r t0 hk hf _ _
    obtain ⟨f, rfl⟩ : ∃ g, f = g + 1 := ⟨f - 1, by omega⟩
    show X6_readTerm_L8b rs (X6_readTerm_L8 rs f) _ d r.1 k = _
    unfold X6_readTerm_L8b X6_readTerm_b94
    rw [if_pos (by omega)]
    rfl
  | succ m ih =>
    intro k f r t0 hk hf h0 hr
    obtain ⟨f, rfl⟩ : ∃ g, f = g + 1 := ⟨f - 1, by omega⟩
    have hr0 := hr
    unfold okT at hr
    have n60 := hT.2.2.1
    have u : termL a n U (m + 1) r = if r.2.2 ≠ -9 then r else if nxS a n r.2.1 = 42 ∨ nxS a n r.2.1 = 47 then termL a n U m (hldS (if nxS a n r.2.1 = 42 then r.1 * (U (r.2.1 + 1)).1 else dvdS r.1 (U (r.2.1 + 1)).1), (U (r.2.1 + 1)).2) else r := rfl
    show X6_readTerm_L8b rs (X6_readTerm_L8 rs f) _ d r.1 k = _
    unfold X6_readTerm_L8b X6_readTerm_b94 X6_readTerm_b41 X6_readTerm_b94
    rw [if_neg (by omega), x_sound, Yb_some, u]
    by_cases e1 : r.2.2 ≠ -9
    · rw [if_pos e1, bi_f e1, if_pos rfl]
    · have e1' : r.2.2 = -9 := by omega
      rw [if_neg e1, bi_t e1', if_neg (by decide), e1', x_next hT (by omega), Yb_some]
      by_cases e2 : nxS a n r.2.1 = 42 ∨ nxS a n r.2.1 = 47
      · have l := nxS_lt (a := a) (n := n) (t := r.2.1) (by omega)
        have q := hU (r.2.1 + 1) (by omega) (by omega)
        have hq : F_X6_readUnit rs (Zaf z (r.2.1 + 1) (-9)) d = _ := hm (r.2.1 + 1) (by omega) (by omega)
        unfold okT at q
        have hh := hldS_r (if nxS a n r.2.1 = 42 then r.1 * (U (r.2.1 + 1)).1 else dvdS r.1 (U (r.2.1 + 1)).1)
        have i := ih (k + 1) f (hldS (if nxS a n r.2.1 = 42 then r.1 * (U (r.2.1 + 1)).1 else dvdS r.1 (U (r.2.1 + 1)).1), (U (r.2.1 + 1)).2) t0 (by omega) (by omega) h0 ⟨by dsimp only; omega, by dsimp only; omega, by dsimp only; omega, by dsimp only; omega⟩
        have b44 : X6_readTerm_b44 rs (X6_readTerm_L8 rs f) (Zaf z r.2.1 (-9)) d r.1 k (nxS a n r.2.1) = X6_readTerm_L8 rs f (Zaf z (U (r.2.1 + 1)).2.1 (U (r.2.1 + 1)).2.2) d (hldS (if nxS a n r.2.1 = 42 then r.1 * (U (r.2.1 + 1)).1 else dvdS r.1 (U (r.2.1 + 1)).1)) (k + 1) := by
          unfold X6_readTerm_b44 X6_readTerm_b84
          rw [show (Zaf z r.2.1 (-9)) 30 3 = r.2.1 from rfl, Zgd_t (by omega), Zl_eq, Zaf_3, hq, Yb_some]
          by_cases e3 : nxS a n r.2.1 = 42
          · have hm2 : InL (r.1 * (U (r.2.1 + 1)).1) := mul_InL hr.1 q.1
            rw [if_pos e3, if_pos e3, Zgd_t hm2, x_held, Yb_some, Zgd_t (by omega)]
          · rw [if_neg e3, if_neg e3, x_div hr.1 q.1, Yb_some, x_held, Yb_some, Zgd_t (by omega)]
        rw [if_pos e2, b44, ← i]
        rcases e2 with e | e
        · rw [if_pos e]; rfl
        · rw [if_neg (by omega), if_pos e]; rfl
      · rw [if_neg e2, if_neg (fun h => e2 (Or.inl h)), if_neg (fun h => e2 (Or.inr h)), ← e1']
theorem x_sum_L {z : ZI} {rs : ZI → Int → Option (Int × ZI)} {a : Int → Int} {n d : Int} {U : Int → Int × Int × Int} (hT : TX z a n) (hU : IsT n U) (hm : MeT z n (fun y => F_X6_readTerm rs y d) U) : ∀ (m k f : Nat) (r : Int × Int × Int) (t0 : Int), k + m = 60 → m < f → 0 ≤ t0 → okT n t0 r → X6_readSum_L8 rs f (Zaf z r.2.1 r.2.2) d r.1 k = some ((sumL a n U m r).1, Zaf z (sumL a n U m r).2.1 (sumL a n U m r).2.2) := by
  intro m
  induction m with
  | zero =>
    intro k f r t0 hk hf _ _
    obtain ⟨f, rfl⟩ : ∃ g, f = g + 1 := ⟨f - 1, by omega⟩
    show X6_readSum_L8b rs (X6_readSum_L8 rs f) _ d r.1 k = _
    unfold X6_readSum_L8b X6_readSum_b92
    rw [if_pos (by omega)]
    rfl
  | succ m ih =>
    intro k f r t0 hk hf h0 hr
    obtain ⟨f, rfl⟩ : ∃ g, f = g + 1 := ⟨f - 1, by omega⟩
    have hr0 := hr
    unfold okT at hr
    have n60 := hT.2.2.1
    have u : sumL a n U (m + 1) r = if r.2.2 ≠ -9 then r else if nxS a n r.2.1 = 43 ∨ nxS a n r.2.1 = 45 then sumL a n U m (hldS (if nxS a n r.2.1 = 43 then r.1 + (U (r.2.1 + 1)).1 else r.1 - (U (r.2.1 + 1)).1), (U (r.2.1 + 1)).2) else r := rfl
    show X6_readSum_L8b rs (X6_readSum_L8 rs f) _ d r.1 k = _
    unfold X6_readSum_L8b X6_readSum_b92 X6_readSum_b41 X6_readSum_b92
    rw [if_neg (by omega), x_sound, Yb_some, u]
    by_cases e1 : r.2.2 ≠ -9
    · rw [if_pos e1, bi_f e1, if_pos rfl]
    · have e1' : r.2.2 = -9 := by omega
      rw [if_neg e1, bi_t e1', if_neg (by decide), e1', x_next hT (by omega), Yb_some]
      by_cases e2 : nxS a n r.2.1 = 43 ∨ nxS a n r.2.1 = 45
      · have l := nxS_lt (a := a) (n := n) (t := r.2.1) (by omega)
        have q := hU (r.2.1 + 1) (by omega) (by omega)
        have hq : F_X6_readTerm rs (Zaf z (r.2.1 + 1) (-9)) d = _ := hm (r.2.1 + 1) (by omega) (by omega)
        unfold okT at q
        have hh := hldS_r (if nxS a n r.2.1 = 43 then r.1 + (U (r.2.1 + 1)).1 else r.1 - (U (r.2.1 + 1)).1)
        have i := ih (k + 1) f (hldS (if nxS a n r.2.1 = 43 then r.1 + (U (r.2.1 + 1)).1 else r.1 - (U (r.2.1 + 1)).1), (U (r.2.1 + 1)).2) t0 (by omega) (by omega) h0 ⟨by dsimp only; omega, by dsimp only; omega, by dsimp only; omega, by dsimp only; omega⟩
        have b44 : X6_readSum_b44 rs (X6_readSum_L8 rs f) (Zaf z r.2.1 (-9)) d r.1 k (nxS a n r.2.1) = X6_readSum_L8 rs f (Zaf z (U (r.2.1 + 1)).2.1 (U (r.2.1 + 1)).2.2) d (hldS (if nxS a n r.2.1 = 43 then r.1 + (U (r.2.1 + 1)).1 else r.1 - (U (r.2.1 + 1)).1)) (k + 1) := by
          unfold X6_readSum_b44 X6_readSum_b82
          rw [show (Zaf z r.2.1 (-9)) 30 3 = r.2.1 from rfl, Zgd_t (by omega), Zl_eq, Zaf_3, hq, Yb_some]
          by_cases e3 : nxS a n r.2.1 = 43
          · rw [if_pos e3, if_pos e3, Zgd_t (by omega), x_held, Yb_some, Zgd_t (by omega)]
          · rw [if_neg e3, if_neg e3, Zgd_t (by omega), x_held, Yb_some, Zgd_t (by omega)]
        rw [if_pos e2, b44, ← i]
        rcases e2 with e | e
        · rw [if_pos e]; rfl
        · rw [if_neg (by omega), if_pos e]; rfl
      · rw [if_neg e2, if_neg (fun h => e2 (Or.inl h)), if_neg (fun h => e2 (Or.inr h)), ← e1']
theorem x_Zrs {z : ZI} {a : Int → Int} {n : Int} (hT : TX z a n) (hL : LT z) : ∀ k : Nat, k ≤ 5 → MeT z n (fun y => Zrs (k + 1) y (5 - k)) (pS a n (ltZ z) (k + 1)) := by
  intro k
  induction k with
  | zero =>
    intro _ t h0 h1
    have hu : IsT n (unitS a n (ltZ z) (pS a n (ltZ z) 0) (1 ≤ 0)) := fun t a1 a2 => unit_ok hT hL (fun h => by omega) a1 a2
    have ht : IsT n (termS a n (unitS a n (ltZ z) (pS a n (ltZ z) 0) (1 ≤ 0))) := fun t a1 a2 => termL_ok hT hu 60 _ a1 (hu t a1 a2)
    have mu : MeT z n (fun y => F_X6_readUnit (Zrs 0) y (5 - ((0 : Nat) : Int))) (unitS a n (ltZ z) (pS a n (ltZ z) 0) (1 ≤ 0)) := by
      intro t a1 a2
      have := x_unit (rs := Zrs 0) (d := 5) (S := pS a n (ltZ z) 0) hT (by omega) (fun h => by omega) (fun h => by omega) ⟨a1, a2⟩
      exact this
    have mt : MeT z n (fun y => F_X6_readTerm (Zrs 0) y (5 - ((0 : Nat) : Int))) (termS a n (unitS a n (ltZ z) (pS a n (ltZ z) 0) (1 ≤ 0))) := by
      intro t a1 a2
      show F_X6_readTerm (Zrs 0) (Zaf z t (-9)) _ = _
      unfold F_X6_readTerm
      rw [show F_X6_readUnit (Zrs 0) (Zaf z t (-9)) _ = _ from mu t a1 a2, Yb_some]
      exact x_term_L hT hu mu 60 0 Zfuel _ t rfl (by unfold Zfuel; omega) a1 (hu t a1 a2)
    show F_X6_readSum (Zrs 0) (Zaf z t (-9)) _ = _
    unfold F_X6_readSum
    rw [show F_X6_readTerm (Zrs 0) (Zaf z t (-9)) _ = _ from mt t h0 h1, Yb_some]
    exact x_sum_L hT ht mt 60 0 Zfuel _ t rfl (by unfold Zfuel; omega) h0 (ht t h0 h1)
  | succ k ih =>
    intro hk t h0 h1
    have i := ih (by omega)
    have hs := pS_ok hT hL (k + 1) (by omega)
    have hu : IsT n (unitS a n (ltZ z) (pS a n (ltZ z) (k + 1)) (1 ≤ k + 1)) := fun t a1 a2 => unit_ok hT hL (fun _ => hs) a1 a2
    have ht : IsT n (termS a n (unitS a n (ltZ z) (pS a n (ltZ z) (k + 1)) (1 ≤ k + 1))) := fun t a1 a2 => termL_ok hT hu 60 _ a1 (hu t a1 a2)
    have dk : (5 : Int) - ((k + 1 : Nat) : Int) + 1 = 5 - (k : Int) := by omega
    have mu : MeT z n (fun y => F_X6_readUnit (Zrs (k + 1)) y (5 - ((k + 1 : Nat) : Int))) (unitS a n (ltZ z) (pS a n (ltZ z) (k + 1)) (1 ≤ k + 1)) := by
      intro t a1 a2
      have := x_unit (rs := Zrs (k + 1)) (d := 5 - ((k + 1 : Nat) : Int)) (S := pS a n (ltZ z) (k + 1)) hT (by omega) (fun _ => hs) (fun _ => by rw [dk]; exact i) ⟨a1, a2⟩
      have e : ∀ t, unitS a n (ltZ z) (pS a n (ltZ z) (k + 1)) (5 - ((k + 1 : Nat) : Int) + 1 ≤ 5) t = unitS a n (ltZ z) (pS a n (ltZ z) (k + 1)) (1 ≤ k + 1) t := by
        intro t
        unfold unitS
        rw [if_pos (show 5 - ((k + 1 : Nat) : Int) + 1 ≤ 5 by omega), if_pos (show 1 ≤ k + 1 by omega)]
      rw [e] at this
      exact this
    have mt : MeT z n (fun y => F_X6_readTerm (Zrs (k + 1)) y (5 - ((k + 1 : Nat) : Int))) (termS a n (unitS a n (ltZ z) (pS a n (ltZ z) (k + 1)) (1 ≤ k + 1))) := by
      intro t a1 a2
      show F_X6_readTerm (Zrs (k + 1)) (Zaf z t (-9)) _ = _
      unfold F_X6_readTerm
      rw [show F_X6_readUnit (Zrs (k + 1)) (Zaf z t (-9)) _ = _ from mu t a1 a2, Yb_some]
      exact x_term_L hT hu mu 60 0 Zfuel _ t rfl (by unfold Zfuel; omega) a1 (hu t a1 a2)
    show F_X6_readSum (Zrs (k + 1)) (Zaf z t (-9)) _ = _
    unfold F_X6_readSum
    rw [show F_X6_readTerm (Zrs (k + 1)) (Zaf z t (-9)) _ = _ from mt t h0 h1, Yb_some]
    exact x_sum_L hT ht mt 60 0 Zfuel _ t rfl (by unfold Zfuel; omega) h0 (ht t h0 h1)
