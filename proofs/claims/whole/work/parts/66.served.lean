/-! wells: the class' lines -/
theorem nearR_s (wc : Int → Int) (c : Int) (n : Nat) : nearR wc c (n + 1) = if nearR wc c n < 0 ∨ farS c (wc n) < farS c (wc (nearR wc c n)) then (n : Int) else nearR wc c n := rfl
theorem nearR_r (wc : Int → Int) (c : Int) : ∀ n : Nat, nearR wc c n = -9 ∨ (0 ≤ nearR wc c n ∧ nearR wc c n < n)
  | 0 => Or.inl rfl
  | n + 1 => by
    have := nearR_r wc c n
    rw [nearR_s]
    split <;> omega
theorem nearR_c {wc wd : Int → Int} (c : Int) : ∀ n : Nat, (∀ w : Int, 0 ≤ w → w < n → wc w = wd w) → nearR wc c n = nearR wd c n
  | 0, _ => rfl
  | n + 1, h => by
    have i := nearR_c c n (fun w a b => h w a (by omega))
    have r := nearR_r wd c n
    rw [nearR_s, nearR_s, i, h n (by omega) (by omega)]
    by_cases q : nearR wd c n < 0
    · rw [if_pos (Or.inl q), if_pos (Or.inl q)]
    · rw [h (nearR wd c n) (by omega) (by omega)]
theorem x_near {z : ZI} {c : Int} (hW : JW z) (hc : 0 ≤ c ∧ c < 144) : F_X9_nearest z c = some (nearR (z 95) c (z 68 47).toNat, z) := by
  obtain ⟨w1, w2, w3, w4, -⟩ := hW
  have l : ∀ (n k fu : Nat) (ls : Int), k + n = (z 68 47).toNat → n < fu → (nearR (z 95) c k = -9 ∨ ls = farS c (z 95 (nearR (z 95) c k))) → X9_nearest_L8 fu z c (nearR (z 95) c k) ls k = some (nearR (z 95) c (z 68 47).toNat, z) := by
    intro n
    induction n with
    | zero =>
      intro k fu ls hk hf h
      obtain ⟨fu, rfl⟩ : ∃ g, fu = g + 1 := ⟨fu - 1, by omega⟩
      obtain rfl : k = (z 68 47).toNat := by omega
      show X9_nearest_L8b (X9_nearest_L8 fu) _ _ _ _ _ = _
      unfold X9_nearest_L8b
      rw [if_pos (by omega)]
    | succ n ih =>
      intro k fu ls hk hf h
      obtain ⟨fu, rfl⟩ : ∃ g, fu = g + 1 := ⟨fu - 1, by omega⟩
      have q := w4 k (by omega) (by omega)
      have r := nearR_r (z 95) c k
      have ap := x_apart (z := z) (a := c) (b := z 95 k) hc ⟨q.2.1, q.2.2.1⟩
      have i := fun ls => ih (k + 1) fu ls (by omega) (by omega)
      rw [nearR_s] at i
      show X9_nearest_L8b (X9_nearest_L8 fu) _ _ _ _ _ = _
      unfold X9_nearest_L8b X9_nearest_b42 X9_nearest_b48
      rw [if_neg (by omega), Zgd_t (by omega), q.1, ap, Yb_some]
      by_cases c1 : nearR (z 95) c k = -9
      · rw [if_pos (Or.inl (by omega))] at i
        rw [if_pos c1, Zgd_t (by omega), show (k : Int) + 1 = ((k + 1 : Nat) : Int) by omega]
        exact i _ (Or.inr rfl)
      · have hls := h.resolve_left c1
        rw [if_neg c1]
        by_cases c2 : ls ≤ farS c (z 95 k)
        · rw [if_neg (by omega)] at i
          rw [if_pos c2, Zgd_t (by omega), show (k : Int) + 1 = ((k + 1 : Nat) : Int) by omega]
          exact i _ h
        · rw [if_pos (by omega)] at i
          rw [if_neg c2, Zgd_t (by omega), show (k : Int) + 1 = ((k + 1 : Nat) : Int) by omega]
          exact i _ (Or.inr rfl)
  exact l (z 68 47).toNat 0 Zfuel 0 (by omega) (by unfold Zfuel; omega) (Or.inl rfl)
/-- frame: the class' line and what it spends -/
def Zfz (z : ZI) (n : Int) (A B C D E : Int → Int) : ZI := fun k i => if k = 41 ∧ i = 5 then n else if k = 46 then A i else if k = 47 then B i else if k = 48 then C i else if k = 49 then D i else if k = 50 then E i else z k i
def FrZ (z z2 : ZI) : Prop := ∀ k i, (z2 k i = z k i) ∨ (k = 41 ∧ i = 5) ∨ k = 46 ∨ k = 47 ∨ k = 48 ∨ k = 49 ∨ k = 50
theorem FrZ.eq {z z2 : ZI} (h : FrZ z z2) : z2 = Zfz z (z2 41 5) (z2 46) (z2 47) (z2 48) (z2 49) (z2 50) := by
  funext k i
  unfold Zfz
  by_cases h1 : k = 41 ∧ i = 5
  · rw [if_pos h1, h1.1, h1.2]
  · rw [if_neg h1]
    by_cases h2 : k = 46
    · rw [if_pos h2, h2]
    · rw [if_neg h2]
      by_cases h3 : k = 47
      · rw [if_pos h3, h3]
      · rw [if_neg h3]
        by_cases h4 : k = 48
        · rw [if_pos h4, h4]
        · rw [if_neg h4]
          by_cases h5 : k = 49
          · rw [if_pos h5, h5]
          · rw [if_neg h5]
            by_cases h6 : k = 50
            · rw [if_pos h6, h6]
            · rw [if_neg h6]
              rcases h k i with q | q | q | q | q | q | q
              · exact q
              all_goals omega
theorem FrZ.rf (z : ZI) : FrZ z z := fun _ _ => Or.inl rfl
theorem FrZ.tr {z z2 z3 : ZI} (h : FrZ z z2) (g : FrZ z2 z3) : FrZ z z3 := by
  intro k i
  rcases h k i with q | q
  · rcases g k i with r | r
    · exact Or.inl (r.trans q)
    · exact Or.inr r
  · exact Or.inr q
theorem FrZ.k {z z2 : ZI} (h : FrZ z z2) {k : Nat} (h1 : k ≠ 41) (h2 : k ≠ 46) (h3 : k ≠ 47) (h4 : k ≠ 48) (h5 : k ≠ 49) (h6 : k ≠ 50) : z2 k = z k := by
  funext i
  rcases h k i with q | q | q | q | q | q | q
  · exact q
  all_goals omega
theorem FrZ.q {z z2 : ZI} (h : FrZ z z2) {i : Int} (hi : i ≠ 5) : z2 41 i = z 41 i := by
  rcases h 41 i with q | q | q | q | q | q | q
  · exact q
  · exact absurd q.2 hi
  all_goals exact absurd q (by decide)
theorem FrZ_u {z : ZI} {k : Nat} {i v : Int} (hk : (k = 41 ∧ i = 5) ∨ k = 46 ∨ k = 47 ∨ k = 48 ∨ k = 49 ∨ k = 50) : FrZ z (Zup z k i v) := by
  intro k' j
  by_cases h : k' = k ∧ j = i
  · rw [h.1, h.2]; exact Or.inr hk
  · exact Or.inl (if_neg h)
theorem FrZ_2 (z : ZI) (A B : Int → Int) : FrZ z (Ztwo z 49 50 A B) := by
  intro k' i
  by_cases h : k' = 49
  · rw [h]; exact Or.inr (by omega)
  · by_cases h2 : k' = 50
    · rw [h2]; exact Or.inr (by omega)
    · exact Or.inl (by rw [Ztwo_k h h2])
theorem K_fz {z : ZI} {n : Int} {A B C D E : Int → Int} (h : K z) : K (Zfz z n A B C D E) := by
  obtain ⟨hD, hH, hP, hS, hL, hT, hE, hV, hA, hU, hC, hK, hW, hB, hG, hX, hQ, hO⟩ := h
  exact ⟨(JD_c rfl rfl hD), (JH_c rfl rfl rfl rfl rfl rfl rfl hH), (JP_c rfl rfl rfl rfl rfl rfl rfl rfl rfl rfl rfl rfl hP), (JS_c rfl rfl rfl rfl rfl rfl rfl rfl rfl rfl rfl hS), (JL_c rfl rfl hL), (JT_c rfl rfl rfl rfl rfl hT), (JE_c rfl rfl rfl rfl hE), (JV_c rfl rfl rfl rfl hV), (JA_c rfl rfl rfl rfl hA), (JU_c rfl rfl rfl rfl rfl rfl rfl rfl rfl rfl hU), (JC_c rfl rfl rfl rfl rfl rfl rfl rfl rfl rfl hC), (JK_c rfl rfl rfl rfl rfl rfl rfl rfl rfl hK), (JW_c rfl rfl rfl rfl rfl rfl rfl rfl rfl rfl hW), (JB_c rfl rfl rfl rfl rfl rfl rfl rfl rfl rfl rfl rfl rfl rfl rfl rfl rfl rfl rfl rfl hB), (JG_c rfl rfl rfl rfl rfl hG), (JX_c rfl rfl rfl rfl rfl hX), (JQ_c rfl rfl rfl rfl rfl hQ), (JO_c rfl rfl rfl rfl rfl rfl rfl rfl rfl rfl rfl hO)⟩
theorem FrZ_K {z z2 : ZI} (h : FrZ z z2) (hK : K z) : K z2 := by
  rw [h.eq]
  exact K_fz hK
theorem JN_fz {n : Int} {z z2 : ZI} (h : JN n z) (f : FrZ z z2) : JN n z2 := by
  intro i a b
  rw [f.k (k := 1) (by decide) (by decide) (by decide) (by decide) (by decide) (by decide), f.k (k := 69) (by decide) (by decide) (by decide) (by decide) (by decide) (by decide)]
  exact h i a b
theorem needF_b {z : ZI} (hP : JP z) (h : Int) : 0 ≤ needF z h ∧ needF z h ≤ 300 := by
  have := hereH_b (z := z) h (z 68 11) hP
  unfold needF
  omega
theorem goesF_r {z : ZI} (hW : JW z) (h : Int) : goesF z h = -9 ∨ (0 ≤ goesF z h ∧ goesF z h < z 68 47) := by
  have := nearR_r (z 95) (z 71 h) (z 68 47).toNat
  have := hW.2.1
  unfold goesF
  omega
def lnS (z : ZI) (w : Int) (n : Nat) : List Int := lineR (goesF z) (needF z) w n
theorem x_lineUp_L {z : ZI} {w : Int} (hK : K z) : ∀ (n k fu : Nat) (y : ZI), k + n = (z 68 12).toNat → n < fu → FrZ z y → LCn y (lnS z w k) (z 72) (needF z) → ∃ y2, X9_lineUp_L8 fu y w (z 68 11) k = some ((), y2) ∧ FrZ z y2 ∧ LCn y2 (lnS z w (z 68 12).toNat) (z 72) (needF z) := by
  have hH := K_H hK
  have h30 := hH.2.1
  have h0 := hH.1
  intro n
  induction n with
  | zero =>
    intro k fu y hk hf fr hl
    obtain ⟨fu, rfl⟩ : ∃ g, fu = g + 1 := ⟨fu - 1, by omega⟩
    obtain rfl : k = (z 68 12).toNat := by omega
    refine ⟨y, ?_, fr, hl⟩
    have e11 : y 11 0 = z 68 12 := by rw [fr.k (k := 11) (by decide) (by decide) (by decide) (by decide) (by decide) (by decide)]; exact hH.2.2.1
    show X9_lineUp_L8b (X9_lineUp_L8 fu) _ _ _ _ = _
    unfold X9_lineUp_L8b
    rw [e11, if_pos (by omega)]
  | succ n ih =>
    intro k fu y hk hf fr hl
    obtain ⟨fu, rfl⟩ : ∃ g, fu = g + 1 := ⟨fu - 1, by omega⟩
    have hKy := FrZ_K fr hK
    have e11 : y 11 0 = z 68 12 := by rw [fr.k (k := 11) (by decide) (by decide) (by decide) (by decide) (by decide) (by decide)]; exact hH.2.2.1
    have e12 : y 12 k = z 71 k := by rw [fr.k (k := 12) (by decide) (by decide) (by decide) (by decide) (by decide) (by decide)]; exact (hH.2.2.2.1 k (by omega) (by omega)).1
    have e13 : y 13 k = z 72 k := by rw [fr.k (k := 13) (by decide) (by decide) (by decide) (by decide) (by decide) (by decide)]; exact (hH.2.2.2.1 k (by omega) (by omega)).2.2.2.1
    have q := hH.2.2.2.1 k (by omega) (by omega)
    have en := x_near (c := z 71 k) (K_W hKy) ⟨q.2.1, q.2.2.1⟩
    have en2 : nearR (y 95) (z 71 k) (y 68 47).toNat = goesF z k := by
      rw [fr.k (k := 95) (by decide) (by decide) (by decide) (by decide) (by decide) (by decide), fr.k (k := 68) (by decide) (by decide) (by decide) (by decide) (by decide) (by decide)]
      rfl
    rw [en2] at en
    have eh := x_hereInHouse (z := y) (h := (k : Int)) (d := z 68 11) (K_P hKy) (K_S hKy)
    have eh2 : hereH y k (z 68 11) = hereH z k (z 68 11) := by rw [fr.eq]; rfl
    rw [eh2] at eh
    have hb := hereH_b (z := z) (k : Int) (z 68 11) (K_P hK)
    have nk : needF z k = 5 * hereH z k (z 68 11) := rfl
    have le := lineR_len (goesF z) (needF z) w k
    have le : (lnS z w k).length ≤ k := le
    have us : lnS z w (k + 1) = if goesF z k = w ∧ needF z k ≠ 0 then lnS z w k ++ [(k : Int)] else lnS z w k := rfl
    have b97 : ∀ y, X9_lineUp_b97 (X9_lineUp_L8 fu) y w (z 68 11) k = X9_lineUp_L8 fu y w (z 68 11) ((k + 1 : Nat) : Int) := by
      intro y
      unfold X9_lineUp_b97
      rw [Zgd_t (by omega), show (k : Int) + 1 = ((k + 1 : Nat) : Int) by omega]
    have e0 : X9_lineUp_L8 (fu + 1) y w (z 68 11) k = X9_lineUp_L8b (X9_lineUp_L8 fu) y w (z 68 11) k := rfl
    rw [e0]
    unfold X9_lineUp_L8b F_X3_cellOf
    rw [e11, if_neg (by omega), Zgd_t (by omega), Yb_some, e12, en, Yb_some]
    by_cases c1 : goesF z k = w
    · rw [if_pos c1, eh, Yb_some, Zgd_t (by omega)]
      by_cases c2 : 5 * hereH z k (z 68 11) ≤ 0
      · rw [if_pos c2, b97]
        exact ih (k + 1) fu y (by omega) (by omega) fr (by rw [us, if_neg (fun t => t.2 (by omega))]; exact hl)
      · have es : ∀ (a b : Int → Int) , True := fun _ _ => trivial
        rw [if_neg c2, hl.1, Zgd_t (by omega), Zl_eq]
        unfold F_X3_blockOf
        have f13 : ∀ (j v : Int), (Zup y 46 j v) 13 k = z 72 k := fun j v => by rw [Zup_k (by decide)]; exact e13
        have f41 : ∀ (j v : Int), (Zup y 46 j v) 41 5 = (lnS z w k).length := fun j v => by rw [Zup_k (by decide)]; exact hl.1
        have g41 : ∀ (j v j2 v2 : Int), (Zup (Zup y 46 j v) 47 j2 v2) 41 5 = (lnS z w k).length := fun j v j2 v2 => by rw [Zup_k (by decide), Zup_k (by decide)]; exact hl.1
        have h41 : ∀ (j v j2 v2 j3 v3 : Int), (Zup (Zup (Zup y 46 j v) 47 j2 v2) 48 j3 v3) 41 5 = (lnS z w k).length := fun j v j2 v2 j3 v3 => by rw [Zup_k (by decide), Zup_k (by decide), Zup_k (by decide)]; exact hl.1
        rw [Zgd_t (by omega), Yb_some, f13, f41, Zgd_t (by omega), Zl_eq, g41, Zgd_t (by omega), Zl_eq, h41, Zgd_t (by omega), Zl_eq, b97]
        refine ih (k + 1) fu _ (by omega) (by omega) ((((fr.tr (FrZ_u (by omega))).tr (FrZ_u (by omega))).tr (FrZ_u (by omega))).tr (FrZ_u (by omega))) ?_
        rw [us, if_pos ⟨c1, by omega⟩]
        refine ⟨?_, ?_, fun j hj => ?_⟩
        · rw [Zup_s, List.length_append, List.length_singleton]; omega
        · rw [List.length_append, List.length_singleton]; omega
        · rw [List.length_append, List.length_singleton] at hj
          have x46 : ∀ (v v2 v3 v4 : Int), (Zup (Zup (Zup (Zup y 46 ((lnS z w k).length : Nat) v) 47 ((lnS z w k).length : Nat) v2) 48 ((lnS z w k).length : Nat) v3) 41 5 v4) 46 j = if (j : Int) = ((lnS z w k).length : Nat) then v else y 46 j := fun v v2 v3 v4 => by
            rw [Zup_k (by decide), Zup_k (by decide), Zup_k (by decide), Zup_ki]
          have x47 : ∀ (v v2 v3 v4 : Int), (Zup (Zup (Zup (Zup y 46 ((lnS z w k).length : Nat) v) 47 ((lnS z w k).length : Nat) v2) 48 ((lnS z w k).length : Nat) v3) 41 5 v4) 47 j = if (j : Int) = ((lnS z w k).length : Nat) then v2 else y 47 j := fun v v2 v3 v4 => by
            rw [Zup_k (by decide), Zup_k (by decide), Zup_ki, Zup_k (by decide)]
          have x48 : ∀ (v v2 v3 v4 : Int), (Zup (Zup (Zup (Zup y 46 ((lnS z w k).length : Nat) v) 47 ((lnS z w k).length : Nat) v2) 48 ((lnS z w k).length : Nat) v3) 41 5 v4) 48 j = if (j : Int) = ((lnS z w k).length : Nat) then v3 else y 48 j := fun v v2 v3 v4 => by
            rw [Zup_k (by decide), Zup_ki, Zup_k (by decide), Zup_k (by decide)]
          rw [x46, x47, x48]
          by_cases c : j = (lnS z w k).length
          · rw [if_pos (by omega), if_pos (by omega), if_pos (by omega), c, nth_app]
            exact ⟨rfl, rfl, nk.symm⟩
          · rw [if_neg (by omega), if_neg (by omega), if_neg (by omega), nth_l [(k : Int)] (by omega)]
            exact hl.2.2 j (by omega)
    · rw [if_neg c1, b97]
      exact ih (k + 1) fu y (by omega) (by omega) fr (by rw [us, if_neg (fun t => c1 t.1)]; exact hl)
theorem x_lineUp {z : ZI} {w : Int} (hK : K z) : ∃ y, F_X9_lineUp z w (z 68 11) = some ((), y) ∧ FrZ z y ∧ LCn y (lnS z w (z 68 12).toNat) (z 72) (needF z) := by
  have h30 := (K_H hK).2.1
  exact x_lineUp_L (w := w) hK (z 68 12).toNat 0 Zfuel (Zup z 41 5 0) (by omega) (by unfold Zfuel; omega) (FrZ_u (by omega)) ⟨Zup_s, Nat.zero_le _, fun j hj => absurd hj (by simp [lnS, lineR])⟩
theorem x_find_L {y : ZI} {l : List Int} {bl nd f : Int → Int} {h : Int} (hl : LCn y l bl nd) (hb : LAn (y 50) l f) (d : distL l) {J : Nat} (hJ : J < l.length) (hh : nth l J = h) : ∀ (n k fu : Nat), k + n = J → n < fu → X9_hourOf_L62 fu y h k = some (f h, y) := by
  have l30 := hl.2.1
  intro n
  induction n with
  | zero =>
    intro k fu hk hf
    obtain ⟨fu, rfl⟩ : ∃ g, fu = g + 1 := ⟨fu - 1, by omega⟩
    obtain rfl : k = J := by omega
    show X9_hourOf_L62b (X9_hourOf_L62 fu) _ _ _ = _
    unfold X9_hourOf_L62b
    rw [hl.1, if_neg (by omega), Zgd_t (by omega), (hl.2.2 k hJ).1, if_pos hh, Zgd_t (by omega), hb k hJ, hh]
  | succ n ih =>
    intro k fu hk hf
    obtain ⟨fu, rfl⟩ : ∃ g, fu = g + 1 := ⟨fu - 1, by omega⟩
    have ne := d k J (by omega) hJ
    rw [hh] at ne
    show X9_hourOf_L62b (X9_hourOf_L62 fu) _ _ _ = _
    unfold X9_hourOf_L62b
    rw [hl.1, if_neg (by omega), Zgd_t (by omega), (hl.2.2 k (by omega)).1, if_neg ne, Zgd_t (by omega), show (k : Int) + 1 = ((k + 1 : Nat) : Int) by omega]
    exact ih (k + 1) fu (by omega) (by omega)
def sV (z : ZI) (bg : Int → Int) (h : Int) : Int := srvH (z 72) bg (needF z) (goesF z) (z 96) (z 97) (z 68 12).toNat h
theorem x_hourOf {z : ZI} {h : Int} (hK : K z) (hh : 0 ≤ h ∧ h < z 68 12) : ∃ y, F_X9_hourOf z h (z 68 11) = some (sV z (z 98) h, y) ∧ FrZ z y := by
  have hH := K_H hK
  have hW := K_W hK
  have h30 := hH.2.1
  have q := hH.2.2.2.1 h hh.1 hh.2
  have hb := hereH_b (z := z) h (z 68 11) (K_P hK)
  have nk : needF z h = 5 * hereH z h (z 68 11) := rfl
  have bgn := hW.2.2.2.2
  unfold F_X9_hourOf sV srvH
  rw [x_hereInHouse (K_P hK) (K_S hK), Yb_some]
  by_cases c : hereH z h (z 68 11) = 0
  · have bq := bgn (z 72 h) q.2.2.2.2.1 q.2.2.2.2.2
    unfold F_X3_blockOf
    rw [if_pos c, if_pos (by omega), Zgd_t (by omega), Yb_some, q.2.2.2.1, Zgd_t (by omega), bq.1]
    exact ⟨z, rfl, FrZ.rf z⟩
  · have gr := goesF_r hW h
    have en := x_near (c := z 71 h) hW ⟨q.2.1, q.2.2.1⟩
    have en2 : nearR (z 95) (z 71 h) (z 68 47).toNat = goesF z h := rfl
    rw [en2] at en
    unfold F_X3_cellOf
    rw [if_neg c, if_neg (by omega), Zgd_t (by omega), Yb_some, q.1, en, Yb_some]
    by_cases c2 : goesF z h = -9
    · rw [if_pos c2, if_pos (by omega)]
      exact ⟨z, rfl, FrZ.rf z⟩
    · obtain ⟨y1, a1, a2, a3⟩ := x_lineUp (w := goesF z h) hK
      have wq := hW.2.2.2.1 (goesF z h) (by omega) (by omega)
      have mem := lineR_mem (goesF z) (needF z) (goesF z h) (z 68 12).toNat
      have ek : ∀ k, k ≠ 41 → k ≠ 46 → k ≠ 47 → k ≠ 48 → k ≠ 49 → k ≠ 50 → y1 k = z k := fun k k1 k2 k3 k4 k5 k6 => a2.k k1 k2 k3 k4 k5 k6
      have w3 := hW.2.2.1
      obtain ⟨a, b, s1, s2⟩ := x_spendDay (z := y1) (a3 := 45) (bg := z 98) (w := goesF z h) (yi := z 96 (goesF z h)) (de := z 97 (goesF z h)) (by decide) (by decide) (fun b b0 b1 => by
        rw [ek 45 (by decide) (by decide) (by decide) (by decide) (by decide) (by decide)]
        have := bgn b b0 b1
        exact ⟨this.1, this.2.1⟩) a3 (lineR_d _ _ _ _) (fun x hx => by
        have m := (mem x).mp hx
        have := hH.2.2.2.1 x m.1 (by omega)
        omega) (needF_b (K_P hK)) (by omega) (by rw [ek 43 (by decide) (by decide) (by decide) (by decide) (by decide) (by decide)]; exact wq.2.2.2.1) (by omega) (by rw [ek 44 (by decide) (by decide) (by decide) (by decide) (by decide) (by decide)]; exact wq.2.2.2.2.2.2.1) (by omega)
      obtain ⟨J, j1, j2⟩ := nth_mem.mp ((mem h).mpr ⟨hh.1, by omega, rfl, by omega⟩)
      have a3' : LCn (Ztwo y1 49 50 a b) (lnS z (goesF z h) (z 68 12).toNat) (z 72) (needF z) := a3
      have l30 := a3.2.1
      have f := x_find_L a3' (show LAn ((Ztwo y1 49 50 a b) 50) _ _ from s2) (lineR_d _ _ _ _) j1 j2 J 0 Zfuel (by omega) (by
        have l30 : (lineR (goesF z) (needF z) (goesF z h) (z 68 12).toNat).length ≤ 30 := l30
        unfold Zfuel; omega)
      refine ⟨Ztwo y1 49 50 a b, ?_, a2.tr (FrZ_2 _ _ _)⟩
      rw [if_neg c2, if_neg (by omega), a1, Yb_some, s1, Yb_some]
      exact f
