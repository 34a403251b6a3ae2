/-! wells: best, both (the class' rows made) -/
def Zfg (z : ZI) (a b c : Int) (A : ZI) : ZI := fun k i => if k = 68 ∧ i = 48 then a else if k = 68 ∧ i = 49 then b else if k = 68 ∧ i = 53 then c else if 99 ≤ k ∧ k ≤ 107 then A k i else z k i
def FrG (z z2 : ZI) : Prop := ∀ k i, (z2 k i = z k i) ∨ (99 ≤ k ∧ k ≤ 107) ∨ (k = 68 ∧ (i = 48 ∨ i = 49 ∨ i = 53))
theorem FrG.eq {z z2 : ZI} (h : FrG z z2) : z2 = Zfg z (z2 68 48) (z2 68 49) (z2 68 53) z2 := by
  funext k i
  unfold Zfg
  by_cases h1 : k = 68 ∧ i = 48
  · rw [if_pos h1, h1.1, h1.2]
  · rw [if_neg h1]
    by_cases h2 : k = 68 ∧ i = 49
    · rw [if_pos h2, h2.1, h2.2]
    · rw [if_neg h2]
      by_cases h3 : k = 68 ∧ i = 53
      · rw [if_pos h3, h3.1, h3.2]
      · rw [if_neg h3]
        by_cases h4 : 99 ≤ k ∧ k ≤ 107
        · rw [if_pos h4]
        · rw [if_neg h4]
          rcases h k i with q | q | q
          · exact q
          · exact absurd q h4
          · omega
theorem FrG.rf (z : ZI) : FrG z z := fun _ _ => Or.inl rfl
theorem FrG.tr {z z2 z3 : ZI} (h : FrG z z2) (g : FrG z2 z3) : FrG z z3 := by
  intro k i
  rcases h k i with q | q
  · rcases g k i with r | r
    · exact Or.inl (r.trans q)
    · exact Or.inr r
  · exact Or.inr q
theorem FrG.k {z z2 : ZI} (h : FrG z z2) {k : Nat} (h1 : k ≠ 68) (h2 : ¬ (99 ≤ k ∧ k ≤ 107)) : z2 k = z k := by
  funext i
  rcases h k i with q | q | q
  · exact q
  · exact absurd q h2
  · exact absurd q.1 h1
theorem FrG_V {z z2 : ZI} (h : FrV z z2) : FrG z z2 := by
  intro k i
  by_cases c : 99 ≤ k ∧ k ≤ 107
  · exact Or.inr (Or.inl c)
  · exact Or.inl (by rw [h k (by omega) (by omega) (by omega) (by omega) (by omega) (by omega) (by omega)])
theorem FrG_E {z z2 : ZI} (h : FrE z z2) : FrG z z2 := by
  intro k i
  rcases h k i with q | q | q
  · exact Or.inl q
  · exact Or.inr (Or.inl (by omega))
  · exact Or.inr (Or.inr ⟨q.1, by omega⟩)
theorem FrG_r {z : ZI} {k : Nat} {f : Int → Int} (hk : 99 ≤ k ∧ k ≤ 107) : FrG z (Zro z k f) := by
  intro k' i
  by_cases h : k' = k
  · rw [h]; exact Or.inr (Or.inl hk)
  · exact Or.inl (if_neg h)
theorem FrG_u {z : ZI} {i v : Int} (h : i = 48 ∨ i = 49 ∨ i = 53) : FrG z (Zup z 68 i v) := by
  intro k j
  by_cases c : k = 68 ∧ j = i
  · exact Or.inr (Or.inr ⟨c.1, by rw [c.2]; exact h⟩)
  · exact Or.inl (if_neg c)
theorem K_fg {z : ZI} {a b c : Int} {A : ZI} (hj : JG (Zfg z a b c A)) (h : K z) : K (Zfg z a b c A) := by
  obtain ⟨hD, hH, hP, hS, hL, hT, hE, hV, hA, hU, hC, hK, hW, hB, hG, hX, hQ, hO⟩ := h
  exact ⟨(JD_c rfl rfl hD), (JH_c rfl rfl rfl rfl rfl rfl rfl hH), (JP_c rfl rfl rfl rfl rfl rfl rfl rfl rfl rfl rfl rfl hP), (JS_c rfl rfl rfl rfl rfl rfl rfl rfl rfl rfl rfl hS), (JL_c rfl rfl hL), (JT_c rfl rfl rfl rfl rfl hT), (JE_c rfl rfl rfl rfl hE), (JV_c rfl rfl rfl rfl hV), (JA_c rfl rfl rfl rfl hA), (JU_c rfl rfl rfl rfl rfl rfl rfl rfl rfl rfl hU), (JC_c rfl rfl rfl rfl rfl rfl rfl rfl rfl rfl hC), (JK_c rfl rfl rfl rfl rfl rfl rfl rfl rfl hK), (JW_c rfl rfl rfl rfl rfl rfl rfl rfl rfl rfl hW), (JB_c rfl rfl rfl rfl rfl rfl rfl rfl rfl rfl rfl rfl rfl rfl rfl rfl rfl rfl rfl rfl hB), hj, (JX_c rfl rfl rfl rfl rfl hX), (JQ_c rfl rfl rfl rfl rfl hQ), (JO_c rfl rfl rfl rfl rfl rfl rfl rfl rfl rfl rfl hO)⟩
theorem FrG_K {z z2 : ZI} (h : FrG z z2) (hj : JG z2) (hK : K z) : K z2 := by
  rw [h.eq] at hj ⊢
  exact K_fg hj hK
theorem JN_fg {n : Int} {z z2 : ZI} (h : JN n z) (f : FrG z z2) : JN n z2 := by
  intro i a b
  rw [f.k (k := 1) (by decide) (by omega), f.k (k := 69) (by decide) (by omega)]
  exact h i a b
theorem cost_fg {z z2 : ZI} (f : FrG z z2) : cost z2 = cost z := by
  rw [f.eq]
  rfl
theorem K_G {z : ZI} (h : K z) : JG z := by
  obtain ⟨hD, hH, hP, hS, hL, hT, hE, hV, hA, hU, hC, hK, hW, hB, hG, hX, hQ, hO⟩ := h
  exact hG
theorem JG_f {z : ZI} (h : JG z) : z 68 53 = 0 ∨ z 68 53 = 1 := by
  rcases h with h | h
  · exact Or.inl h
  · exact Or.inr h.1
/-- the codes tell all -/
theorem codes_eq {nh nh2 nw nw2 : Nat} {bl bl2 nd nd2 go go2 yi yi2 de de2 : Int → Int} (h30 : nh ≤ 30) (h302 : nh2 ≤ 30) (h6 : nw ≤ 6) (h62 : nw2 ≤ 6) (r1 : ∀ h : Int, 0 ≤ h → h < nh → 0 ≤ nd h ∧ 0 ≤ bl h ∧ bl h ≤ 3) (r2 : ∀ h : Int, 0 ≤ h → h < nh2 → 0 ≤ nd2 h ∧ 0 ≤ bl2 h ∧ bl2 h ≤ 3) (q1 : ∀ w : Int, 0 ≤ w → w < nw → 1 ≤ yi w ∧ 1 ≤ de w ∧ de w ≤ 9999) (q2 : ∀ w : Int, 0 ≤ w → w < nw2 → 1 ≤ yi2 w ∧ 1 ≤ de2 w ∧ de2 w ≤ 9999) (eh : ∀ h : Int, 0 ≤ h → h < 30 → cdB nh bl nd go h = cdB nh2 bl2 nd2 go2 h ∧ cdT nh nd h = cdT nh2 nd2 h) (ew : ∀ w : Int, 0 ≤ w → w < 6 → cdW nw yi de w = cdW nw2 yi2 de2 w) : nh = nh2 ∧ nw = nw2 ∧ (∀ h : Int, 0 ≤ h → h < nh → bl h = bl2 h ∧ nd h = nd2 h ∧ go h = go2 h) ∧ (∀ w : Int, 0 ≤ w → w < nw → yi w = yi2 w ∧ de w = de2 w) := by
  have a : nh = nh2 := by
    rcases Nat.lt_trichotomy nh nh2 with q | q | q
    · have e := (eh nh (by omega) (by omega)).2
      have r := r2 nh (by omega) (by omega)
      unfold cdT at e
      rw [if_neg (by omega), if_pos (by omega)] at e
      omega
    · exact q
    · have e := (eh nh2 (by omega) (by omega)).2
      have r := r1 nh2 (by omega) (by omega)
      unfold cdT at e
      rw [if_pos (by omega), if_neg (by omega)] at e
      omega
  have b : nw = nw2 := by
    rcases Nat.lt_trichotomy nw nw2 with q | q | q
    · have e := ew nw (by omega) (by omega)
      have r := q2 nw (by omega) (by omega)
      unfold cdW at e
      rw [if_neg (by omega), if_pos (by omega)] at e
      omega
    · exact q
    · have e := ew nw2 (by omega) (by omega)
      have r := q1 nw2 (by omega) (by omega)
      unfold cdW at e
      rw [if_pos (by omega), if_neg (by omega)] at e
      omega
  subst a
  subst b
  refine ⟨rfl, rfl, fun h h0 h1 => ?_, fun w w0 w1 => ?_⟩
  · have e := eh h h0 (by omega)
    have x := r1 h h0 h1
    have y := r2 h h0 h1
    unfold cdB cdT at e
    rw [if_pos h1, if_pos h1, if_pos h1, if_pos h1] at e
    omega
  · have e := ew w w0 (by omega)
    have x := q1 w w0 w1
    have y := q2 w w0 w1
    unfold cdW at e
    rw [if_pos w1, if_pos w1] at e
    omega
set_option maxHeartbeats 400000 in
theorem m_findBest {z : ZI} (hK : K z) : ∃ (y : ZI) (bw : Int), F_X11_findBest z = some ((), y) ∧ FrG z y ∧ K y ∧ isBest (cost z) bw ∧ y 68 48 = cost z bw / 1000 ∧ y 68 49 = cost z bw % 1000 ∧ ∀ b : Int, 0 ≤ b → b ≤ 3 → y 104 b = hrW bw b := by
  have hH := K_H hK
  have hW := K_W hK
  have hG := K_G hK
  have h0 := hH.1
  have h30 := hH.2.1
  have w0 := hW.2.1
  have w6 := hW.2.2.1
  obtain ⟨y1, a1, a2, a3⟩ := m_findNeeds hK
  have ek : ∀ k, k ≠ 99 → k ≠ 100 → k ≠ 101 → k ≠ 102 → k ≠ 103 → k ≠ 105 → k ≠ 106 → y1 k = z k := a2
  have y68 : y1 68 = z 68 := ek 68 (by decide) (by decide) (by decide) (by decide) (by decide) (by decide) (by decide)
  have y107 : y1 107 = z 107 := ek 107 (by decide) (by decide) (by decide) (by decide) (by decide) (by decide) (by decide)
  have dnd : ∀ h : Int, 0 ≤ h → h < ((z 68 12).toNat : Int) → 0 ≤ needF z h ∧ needF z h ≤ 300 := fun h _ _ => needF_b (K_P hK) h
  have dgo : ∀ h : Int, -9 ≤ goesF z h ∧ goesF z h < z 68 47 := fun h => by
    have := goesF_r hW h
    omega
  have dbl : ∀ h : Int, 0 ≤ h → h < ((z 68 12).toNat : Int) → 0 ≤ z 72 h ∧ z 72 h ≤ 3 := fun h q0 q1 => by
    have := hH.2.2.2.1 h q0 (by omega)
    omega
  have dyd : ∀ w : Int, 0 ≤ w → w < ((z 68 47).toNat : Int) → 1 ≤ z 96 w ∧ z 96 w ≤ 99 ∧ 1 ≤ z 97 w ∧ z 97 w ≤ 9999 := fun w q0 q1 => by
    have := hW.2.2.2.1 w q0 (by omega)
    omega
  obtain ⟨F, t, b1, b2, b3, b4, b5⟩ := m_asFound (y := y1) (nh := (z 68 12).toNat) (nw := (z 68 47).toNat) (bl := z 72) (nd := needF z) (go := goesF z) (yi := z 96) (de := z 97) (by omega) (by omega) (by rw [y68]; show z 68 12 = _; omega) (by rw [y68]; show z 68 47 = _; omega) (fun h q0 q1 => ⟨(a3 h q0 (by omega)).1, dnd h q0 q1⟩) (fun h q0 q1 => ⟨(a3 h q0 (by omega)).2, by have := dgo h; omega⟩) (fun h q0 q1 => ⟨by rw [ek 72 (by decide) (by decide) (by decide) (by decide) (by decide) (by decide) (by decide)], dbl h q0 q1⟩) (fun w q0 q1 => by
    have := dyd w q0 q1
    rw [ek 96 (by decide) (by decide) (by decide) (by decide) (by decide) (by decide) (by decide), ek 97 (by decide) (by decide) (by decide) (by decide) (by decide) (by decide) (by decide)]
    exact ⟨rfl, by omega, by omega, rfl, by omega, by omega⟩) (by rw [y68]; exact JG_f hG)
  -- what will be known of the codes
  have mk : ∀ (y : ZI) (bw : Int), y 107 = F → y 68 53 = 1 → isBest (cost z) bw → y 68 48 = cost z bw / 1000 → y 68 49 = cost z bw % 1000 → (∀ b : Int, 0 ≤ b → b ≤ 3 → y 104 b = hrW bw b) → JG y := by
    intro y bw e1 e2 e3 e4 e5 e6
    refine Or.inr ⟨e2, (z 68 12).toNat, (z 68 47).toNat, z 72, needF z, goesF z, z 96, z 97, bw, by omega, by omega, fun h hh => ?_, fun k kk => ?_, fun h hh => ?_, fun k kk => ?_, e3, e6, e4, e5⟩
    · rw [e1]
      have q := b3 h (by omega) (by omega)
      unfold cdB cdT at q
      by_cases c : h < (z 68 12).toNat
      · rw [if_pos (by omega), if_pos (by omega)] at q
        rw [if_pos c, if_pos c]
        exact q
      · rw [if_neg (by omega), if_neg (by omega)] at q
        rw [if_neg c, if_neg c]
        exact q
    · rw [e1]
      have q := b4 k (by omega) (by omega)
      unfold cdW at q
      by_cases c : k < (z 68 47).toNat
      · rw [if_pos (by omega)] at q
        rw [if_pos c]
        exact q
      · rw [if_neg (by omega)] at q
        rw [if_neg c]
        exact q
    · have a := dnd h (by omega) (by omega)
      have b := dgo h
      have c := dbl h (by omega) (by omega)
      exact ⟨a.1, a.2, b.1, by omega, c.1, c.2⟩
    · exact dyd k (by omega) (by omega)
  have frY : FrG z (Zup (Zro y1 107 F) 68 53 1) := ((FrG_V a2).tr (FrG_r (by omega))).tr (FrG_u (by omega))
  by_cases c : t = 0
  · have frF : FrV (Zup (Zro z 107 F) 68 53 1) (Zup (Zro y1 107 F) 68 53 1) := by
      intro k q1 q2 q3 q4 q5 q6 q7
      funext i
      show (if k = 68 ∧ i = 53 then (1 : Int) else if k = 107 then F i else y1 k i) = if k = 68 ∧ i = 53 then (1 : Int) else if k = 107 then F i else z k i
      rw [ek k q1 q2 q3 q4 q5 q6 q7]
    -- the drawers
    have n12 : (Zup (Zro y1 107 F) 68 53 1) 68 12 = ((z 68 12).toNat : Int) := by
      rw [Zup_i (by decide), Zro_k (by decide), y68]
      show z 68 12 = _
      omega
    have n47 : (Zup (Zro y1 107 F) 68 53 1) 68 47 = ((z 68 47).toNat : Int) := by
      rw [Zup_i (by decide), Zro_k (by decide), y68]
      show z 68 47 = _
      omega
    obtain ⟨D, E, d1, d2, d3⟩ := m_drw_L (y := Zup (Zro y1 107 F) 68 53 1) (n := (z 68 12).toNat) (W := (z 68 47).toNat) (go := goesF z) (nd := needF z) (by omega) (by omega) n12 n47 (fun h q0 q1 => by rw [Zup_k (by decide), Zro_k (by decide)]; exact (a3 h q0 (by omega)).1) (fun h q0 q1 => by rw [Zup_k (by decide), Zro_k (by decide)]; exact (a3 h q0 (by omega)).2) (z 68 47).toNat 0 Zfuel ((Zup (Zro y1 107 F) 68 53 1) 105) ((Zup (Zro y1 107 F) 68 53 1) 106) (by omega) (by unfold Zfuel; omega) (fun j hj => absurd hj (by simp [catL])) (fun v hv => by omega)
    have d1 : F_X11_findDrawers (Ztwo (Zup (Zro y1 107 F) 68 53 1) 105 106 ((Zup (Zro y1 107 F) 68 53 1) 105) ((Zup (Zro y1 107 F) 68 53 1) 106)) = some ((), Ztwo (Zup (Zro y1 107 F) 68 53 1) 105 106 D E) := d1
    rw [Ztwo_z] at d1
    generalize hYd : Zup (Zup (Ztwo (Zup (Zro y1 107 F) 68 53 1) 105 106 D E) 68 48 31) 68 49 0 = Y at *
    have r48 : Y 68 48 = 31 := by rw [← hYd, Zup_i (by decide), Zup_s]
    have r49 : Y 68 49 = 0 := by rw [← hYd, Zup_s]
    have r53 : Y 68 53 = 1 := by rw [← hYd, Zup_i (by decide), Zup_i (by decide), Ztwo_k (by decide) (by decide), Zup_s]
    have r12 : Y 68 12 = ((z 68 12).toNat : Int) := by rw [← hYd, Zup_i (by decide), Zup_i (by decide), Ztwo_k (by decide) (by decide)]; exact n12
    have r47 : Y 68 47 = ((z 68 47).toNat : Int) := by rw [← hYd, Zup_i (by decide), Zup_i (by decide), Ztwo_k (by decide) (by decide)]; exact n47
    have rk : ∀ k, k ≠ 68 → k ≠ 107 → k ≠ 105 → k ≠ 106 → Y k = y1 k := fun k q1 q2 q3 q4 => by
      rw [← hYd, Zup_k q1, Zup_k q1, Ztwo_k q3 q4, Zup_k q1, Zro_k q2]
    have r107 : Y 107 = F := by rw [← hYd, Zup_k (by decide), Zup_k (by decide), Ztwo_k (by decide) (by decide), Zup_k (by decide), Zro_s]
    have r105 : Y 105 = D := by rw [← hYd, Zup_k (by decide), Zup_k (by decide), Ztwo_a]
    have r106 : Y 106 = E := by rw [← hYd, Zup_k (by decide), Zup_k (by decide), Ztwo_b (by decide)]
    have dr : DRn Y (z 68 12).toNat (z 68 47).toNat (z 72) (needF z) (goesF z) (z 96) (z 97) := by
      refine ⟨by omega, by omega, r12, r47, fun h q0 q1 => ?_, needF_b (K_P hK), fun w q0 q1 => ?_, fun j hj => by rw [r105]; exact d2 j hj, fun v hv => by rw [r106]; exact d3 v hv⟩
      · rw [rk 99 (by decide) (by decide) (by decide) (by decide), rk 72 (by decide) (by decide) (by decide) (by decide), ek 72 (by decide) (by decide) (by decide) (by decide) (by decide) (by decide) (by decide)]
        have := dbl h q0 q1
        exact ⟨(a3 h q0 (by omega)).1, rfl, this.1, this.2⟩
      · rw [rk 96 (by decide) (by decide) (by decide) (by decide), rk 97 (by decide) (by decide) (by decide) (by decide), ek 96 (by decide) (by decide) (by decide) (by decide) (by decide) (by decide) (by decide), ek 97 (by decide) (by decide) (by decide) (by decide) (by decide) (by decide) (by decide)]
        have := dyd w q0 q1
        exact ⟨rfl, by omega, by omega, rfl, by omega, by omega⟩
    obtain ⟨g2, g1, g3, g4⟩ := m_still_L (y := Y) (nh := (z 68 12).toNat) (bl := z 72) (by omega) r12 (fun h q0 q1 => by rw [rk 72 (by decide) (by decide) (by decide) (by decide), ek 72 (by decide) (by decide) (by decide) (by decide) (by decide) (by decide) (by decide)]) 4 0 Zfuel 0 (by decide) (by unfold Zfuel; omega) (by decide) (fun b q0 q1 => by
      have e : ¬ hasB 0 b := by
        unfold hasB
        rw [Nat.zero_div]
        decide
      exact ⟨fun w => absurd w e, fun w => by omega⟩)
    have g3 : X11_findBest_L31 Zfuel Y 0 0 = X11_findBest_b66 Y (mkM g2 : Int) := g3
    obtain ⟨y2, e1, e2, e3⟩ := m_ways_L (g := g2) g1 g4 (fun h q0 q1 => by have := dgo h; omega) dr 4096 0 Zfuel Y (by decide) (by unfold Zfuel; omega) (FrE.rf Y) (Or.inl ⟨rfl, r48, r49⟩)
    have e1 : X11_findBest_b66 Y (mkM g2 : Int) = some ((), y2) := e1
    rcases e3 with ⟨q, -⟩ | ⟨bw, q1, q2, q3, q4⟩
    · omega
    · have frA : FrG z Y := by
        rw [← hYd]
        exact ((frY.tr (FrG_V (FrV_2 (by decide) (by decide)))).tr (FrG_u (by omega))).tr (FrG_u (by omega))
      have frB2 := frA.tr (FrG_E e2)
      have hb : isBest (cost z) bw := q1
      have j : JG y2 := mk y2 bw (by rw [e2.k (k := 107) (by decide) (by omega)]; exact r107) (by rw [e2.l (i := 53) (by decide) (by decide)]; exact r53) hb q2 q3 q4
      refine ⟨y2, bw, ?_, frB2, FrG_K frB2 j hK, hb, q2, q3, q4⟩
      unfold F_X11_findBest
      rw [a1, Yb_some, b1, Yb_some, if_pos c, d1, Yb_some, Zl_eq, Zl_eq, hYd, g3, e1]
  · have t1 : t = 1 := b2.resolve_left c
    obtain ⟨f1, f2, f3⟩ := b5 t1
    rw [y107] at f2 f3
    have hf1 : z 68 53 = 1 := by rw [y68] at f1; exact f1
    rcases hG with q | ⟨-, nh2, nw2, bl2, nd2, go2, yi2, de2, w2, n1, n2, n3, n4, n5, n6, n7, n8, n9, n10⟩
    · omega
    · have ce := codes_eq (nh := nh2) (nh2 := (z 68 12).toNat) (nw := nw2) (nw2 := (z 68 47).toNat) (bl := bl2) (bl2 := z 72) (nd := nd2) (nd2 := needF z) (go := go2) (go2 := goesF z) (yi := yi2) (yi2 := z 96) (de := de2) (de2 := z 97) n1 (by omega) n2 (by omega) (fun h q0 q1 => by
        have := n5 h.toNat (by omega)
        rw [show ((h.toNat : Nat) : Int) = h by omega] at this
        omega) (fun h q0 q1 => by
        have a := dnd h q0 q1
        have b := dbl h q0 q1
        omega) (fun w q0 q1 => by
        have := n6 w.toNat (by omega)
        rw [show ((w.toNat : Nat) : Int) = w by omega] at this
        omega) (fun w q0 q1 => by
        have := dyd w q0 q1
        omega) (fun h q0 q1 => by
        have a := f2 h q0 q1
        have b := n3 h.toNat (by omega)
        rw [show ((h.toNat : Nat) : Int) = h by omega] at b
        rw [← a.1, ← a.2, b.1, b.2]
        unfold cdB cdT
        by_cases w : h < nh2
        · rw [if_pos w, if_pos w, if_pos (by omega), if_pos (by omega)]
          exact ⟨rfl, rfl⟩
        · rw [if_neg w, if_neg w, if_neg (by omega), if_neg (by omega)]
          exact ⟨rfl, rfl⟩) (fun w q0 q1 => by
        have a := f3 w q0 q1
        have b := n4 w.toNat (by omega)
        rw [show ((w.toNat : Nat) : Int) = w by omega] at b
        rw [← a, b]
        unfold cdW
        by_cases u : w < nw2
        · rw [if_pos u, if_pos (by omega)]
        · rw [if_neg u, if_neg (by omega)])
      obtain ⟨c1, c2, c3, c4⟩ := ce
      have ecost : costW bl2 nd2 go2 yi2 de2 nh2 = cost z := by
        funext v
        have := costW_cg (bl := bl2) (bl2 := z 72) (nd := nd2) (nd2 := needF z) (go := go2) (go2 := goesF z) (yi := yi2) (yi2 := z 96) (de := de2) (de2 := z 97) (nh := nh2) (nw := nw2) (fun h q0 q1 => by
          have a := c3 h q0 q1
          have b := n5 h.toNat (by omega)
          rw [show ((h.toNat : Nat) : Int) = h by omega] at b
          exact ⟨a.1, a.2.1, a.2.2, b.2.2.2.1⟩) c4 v
        rw [this, c1]
        rfl
      rw [ecost] at n7 n9 n10
      have e48 : ∀ i : Int, i ≠ 53 → (Zup (Zro y1 107 F) 68 53 1) 68 i = z 68 i := fun i hi => by rw [Zup_i hi, Zro_k (by decide), y68]
      have e104 : (Zup (Zro y1 107 F) 68 53 1) 104 = z 104 := by
        rw [Zup_k (by decide), Zro_k (by decide)]
        exact ek 104 (by decide) (by decide) (by decide) (by decide) (by decide) (by decide) (by decide)
      have p1 : (Zup (Zro y1 107 F) 68 53 1) 68 48 = cost z w2 / 1000 := (e48 _ (by decide)).trans n9
      have p2 : (Zup (Zro y1 107 F) 68 53 1) 68 49 = cost z w2 % 1000 := (e48 _ (by decide)).trans n10
      have p3 : ∀ b : Int, 0 ≤ b → b ≤ 3 → (Zup (Zro y1 107 F) 68 53 1) 104 b = hrW w2 b := fun b q0 q1 => by
        rw [e104]
        exact n8 b q0 q1
      have j := mk (Zup (Zro y1 107 F) 68 53 1) w2 (by rw [Zup_k (by decide), Zro_s]) Zup_s n7 p1 p2 p3
      refine ⟨_, w2, ?_, frY, FrG_K frY j hK, n7, p1, p2, p3⟩
      unfold F_X11_findBest
      rw [a1, Yb_some, b1, Yb_some, if_neg c]
