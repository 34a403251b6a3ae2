/-! wells: the class adds lines -/
theorem x_beginIn {z : ZI} {w b : Int} (hw : 0 ≤ w ∧ w < 4096) (hb : 0 ≤ b ∧ b ≤ 3) : F_X9_beginIn z w b = some (hrW w b, z) := by
  have e := hrW_b hw hb
  have r := hrW_r hw.1 b
  unfold F_X9_beginIn F_X9_shiftOf
  rw [Zgd_t (by omega), Zgd_t (by omega), Yb_some, show 3 * (3 - b) = 9 - 3 * b by omega, e, Zgd_t (by omega)]
section
variable {y : ZI} {l : List Int} {bl nd : Int → Int}
theorem x_lc0_L {w way : Int} (hw : 0 ≤ way ∧ way < 4096) : ∀ (n k fu : Nat) (T : Int → Int), k + n = 4 → n < fu → (∀ b : Int, 0 ≤ b → b < k → T b = hrW way b) → ∃ T2, X9_lineCost_L2 fu (Zro y 51 T) w way k = X9_lineCost_b24 (Zro y 51 T2) w ∧ ∀ b : Int, 0 ≤ b → b ≤ 3 → T2 b = hrW way b := by
  intro n
  induction n with
  | zero =>
    intro k fu T hk hf h
    obtain ⟨fu, rfl⟩ : ∃ g, fu = g + 1 := ⟨fu - 1, by omega⟩
    obtain rfl : k = 4 := by omega
    refine ⟨T, ?_, fun b b0 b1 => h b b0 (by omega)⟩
    show X9_lineCost_L2b (X9_lineCost_L2 fu) _ _ _ _ = _
    unfold X9_lineCost_L2b
    rw [if_pos (by decide)]
  | succ n ih =>
    intro k fu T hk hf h
    obtain ⟨fu, rfl⟩ : ∃ g, fu = g + 1 := ⟨fu - 1, by omega⟩
    have e0 : X9_lineCost_L2 (fu + 1) (Zro y 51 T) w way k = X9_lineCost_L2b (X9_lineCost_L2 fu) (Zro y 51 T) w way k := rfl
    rw [e0]
    unfold X9_lineCost_L2b
    rw [if_neg (by omega), x_beginIn hw (by omega), Yb_some, Zgd_t (by omega), Zl_eq, Zro_u, Zgd_t (by omega), show (k : Int) + 1 = ((k + 1 : Nat) : Int) by omega]
    refine ih (k + 1) fu _ (by omega) (by omega) (fun b b0 b1 => ?_)
    unfold fupd
    by_cases e : b = k
    · rw [if_pos e, e]
    · rw [if_neg e]; exact h b b0 (by omega)
theorem x_lc1_L {sv : Int → Int} (hl : LCn y l bl nd) (hb : LAn (y 50) l sv) (hv : ∀ h, sv h = -9 ∨ (0 ≤ sv h ∧ sv h ≤ 23)) : ∀ (s p : List Int) (fu : Nat), l = p ++ s → s.length < fu → X9_lineCost_L38 fu y (lsm (fun h => if sv h = -9 then 1000 else sv h) p) (p.length : Nat) = some (lsm (fun h => if sv h = -9 then 1000 else sv h) l, y)
  | [], p, fu, e, hf => by
    obtain ⟨fu, rfl⟩ : ∃ g, fu = g + 1 := ⟨fu - 1, by omega⟩
    rw [List.append_nil] at e
    show X9_lineCost_L38b (X9_lineCost_L38 fu) _ _ _ = _
    unfold X9_lineCost_L38b
    rw [hl.1, if_pos (by rw [e]; omega), e]
  | x :: t, p, fu, e, hf => by
    obtain ⟨fu, rfl⟩ : ∃ g, fu = g + 1 := ⟨fu - 1, by omega⟩
    have ee : l = (p ++ [x]) ++ t := by rw [e, List.append_assoc]; rfl
    have nj : nth l p.length = x := by rw [e]; exact nth_app p x t
    have len : l.length = p.length + (t.length + 1) := by rw [e, List.length_append, List.length_cons]
    have l30 := hl.2.1
    have jl : p.length < l.length := by omega
    have pl : (p ++ [x]).length = p.length + 1 := by rw [List.length_append, List.length_singleton]
    rw [List.length_cons] at hf
    have bj := hb p.length jl
    rw [nj] at bj
    have v := hv x
    have cb : ∀ h, (0 : Int) ≤ (if sv h = -9 then 1000 else sv h) ∧ (if sv h = -9 then 1000 else sv h) ≤ 1000 := fun h => by
      have := hv h
      split <;> omega
    have lb := lsm_nn (fun h => (cb h).1) p
    have ub := lsm_le (fun h => (cb h).2) p
    have i := x_lc1_L hl hb hv t (p ++ [x]) fu ee (by omega)
    rw [lsm_snoc, pl] at i
    show X9_lineCost_L38b (X9_lineCost_L38 fu) _ _ _ = _
    unfold X9_lineCost_L38b X9_lineCost_b73
    rw [hl.1, if_neg (by omega), Zgd_t (by omega), bj]
    by_cases c : sv x = -9
    · rw [if_pos c] at i
      rw [if_pos c, Zgd_t (by omega), Zgd_t (by omega), show (p.length : Int) + 1 = ((p.length + 1 : Nat) : Int) by omega]
      exact i
    · rw [if_neg c] at i
      rw [if_neg c, Zgd_t (by omega), Zgd_t (by omega), Zgd_t (by omega), show (p.length : Int) + 1 = ((p.length + 1 : Nat) : Int) by omega]
      exact i
theorem x_lineCost (hl : LCn y l bl nd) (hd : distL l) (hbl : ∀ h ∈ l, 0 ≤ bl h ∧ bl h ≤ 3) (hn : ∀ h, 0 ≤ nd h ∧ nd h ≤ 300) {w way yi de : Int} (hw : 0 ≤ w ∧ w < 6) (hway : 0 ≤ way ∧ way < 4096) (hy : y 43 w = yi) (hy1 : 1 ≤ yi ∧ yi ≤ 99) (hde : y 44 w = de) (hd1 : 0 ≤ de ∧ de ≤ 9999) : ∃ y2, F_X9_lineCost y w way = some (lsm (fun h => if dayR bl (hrW way) yi l 20 de nd (fun _ => -9) h = -9 then 1000 else dayR bl (hrW way) yi l 20 de nd (fun _ => -9) h) l, y2) ∧ ∀ k, k ≠ 49 → k ≠ 50 → k ≠ 51 → y2 k = y k := by
  have l30 := hl.2.1
  obtain ⟨T, a1, a2⟩ := x_lc0_L (y := y) (w := w) hway 4 0 Zfuel (y 51) (by decide) (by unfold Zfuel; omega) (fun b b0 b1 => by omega)
  have a1 : X9_lineCost_L2 Zfuel (Zro y 51 (y 51)) w way 0 = X9_lineCost_b24 (Zro y 51 T) w := a1
  rw [Zro_z] at a1
  obtain ⟨A, B, b1, b2⟩ := x_spendDay (z := Zro y 51 T) (a3 := 51) (bg := hrW way) (by decide) (by decide) (fun b q0 q1 => by
    rw [Zro_s, a2 b q0 q1]
    have := hrW_r hway.1 b
    exact ⟨rfl, by omega⟩) (show LCn (Zro y 51 T) l bl nd from hl) hd hbl hn hw hy hy1 hde hd1
  have c1 := x_lc1_L (y := Ztwo (Zro y 51 T) 49 50 A B) (show LCn (Ztwo (Zro y 51 T) 49 50 A B) l bl nd from hl) (show LAn ((Ztwo (Zro y 51 T) 49 50 A B) 50) l _ from b2) (dayR_v 20 de nd (fun _ => -9) (by decide) (fun _ => Or.inl rfl)) l [] Zfuel rfl (by unfold Zfuel; omega)
  have c1 : X9_lineCost_L38 Zfuel (Ztwo (Zro y 51 T) 49 50 A B) 0 0 = _ := c1
  refine ⟨Ztwo (Zro y 51 T) 49 50 A B, ?_, fun k k1 k2 k3 => by rw [Ztwo_k k1 k2, Zro_k k3]⟩
  unfold F_X9_lineCost
  rw [a1]
  unfold X9_lineCost_b24
  rw [b1, Yb_some, c1]
theorem x_mine_L (hl : LCn y l bl nd) (hbl : ∀ h ∈ l, 0 ≤ bl h ∧ bl h ≤ 3) {w : Int} : ∀ (s p : List Int) (f fu : Nat), l = p ++ s → s.length < fu → f < 16 → (∀ b : Int, 0 ≤ b → b ≤ 3 → (hasB f b ↔ ∃ h ∈ p, bl h = b)) → ∃ g : Nat, g < 16 ∧ X9_addLine_L4 fu y w (mkM f : Int) (p.length : Nat) = X9_addLine_b33 y w (mkM g : Int) ∧ (∀ b : Int, 0 ≤ b → b ≤ 3 → (hasB g b ↔ ∃ h ∈ l, bl h = b))
  | [], p, f, fu, e, hf, f16, h => by
    obtain ⟨fu, rfl⟩ : ∃ g, fu = g + 1 := ⟨fu - 1, by omega⟩
    rw [List.append_nil] at e
    refine ⟨f, f16, ?_, by rw [e]; exact h⟩
    show X9_addLine_L4b (X9_addLine_L4 fu) _ _ _ _ = _
    unfold X9_addLine_L4b
    rw [hl.1, if_pos (by rw [e]; omega)]
  | x :: t, p, f, fu, e, hf, f16, h => by
    obtain ⟨fu, rfl⟩ : ∃ g, fu = g + 1 := ⟨fu - 1, by omega⟩
    have ee : l = (p ++ [x]) ++ t := by rw [e, List.append_assoc]; rfl
    have nj : nth l p.length = x := by rw [e]; exact nth_app p x t
    have len : l.length = p.length + (t.length + 1) := by rw [e, List.length_append, List.length_cons]
    have l30 := hl.2.1
    have jl : p.length < l.length := by omega
    have pl : (p ++ [x]).length = p.length + 1 := by rw [List.length_append, List.length_singleton]
    rw [List.length_cons] at hf
    have lj := (hl.2.2 p.length jl).2.1
    rw [nj] at lj
    have bx := hbl x (nth_mem.mpr ⟨p.length, jl, nj⟩)
    obtain ⟨k1, k2, k3⟩ := mkM_add f16 bx
    obtain ⟨g, g1, g2, g3⟩ := x_mine_L hl hbl (w := w) t (p ++ [x]) (addB f (bl x)) fu ee (by omega) k2 (fun b b0 b1 => by
      rw [k3 b b0 b1, h b b0 b1]
      constructor
      · rintro (⟨u, u1, u2⟩ | u)
        · exact ⟨u, List.mem_append.mpr (Or.inl u1), u2⟩
        · exact ⟨x, List.mem_append.mpr (Or.inr (List.mem_singleton.mpr rfl)), u.symm⟩
      · rintro ⟨u, u1, u2⟩
        rcases List.mem_append.mp u1 with q | q
        · exact Or.inl ⟨u, q, u2⟩
        · rw [List.mem_singleton.mp q] at u2
          exact Or.inr u2.symm)
    refine ⟨g, g1, ?_, g3⟩
    rw [pl] at g2
    show X9_addLine_L4b (X9_addLine_L4 fu) _ _ _ _ = _
    unfold X9_addLine_L4b F_X9_shiftOf
    rw [hl.1, if_neg (by omega), Zgd_t (by omega), lj, Zgd_t (by omega), Zgd_t (by omega), Yb_some, Zgd_t (by omega), k1, show (p.length : Int) + 1 = ((p.length + 1 : Nat) : Int) by omega]
    exact g2
end
/-- frame: what findBest may change before it knows -/
def Zfb (z : ZI) (n m : Int) (A : ZI) : ZI := fun k i => if k = 41 ∧ i = 5 then n else if k = 41 ∧ i = 15 then m else if 46 ≤ k ∧ k ≤ 53 then A k i else z k i
def FrB (z z2 : ZI) : Prop := ∀ k i, (z2 k i = z k i) ∨ (k = 41 ∧ (i = 5 ∨ i = 15)) ∨ (46 ≤ k ∧ k ≤ 53)
theorem FrB.eq {z z2 : ZI} (h : FrB z z2) : z2 = Zfb z (z2 41 5) (z2 41 15) z2 := by
  funext k i
  unfold Zfb
  by_cases h1 : k = 41 ∧ i = 5
  · rw [if_pos h1, h1.1, h1.2]
  · rw [if_neg h1]
    by_cases h2 : k = 41 ∧ i = 15
    · rw [if_pos h2, h2.1, h2.2]
    · rw [if_neg h2]
      by_cases h3 : 46 ≤ k ∧ k ≤ 53
      · rw [if_pos h3]
      · rw [if_neg h3]
        rcases h k i with q | q | q
        · exact q
        · omega
        · exact absurd q h3
theorem FrB.rf (z : ZI) : FrB z z := fun _ _ => Or.inl rfl
theorem FrB.tr {z z2 z3 : ZI} (h : FrB z z2) (g : FrB z2 z3) : FrB z z3 := by
  intro k i
  rcases h k i with q | q
  · rcases g k i with r | r
    · exact Or.inl (r.trans q)
    · exact Or.inr r
  · exact Or.inr q
theorem FrB.k {z z2 : ZI} (h : FrB z z2) {k : Nat} (h1 : k ≠ 41) (h2 : ¬ (46 ≤ k ∧ k ≤ 53)) : z2 k = z k := by
  funext i
  rcases h k i with q | q | q
  · exact q
  · omega
  · exact absurd q h2
theorem FrB.q {z z2 : ZI} (h : FrB z z2) {i : Int} (h1 : i ≠ 5) (h2 : i ≠ 15) : z2 41 i = z 41 i := by
  rcases h 41 i with q | q | q
  · exact q
  · omega
  · omega
theorem FrB_Z {z z2 : ZI} (h : FrZ z z2) : FrB z z2 := by
  intro k i
  rcases h k i with q | q | q | q | q | q | q
  · exact Or.inl q
  · exact Or.inr (Or.inl ⟨q.1, Or.inl q.2⟩)
  all_goals exact Or.inr (Or.inr (by omega))
theorem FrB_r {z : ZI} {k : Nat} {f : Int → Int} (hk : 46 ≤ k ∧ k ≤ 53) : FrB z (Zro z k f) := by
  intro k' i
  by_cases h : k' = k
  · rw [h]; exact Or.inr (Or.inr hk)
  · exact Or.inl (if_neg h)
theorem FrB_rows {z z2 : ZI} (h : ∀ k, ¬ (46 ≤ k ∧ k ≤ 53) → z2 k = z k) : FrB z z2 := by
  intro k i
  by_cases c : 46 ≤ k ∧ k ≤ 53
  · exact Or.inr (Or.inr c)
  · exact Or.inl (by rw [h k c])
theorem K_fb {z : ZI} {n m : Int} {A : ZI} (h0 : z 41 14 = 0) (h : K z) : K (Zfb z n m A) := by
  obtain ⟨hD, hH, hP, hS, hL, hT, hE, hV, hA, hU, hC, hK, hW, hB, hG, hX, hQ, hO⟩ := h
  exact ⟨(JD_c rfl rfl hD), (JH_c rfl rfl rfl rfl rfl rfl rfl hH), (JP_c rfl rfl rfl rfl rfl rfl rfl rfl rfl rfl rfl rfl hP), (JS_c rfl rfl rfl rfl rfl rfl rfl rfl rfl rfl rfl hS), (JL_c rfl rfl hL), (JT_c rfl rfl rfl rfl rfl hT), (JE_c rfl rfl rfl rfl hE), (JV_c rfl rfl rfl rfl hV), (JA_c rfl rfl rfl rfl hA), (JU_c rfl rfl rfl rfl rfl rfl rfl rfl rfl rfl hU), (JC_c rfl rfl rfl rfl rfl rfl rfl rfl rfl rfl hC), (JK_c rfl rfl rfl rfl rfl rfl rfl rfl rfl hK), (JW_c rfl rfl rfl rfl rfl rfl rfl rfl rfl rfl hW), ⟨hB.1, Or.inl h0⟩, (JG_c rfl rfl rfl rfl rfl hG), (JX_c rfl rfl rfl rfl rfl hX), (JQ_c rfl rfl rfl rfl rfl hQ), (JO_c rfl rfl rfl rfl rfl rfl rfl rfl rfl rfl rfl hO)⟩
theorem FrB_K {z z2 : ZI} (h : FrB z z2) (h0 : z 41 14 = 0) (hK : K z) : K z2 := by
  rw [h.eq]
  exact K_fb h0 hK
theorem JN_fb {n : Int} {z z2 : ZI} (h : JN n z) (f : FrB z z2) : JN n z2 := by
  intro i a b
  rw [f.k (k := 1) (by decide) (by omega), f.k (k := 69) (by decide) (by omega)]
  exact h i a b
/-- the class adds one well's line -/
theorem x_al_L {z : ZI} (hK : K z) (h0 : z 41 14 = 0) (hz : z 200 52 = 4096 ∧ z 200 53 = 4096) {w : Nat} (hw : (w : Int) < z 68 47) {g : Nat} (hg : g < 16) (hgb : ∀ b : Int, 0 ≤ b → b ≤ 3 → (hasB g b ↔ ∃ h ∈ lnS z w (z 68 12).toNat, z 72 h = b)) : ∀ (n k fu : Nat) (y : ZI), k + n = 4096 → n < fu → FrB z y → LCn y (lnS z w (z 68 12).toNat) (z 72) (needF z) → (∀ v : Int, 0 ≤ v → v < k → y 53 v = lsm (cH z v) (lnS z w (z 68 12).toNat)) → (∀ v : Int, 0 ≤ v → v < 4096 → y 52 v = if v < k then pcS z ((w + 1 : Nat) : Int) v else pcS z w v) → ∃ y2, X9_addLine_L35 fu y w (mkM g : Int) k = some ((), y2) ∧ FrB z y2 ∧ (∀ v : Int, 0 ≤ v → v < 4096 → y2 52 v = pcS z ((w + 1 : Nat) : Int) v) := by
  have hH := K_H hK
  have hW := K_W hK
  have h30 := hH.2.1
  have w6 := hW.2.2.1
  have wq := hW.2.2.2.1 w (by omega) hw
  have mem := lineR_mem (goesF z) (needF z) w (z 68 12).toNat
  have hbl : ∀ h ∈ lnS z w (z 68 12).toNat, 0 ≤ z 72 h ∧ z 72 h ≤ 3 := fun h hh => by
    have m := (mem h).mp hh
    have := hH.2.2.2.1 h m.1 (by omega)
    omega
  intro n
  induction n with
  | zero =>
    intro k fu y hk hf fr hl hV hC
    obtain ⟨fu, rfl⟩ : ∃ g, fu = g + 1 := ⟨fu - 1, by omega⟩
    obtain rfl : k = 4096 := by omega
    refine ⟨y, ?_, fr, fun v v0 v1 => by rw [hC v v0 v1, if_pos (by omega)]⟩
    show X9_addLine_L35b (X9_addLine_L35 fu) _ _ _ _ = _
    unfold X9_addLine_L35b
    rw [if_pos (by decide)]
  | succ n ih =>
    intro k fu y hk hf fr hl hV hC
    obtain ⟨fu, rfl⟩ : ∃ g, fu = g + 1 := ⟨fu - 1, by omega⟩
    have hk2 : 0 ≤ (k : Int) ∧ (k : Int) < 4096 := by omega
    obtain ⟨c1, c2, c3, c4⟩ := cutW hk2 hg
    have l30 := hl.2.1
    have lb := lsm_cH (z := z) hk2.1 (lnS z w (z 68 12).toNat)
    have pb := pcS_b hH (w : Int) hk2.1
    have ps := pcS_s z w k
    have e0 : X9_addLine_L35 (fu + 1) y w (mkM g : Int) k = X9_addLine_L35b (X9_addLine_L35 fu) y w (mkM g : Int) k := rfl
    have fin : ∀ y1 : ZI, FrB z y1 → LCn y1 (lnS z w (z 68 12).toNat) (z 72) (needF z) → y1 53 = y 53 → y1 52 = y 52 → ∃ y2, X9_addLine_b71 (X9_addLine_L35 fu) y1 w (mkM g : Int) k k (lsm (cH z k) (lnS z w (z 68 12).toNat)) = some ((), y2) ∧ FrB z y2 ∧ (∀ v : Int, 0 ≤ v → v < 4096 → y2 52 v = pcS z ((w + 1 : Nat) : Int) v) := by
      intro y1 f1 l1 v53 v52
      have e200 : ∀ i, y1 200 i = z 200 i := fun i => by rw [f1.k (k := 200) (by decide) (by omega)]
      have ck := hC k hk2.1 hk2.2
      rw [if_neg (by omega)] at ck
      have z1 : ∀ u : Int, (Zup y1 53 k u) 200 52 = 4096 := fun u => by rw [Zup_k (by decide), e200]; exact hz.1
      have z2 : ∀ u : Int, (Zup y1 53 k u) 200 53 = 4096 := fun u => by rw [Zup_k (by decide), e200]; exact hz.2
      have z3 : ∀ u : Int, (Zup y1 53 k u) 52 k = pcS z w k := fun u => by rw [Zup_k (by decide), v52]; exact ck
      have z4 : ∀ u : Int, (Zup y1 53 k u) 53 k = u := fun u => Zup_s
      unfold X9_addLine_b71
      rw [e200, hz.2, Zgd_t (by omega), Zl_eq, z1, Zgd_t (by omega), z2, Zgd_t (by omega), z3, z4, Zgd_t (by omega), Zgd_t (by omega), Zl_eq, Zgd_t (by omega), show (k : Int) + 1 = ((k + 1 : Nat) : Int) by omega]
      refine ih (k + 1) fu _ (by omega) (by omega) (f1.tr (FrB_rows (fun q hq => by rw [Zup_k (by omega), Zup_k (by omega)]))) l1 (fun v v0 v1 => ?_) (fun v v0 v1 => ?_)
      · rw [Zup_k (by decide), Zup_ki]
        by_cases e : v = k
        · rw [if_pos e, e]
        · rw [if_neg e, v53]
          exact hV v v0 (by omega)
      · rw [Zup_ki]
        by_cases e : v = k
        · rw [if_pos e, if_pos (by omega), e, ps]
        · rw [if_neg e, Zup_k (by decide), v52, hC v v0 v1]
          by_cases e2 : v < k
          · rw [if_pos e2, if_pos (by omega)]
          · rw [if_neg e2, if_neg (by omega)]
    rw [e0]
    unfold X9_addLine_L35b
    rw [if_neg (by omega)]
    by_cases q : jand k (mkM g : Int) = k
    · have ek : ∀ j, j ≠ 41 → ¬ (46 ≤ j ∧ j ≤ 53) → y j = z j := fun j a b => fr.k a b
      obtain ⟨y1, a1, a2⟩ := x_lineCost (y := y) (w := (w : Int)) (way := (k : Int)) (yi := z 96 w) (de := z 97 w) hl (lineR_d _ _ _ _) hbl (needF_b (K_P hK)) (by omega) hk2 (by rw [ek 43 (by decide) (by omega)]; exact wq.2.2.2.1) (by omega) (by rw [ek 44 (by decide) (by omega)]; exact wq.2.2.2.2.2.2.1) (by omega)
      have ec : lsm (fun h => if dayR (z 72) (hrW k) (z 96 w) (lnS z w (z 68 12).toNat) 20 (z 97 w) (needF z) (fun _ => -9) h = -9 then 1000 else dayR (z 72) (hrW k) (z 96 w) (lnS z w (z 68 12).toNat) 20 (z 97 w) (needF z) (fun _ => -9) h) (lnS z w (z 68 12).toNat) = lsm (cH z k) (lnS z w (z 68 12).toNat) := lsm_cg (fun h hh => (cH_mem (by omega) hh).symm)
      rw [ec] at a1
      rw [if_pos q, a1, Yb_some]
      refine fin y1 (fr.tr (FrB_rows (fun j hj => a2 j (by omega) (by omega) (by omega)))) ?_ (a2 53 (by decide) (by decide) (by decide)) (a2 52 (by decide) (by decide) (by decide))
      unfold LCn
      rw [a2 41 (by decide) (by decide) (by decide), a2 46 (by decide) (by decide) (by decide), a2 47 (by decide) (by decide) (by decide), a2 48 (by decide) (by decide) (by decide)]
      exact hl
    · have e200 : y 200 53 = 4096 := by rw [fr.k (k := 200) (by decide) (by omega)]; exact hz.2
      have hv := hV (jand k (mkM g : Int)) c1 (by omega)
      have same : lsm (cH z (jand k (mkM g : Int))) (lnS z w (z 68 12).toNat) = lsm (cH z k) (lnS z w (z 68 12).toNat) := lsm_same (fun h hh => c4 _ (hbl h hh).1 (hbl h hh).2 ((hgb _ (hbl h hh).1 (hbl h hh).2).mpr ⟨h, hh, rfl⟩)) rfl (by omega)
      rw [if_neg q, e200, Zgd_t (by omega), hv, same]
      exact fin y fr hl rfl rfl
