/-! wells: the class finds the best way (its rows are made) -/
theorem x_at1_L {y : ZI} {day h nd blk : Int} {k2 : ZI → Int → Int → Option (Unit × ZI)} (e200 : y 200 52 = 4096) (hb : 0 ≤ blk ∧ blk ≤ 3) : ∀ (n k fu : Nat) (C : Int → Int), k + n = 4096 → n < fu → (∀ v : Int, k ≤ v → v < 4096 → 0 ≤ C v ∧ C v ≤ 40000) → ∃ C2, X9_addThoseWithoutLine_L51 k2 fu (Zro y 52 C) day h nd blk k = X9_addThoseWithoutLine_b93 k2 (Zro y 52 C2) day h ∧ ∀ v : Int, 0 ≤ v → v < 4096 → C2 v = if k ≤ v then C v + (if nd = 0 then hrW v blk else 1000) else C v := by
  intro n
  induction n with
  | zero =>
    intro k fu C hk hf h
    obtain ⟨fu, rfl⟩ : ∃ g, fu = g + 1 := ⟨fu - 1, by omega⟩
    obtain rfl : k = 4096 := by omega
    refine ⟨C, ?_, fun v v0 v1 => by rw [if_neg (by omega)]⟩
    show X9_addThoseWithoutLine_L51b k2 (X9_addThoseWithoutLine_L51 k2 fu) _ _ _ _ _ _ = _
    unfold X9_addThoseWithoutLine_L51b
    rw [if_pos (by decide)]
  | succ n ih =>
    intro k fu C hk hf hC
    obtain ⟨fu, rfl⟩ : ∃ g, fu = g + 1 := ⟨fu - 1, by omega⟩
    have hk2 : 0 ≤ (k : Int) ∧ (k : Int) < 4096 := by omega
    have e0 : X9_addThoseWithoutLine_L51 k2 (fu + 1) (Zro y 52 C) day h nd blk k = X9_addThoseWithoutLine_L51b k2 (X9_addThoseWithoutLine_L51 k2 fu) (Zro y 52 C) day h nd blk k := rfl
    have ez : ∀ C', (Zro y 52 C') 200 52 = 4096 := fun _ => e200
    have ck := hC k (Int.le_refl _) hk2.2
    have hr := hrW_r hk2.1 blk
    have st : ∀ a : Int, 0 ≤ a → a ≤ 1000 → (a = if nd = 0 then hrW k blk else 1000) → ∃ C2, X9_addThoseWithoutLine_b85 k2 (X9_addThoseWithoutLine_L51 k2 fu) (Zro y 52 C) day h nd blk k k (C k) a = X9_addThoseWithoutLine_b93 k2 (Zro y 52 C2) day h ∧ ∀ v : Int, 0 ≤ v → v < 4096 → C2 v = if k ≤ v then C v + (if nd = 0 then hrW v blk else 1000) else C v := by
      intro a a0 a1 ea
      unfold X9_addThoseWithoutLine_b85
      rw [Zgd_t (by omega), ez, Zgd_t (by omega), Zl_eq, Zro_u, Zgd_t (by omega), show (k : Int) + 1 = ((k + 1 : Nat) : Int) by omega]
      have f1 : ∀ v : Int, v ≠ k → fupd C k (C k + a) v = C v := fun v hv => if_neg hv
      have f2 : fupd C k (C k + a) k = C k + a := if_pos rfl
      obtain ⟨C2, i1, i2⟩ := ih (k + 1) fu (fupd C k (C k + a)) (by omega) (by omega) (fun v v0 v1 => by
        rw [f1 v (by omega)]
        exact hC v (by omega) v1)
      refine ⟨C2, i1, fun v v0 v1 => ?_⟩
      rw [i2 v v0 v1]
      by_cases e : v = k
      · rw [if_neg (by omega), if_pos (by omega), e, f2, ea]
      · rw [f1 v e]
        by_cases e2 : (k : Int) ≤ v
        · rw [if_pos (by omega), if_pos e2]
        · rw [if_neg (by omega), if_neg e2]
    rw [e0]
    unfold X9_addThoseWithoutLine_L51b
    rw [if_neg (by omega), ez, Zgd_t (by omega), Zro_s]
    by_cases c : nd = 0
    · rw [if_pos c, x_beginIn hk2 hb, Yb_some]
      exact st _ (by omega) (by omega) (if_pos c).symm
    · rw [if_neg c]
      exact st 1000 (by decide) (by decide) (if_neg c).symm
theorem nearR_p (wc : Int → Int) (c : Int) : ∀ n : Nat, 0 < n → 0 ≤ nearR wc c n
  | 0, h => by omega
  | n + 1, _ => by
    rw [nearR_s]
    by_cases q : nearR wc c n < 0 ∨ farS c (wc n) < farS c (wc (nearR wc c n))
    · rw [if_pos q]; omega
    · rw [if_neg q]; omega
def pkS (z : ZI) (k : Nat) (v : Int) : Int := sumR (fun h => if needF z h = 0 ∨ goesF z h < 0 then cH z v h else 0) k
theorem pkS_b (z : ZI) {v : Int} (hv : 0 ≤ v) (k : Nat) : 0 ≤ pkS z k v ∧ pkS z k v ≤ 1000 * k := by
  have a := sumR_nn (f := fun h : Nat => if needF z h = 0 ∨ goesF z h < 0 then cH z v h else 0) k (fun j hj => by
    show 0 ≤ if needF z j = 0 ∨ goesF z j < 0 then cH z v j else 0
    have := cH_r (z := z) hv j
    split <;> omega)
  have b := sumR_mono (f := fun h : Nat => if needF z h = 0 ∨ goesF z h < 0 then cH z v h else 0) (g := fun _ => 1000) k (fun j hj => by
    show (if needF z j = 0 ∨ goesF z j < 0 then cH z v j else 0) ≤ 1000
    have := cH_r (z := z) hv j
    split <;> omega)
  have c := sumR_k 1000 k
  unfold pkS
  omega
theorem x_at2_L {z : ZI} (hK : K z) (e200 : z 200 52 = 4096) : ∀ (n k fu : Nat) (C : Int → Int), k + n = (z 68 12).toNat → n < fu → (∀ v : Int, 0 ≤ v → v < 4096 → C v = pkS z k v) → ∃ C2, X9_addThoseWithoutLine_L2 fu (Zro z 52 C) (z 68 11) k = some ((), Zro z 52 C2) ∧ ∀ v : Int, 0 ≤ v → v < 4096 → C2 v = pkS z (z 68 12).toNat v := by
  have hH := K_H hK
  have hW := K_W hK
  have h30 := hH.2.1
  have hh := hH.2.2.1
  intro n
  induction n with
  | zero =>
    intro k fu C hk hf h
    obtain ⟨fu, rfl⟩ : ∃ g, fu = g + 1 := ⟨fu - 1, by omega⟩
    obtain rfl : k = (z 68 12).toNat := by omega
    refine ⟨C, ?_, h⟩
    show X9_addThoseWithoutLine_L2b (X9_addThoseWithoutLine_L2 fu) _ _ _ = _
    unfold X9_addThoseWithoutLine_L2b
    rw [Zro_k (k := 11) (by decide), if_pos (by omega)]
  | succ n ih =>
    intro k fu C hk hf h
    obtain ⟨fu, rfl⟩ : ∃ g, fu = g + 1 := ⟨fu - 1, by omega⟩
    have q := hH.2.2.2.1 k (by omega) (by omega)
    have hb := hereH_b (z := z) (k : Int) (z 68 11) (K_P hK)
    have nk : needF z k = 5 * hereH z k (z 68 11) := rfl
    have eh := x_hereInHouse (z := Zro z 52 C) (h := (k : Int)) (d := z 68 11) (by have hP := K_P hK; exact (JP_c rfl rfl rfl rfl rfl rfl rfl rfl rfl rfl rfl rfl hP)) (by have hS := K_S hK; exact (JS_c rfl rfl rfl rfl rfl rfl rfl rfl rfl rfl rfl hS))
    have eh2 : hereH (Zro z 52 C) k (z 68 11) = hereH z k (z 68 11) := rfl
    rw [eh2] at eh
    have us : ∀ v, pkS z (k + 1) v = pkS z k v + (if needF z k = 0 ∨ goesF z k < 0 then cH z v k else 0) := fun _ => rfl
    have b93 : ∀ C', X9_addThoseWithoutLine_b93 (X9_addThoseWithoutLine_L2 fu) (Zro z 52 C') (z 68 11) k = X9_addThoseWithoutLine_L2 fu (Zro z 52 C') (z 68 11) ((k + 1 : Nat) : Int) := by
      intro C'
      unfold X9_addThoseWithoutLine_b93
      rw [Zgd_t (by omega), show (k : Int) + 1 = ((k + 1 : Nat) : Int) by omega]
    have e0 : X9_addThoseWithoutLine_L2 (fu + 1) (Zro z 52 C) (z 68 11) k = X9_addThoseWithoutLine_L2b (X9_addThoseWithoutLine_L2 fu) (Zro z 52 C) (z 68 11) k := rfl
    have add : ∀ x : Int, (needF z k = 0 ∨ goesF z k < 0) → (∀ v : Int, 0 ≤ v → v < 4096 → cH z v k = if x = 0 then hrW v (z 72 k) else 1000) → ∃ C2, X9_addThoseWithoutLine_b41 (X9_addThoseWithoutLine_L2 fu) (Zro z 52 C) (z 68 11) k x = some ((), Zro z 52 C2) ∧ ∀ v : Int, 0 ≤ v → v < 4096 → C2 v = pkS z (z 68 12).toNat v := by
      intro x hx hc
      obtain ⟨C2, a1, a2⟩ := x_at1_L (y := z) (day := z 68 11) (h := (k : Int)) (nd := x) (blk := z 72 k) (k2 := X9_addThoseWithoutLine_L2 fu) e200 ⟨q.2.2.2.2.1, q.2.2.2.2.2⟩ 4096 0 Zfuel C (by decide) (by unfold Zfuel; omega) (fun v v0 v1 => by
        rw [h v v0 v1]
        have := pkS_b z v0 k
        omega)
      have a1 : X9_addThoseWithoutLine_L51 (X9_addThoseWithoutLine_L2 fu) Zfuel (Zro z 52 C) (z 68 11) k x (z 72 k) 0 = _ := a1
      unfold X9_addThoseWithoutLine_b41 F_X3_blockOf
      rw [Zgd_t (by omega), Yb_some, Zro_k (k := 13) (by decide), q.2.2.2.1, a1, b93]
      refine ih (k + 1) fu C2 (by omega) (by omega) (fun v v0 v1 => ?_)
      rw [a2 v v0 v1, if_pos (by omega), h v v0 v1, us, if_pos hx, hc v v0 v1]
    rw [e0]
    unfold X9_addThoseWithoutLine_L2b X9_addThoseWithoutLine_b24
    rw [Zro_k (k := 11) (by decide), if_neg (by omega), eh, Yb_some]
    by_cases c : hereH z k (z 68 11) ≤ 0
    · rw [if_pos c, if_pos rfl]
      refine add 0 (Or.inl (by omega)) (fun v v0 v1 => ?_)
      have r := hrW_r v0 (z 72 k)
      have es : sV z (hrW v) k = hrW v (z 72 k) := if_pos (by omega)
      unfold cH
      rw [es, if_neg (by omega), if_pos rfl]
    · rw [if_neg c, if_neg (by decide), Zro_k (k := 41) (by decide)]
      by_cases c2 : z 41 0 ≤ 0
      · have w0 := hW.1
        have w1 := hW.2.1
        have g9 : goesF z k = -9 := by
          have e : (z 68 47).toNat = 0 := by omega
          unfold goesF
          rw [e]
          rfl
        rw [if_pos c2]
        refine add 1 (Or.inr (by omega)) (fun v v0 v1 => ?_)
        have es : sV z (hrW v) k = -9 := by
          unfold sV srvH
          rw [if_neg (by omega), if_pos (by omega)]
        unfold cH
        rw [es, if_pos (by decide), if_neg (by decide)]
      · have w0 := hW.1
        have g0 : 0 ≤ goesF z k := nearR_p _ _ _ (by omega)
        rw [if_neg c2, b93]
        refine ih (k + 1) fu C (by omega) (by omega) (fun v v0 v1 => ?_)
        rw [us, if_neg (fun t => by rcases t with t | t <;> omega), Int.add_zero]
        exact h v v0 v1
theorem cost_fb {z z2 : ZI} (f : FrB z z2) : cost z2 = cost z := by
  rw [f.eq]
  rfl
theorem lnS_fb {z z2 : ZI} (f : FrB z z2) (w : Int) (n : Nat) : lnS z2 w n = lnS z w n := by
  rw [f.eq]
  rfl
theorem x_wl_L {z : ZI} (hK : K z) (h0 : z 41 14 = 0) (hz : z 200 52 = 4096 ∧ z 200 53 = 4096) : ∀ (n w fu : Nat) (y : ZI), w + n = (z 68 47).toNat → n < fu → FrB z y → (∀ v : Int, 0 ≤ v → v < 4096 → y 52 v = pcS z w v) → ∃ y2, X9_findBest_L50 fu y (z 68 11) w = X9_findBest_b76 y2 ∧ FrB z y2 ∧ (∀ v : Int, 0 ≤ v → v < 4096 → y2 52 v = cost z v) := by
  have hW := K_W hK
  have hH := K_H hK
  have h30 := hH.2.1
  have w0 := hW.2.1
  have w6 := hW.2.2.1
  intro n
  induction n with
  | zero =>
    intro w fu y hk hf fr h
    obtain ⟨fu, rfl⟩ : ∃ g, fu = g + 1 := ⟨fu - 1, by omega⟩
    obtain rfl : w = (z 68 47).toNat := by omega
    refine ⟨y, ?_, fr, fun v v0 v1 => ?_⟩
    · have e41 : y 41 0 = z 68 47 := (fr.q (by decide) (by decide)).trans hW.1
      show X9_findBest_L50b (X9_findBest_L50 fu) _ _ _ = _
      unfold X9_findBest_L50b
      rw [e41, if_pos (by omega)]
    · rw [h v v0 v1, show (((z 68 47).toNat : Nat) : Int) = z 68 47 by omega]
      exact pcS_end hW v
  | succ n ih =>
    intro w fu y hk hf fr h
    obtain ⟨fu, rfl⟩ : ∃ g, fu = g + 1 := ⟨fu - 1, by omega⟩
    have e41 : y 41 0 = z 68 47 := (fr.q (by decide) (by decide)).trans hW.1
    have hKy := FrB_K fr h0 hK
    have ed : y 68 11 = z 68 11 := by rw [fr.k (k := 68) (by decide) (by omega)]
    obtain ⟨y1, a1, a2, a3⟩ := x_lineUp (z := y) (w := (w : Int)) hKy
    have fr1 := fr.tr (FrB_Z a2)
    have en : (y 68 12).toNat = (z 68 12).toNat := by rw [fr.k (k := 68) (by decide) (by omega)]
    have eb : y 72 = z 72 := fr.k (by decide) (by omega)
    have end2 : needF y = needF z := by rw [fr.eq]; rfl
    rw [lnS_fb fr, en, eb, end2] at a3
    rw [ed] at a1
    have mem := lineR_mem (goesF z) (needF z) w (z 68 12).toNat
    obtain ⟨g, g1, g2, g3⟩ := x_mine_L (y := y1) (w := (w : Int)) a3 (fun x hx => by
      have m := (mem x).mp hx
      have := hH.2.2.2.1 x m.1 (by omega)
      omega) (lnS z w (z 68 12).toNat) [] 0 Zfuel rfl (by have := a3.2.1; unfold Zfuel; omega) (by decide) (fun b b0 b1 => by
      have e : ¬ hasB 0 b := by
        unfold hasB
        rw [Nat.zero_div]
        decide
      exact ⟨fun t => absurd t e, fun ⟨u, u1, _⟩ => absurd u1 (by simp)⟩)
    have g2 : F_X9_addLine y1 w = X9_addLine_b33 y1 w (mkM g : Int) := g2
    obtain ⟨y2, b1, b2, b3⟩ := x_al_L hK h0 hz (w := w) (by omega) g1 g3 4096 0 Zfuel y1 (by decide) (by unfold Zfuel; omega) fr1 a3 (fun v v0 v1 => by omega) (fun v v0 v1 => by
      rw [if_neg (by omega), a2.k (k := 52) (by decide) (by decide) (by decide) (by decide) (by decide) (by decide)]
      exact h v v0 v1)
    have b1 : X9_addLine_b33 y1 w (mkM g : Int) = some ((), y2) := b1
    have e0 : X9_findBest_L50 (fu + 1) y (z 68 11) w = X9_findBest_L50b (X9_findBest_L50 fu) y (z 68 11) w := rfl
    rw [e0]
    unfold X9_findBest_L50b
    rw [e41, if_neg (by omega), a1, Yb_some, g2, b1, Yb_some, Zgd_t (by omega), show (w : Int) + 1 = ((w + 1 : Nat) : Int) by omega]
    exact ih (w + 1) fu y2 (by omega) (by omega) b2 b3
/-- of the first k ways the first of the least -/
def minW (f : Int → Int) (k w : Int) : Prop := 0 ≤ w ∧ w < k ∧ (∀ v, 0 ≤ v → v < k → f w ≤ f v) ∧ (∀ v, 0 ≤ v → v < w → f w < f v)
theorem x_am_L {z : ZI} (hz : z 200 52 = 4096) {f : Int → Int} (hf : ∀ v : Int, 0 ≤ v → v < 4096 → z 52 v = f v) : ∀ (n k fu : Nat) (bw : Int), k + n = 4096 → n < fu → minW f k bw → ∃ b2, X9_findBest_L83 fu (Zup z 41 15 bw) k = some ((), Zup (Zup z 41 15 b2) 41 14 1) ∧ minW f 4096 b2 := by
  intro n
  induction n with
  | zero =>
    intro k fu bw hk hfu h
    obtain ⟨fu, rfl⟩ : ∃ g, fu = g + 1 := ⟨fu - 1, by omega⟩
    obtain rfl : k = 4096 := by omega
    refine ⟨bw, ?_, h⟩
    show X9_findBest_L83b (X9_findBest_L83 fu) _ _ = _
    unfold X9_findBest_L83b
    rw [if_pos (by decide), Zl_eq]
  | succ n ih =>
    intro k fu bw hk hfu h
    obtain ⟨fu, rfl⟩ : ∃ g, fu = g + 1 := ⟨fu - 1, by omega⟩
    obtain ⟨m1, m2, m3, m4⟩ := h
    have e0 : X9_findBest_L83 (fu + 1) (Zup z 41 15 bw) k = X9_findBest_L83b (X9_findBest_L83 fu) (Zup z 41 15 bw) k := rfl
    have ez : (Zup z 41 15 bw) 200 52 = 4096 := hz
    have eb : (Zup z 41 15 bw) 41 15 = bw := Zup_s
    have e52 : (Zup z 41 15 bw) 52 = z 52 := Zup_k (by decide)
    have tw : ∀ x, Zup (Zup z 41 15 bw) 41 15 x = Zup z 41 15 x := fun x => by
      funext q i
      unfold Zup
      by_cases c : q = 41 ∧ i = 15
      · rw [if_pos c, if_pos c]
      · rw [if_neg c, if_neg c, if_neg c]
    rw [e0]
    unfold X9_findBest_L83b X9_findBest_b113
    rw [if_neg (by omega), ez, eb, Zgd_t (by omega), Zgd_t (by omega), e52, hf bw m1 (by omega), hf k (by omega) (by omega)]
    by_cases c : f bw ≤ f k
    · rw [if_pos c, Zgd_t (by omega), show (k : Int) + 1 = ((k + 1 : Nat) : Int) by omega]
      refine ih (k + 1) fu bw (by omega) (by omega) ⟨m1, by omega, fun v v0 v1 => ?_, m4⟩
      by_cases e : v = k
      · rw [e]; exact c
      · exact m3 v v0 (by omega)
    · rw [if_neg c, Zl_eq, tw, Zgd_t (by omega), show (k : Int) + 1 = ((k + 1 : Nat) : Int) by omega]
      refine ih (k + 1) fu k (by omega) (by omega) ⟨by omega, by omega, fun v v0 v1 => ?_, fun v v0 v1 => ?_⟩
      · by_cases e : v = k
        · rw [e]; exact Int.le_refl _
        · have := m3 v v0 (by omega)
          omega
      · have := m3 v v0 v1
        omega
theorem x_fillv_L {a0 n0 : Nat} {z : ZI} {v : Int} (hz : z 200 a0 = 4096) (ha : a0 ≠ 200) : ∀ (n k fu : Nat) (f : Int → Int), k + n = 4096 → n < fu → ∃ g, J7_fill_531784_L5 a0 n0 fu (Zro z a0 f) v k 4096 = some ((), Zro z a0 g) ∧ ∀ i : Int, 0 ≤ i → i < 4096 → g i = if k ≤ i then v else f i := by
  intro n
  induction n with
  | zero =>
    intro k fu f hk hf
    obtain ⟨fu, rfl⟩ : ∃ g, fu = g + 1 := ⟨fu - 1, by omega⟩
    obtain rfl : k = 4096 := by omega
    refine ⟨f, ?_, fun i i0 i1 => by rw [if_neg (by omega)]⟩
    show J7_fill_531784_L5b a0 n0 (J7_fill_531784_L5 a0 n0 fu) _ _ _ _ = _
    unfold J7_fill_531784_L5b
    rw [if_pos (by decide)]
  | succ n ih =>
    intro k fu f hk hf
    obtain ⟨fu, rfl⟩ : ∃ g, fu = g + 1 := ⟨fu - 1, by omega⟩
    have ez : (Zro z a0 f) 200 a0 = 4096 := by rw [Zro_k (fun q => ha q.symm)]; exact hz
    have e0 : J7_fill_531784_L5 a0 n0 (fu + 1) (Zro z a0 f) v k 4096 = J7_fill_531784_L5b a0 n0 (J7_fill_531784_L5 a0 n0 fu) (Zro z a0 f) v k 4096 := rfl
    rw [e0]
    unfold J7_fill_531784_L5b
    rw [if_neg (by omega), ez, Zgd_t (by omega), Zl_eq, Zro_u, Zgd_t (by omega), show (k : Int) + 1 = ((k + 1 : Nat) : Int) by omega]
    obtain ⟨g, g1, g2⟩ := ih (k + 1) fu (fupd f k v) (by omega) (by omega)
    refine ⟨g, g1, fun i i0 i1 => ?_⟩
    rw [g2 i i0 i1]
    unfold fupd
    by_cases e : i = k
    · rw [if_neg (by omega), if_pos e, if_pos (by omega)]
    · rw [if_neg e]
      by_cases e2 : (k : Int) ≤ i
      · rw [if_pos (by omega), if_pos e2]
      · rw [if_neg (by omega), if_neg e2]
/-- with the rows made: the best way is found and known -/
theorem x_b34 {z : ZI} (hK : K z) (h0 : z 41 14 = 0) (hz : z 200 52 = 4096 ∧ z 200 53 = 4096) : ∃ (y : ZI) (bw : Int), X9_findBest_b34 z (z 68 11) = some ((), Zup (Zup y 41 15 bw) 41 14 1) ∧ FrB z y ∧ isBest (cost z) bw ∧ y 52 bw = cost z bw := by
  have h30 := (K_H hK).2.1
  have w6 := (K_W hK).2.2.1
  obtain ⟨C0, a1, a2⟩ := x_fillv_L (a0 := 52) (n0 := 0) (v := 0) hz.1 (by decide) 4096 0 Zfuel (z 52) (by decide) (by unfold Zfuel; omega)
  rw [Zro_z] at a1
  have fr0 : FrB z (Zro z 52 C0) := FrB_r (by decide)
  have hK0 := FrB_K fr0 h0 hK
  obtain ⟨C1, b1, b2⟩ := x_at2_L hK hz.1 (z 68 12).toNat 0 Zfuel C0 (by omega) (by unfold Zfuel; omega) (fun v v0 v1 => by
    rw [a2 v v0 v1, if_pos (by omega)]
    rfl)
  have b1 : F_X9_addThoseWithoutLine (Zro z 52 C0) (z 68 11) = some ((), Zro z 52 C1) := b1
  obtain ⟨y, d1, d2, d3⟩ := x_wl_L hK h0 hz (z 68 47).toNat 0 Zfuel (Zro z 52 C1) (by omega) (by unfold Zfuel; omega) (FrB_r (by decide)) (fun v v0 v1 => by
    rw [Zro_s, b2 v v0 v1]
    rfl)
  have d1 : X9_findBest_L50 Zfuel (Zro z 52 C1) (z 68 11) 0 = X9_findBest_b76 y := d1
  obtain ⟨bw, e1, e2⟩ := x_am_L (z := y) (f := cost z) (by rw [d2.k (k := 200) (by decide) (by omega)]; exact hz.1) d3 4095 1 Zfuel 0 (by decide) (by unfold Zfuel; omega) ⟨by decide, by decide, fun v v0 v1 => by
    obtain rfl : v = 0 := by omega
    exact Int.le_refl _, fun v v0 v1 => by omega⟩
  have e1 : X9_findBest_b76 y = some ((), Zup (Zup y 41 15 bw) 41 14 1) := e1
  refine ⟨y, bw, ?_, d2, e2, d3 bw e2.1 e2.2.1⟩
  have f1 : F_J7_fill_531784 52 0 z 0 = some ((), Zro z 52 C0) := by
    have hz' : z 200 ((52 : Nat) : Int) = 4096 := hz.1
    unfold F_J7_fill_531784
    rw [hz', Zgd_t (by decide)]
    exact a1
  unfold X9_findBest_b34
  rw [f1, Yb_some, b1, Yb_some, d1, e1]
theorem K_known {z y : ZI} {bw : Int} (hK : K z) (h0 : z 41 14 = 0) (hz : z 200 52 = 4096 ∧ z 200 53 = 4096) (f : FrB z y) (hb : isBest (cost z) bw) (hc : y 52 bw = cost z bw) : K (Zup (Zup y 41 15 bw) 41 14 1) := by
  have hKy := FrB_K f h0 hK
  have ec := cost_fb f
  have e200 : y 200 = z 200 := f.k (by decide) (by omega)
  have ec2 : cost (Zup (Zup y 41 15 bw) 41 14 1) = cost y := rfl
  obtain ⟨hD, hH, hP, hS, hL, hT, hE, hV, hA, hU, hC, hK, hW, hB, hG, hX, hQ, hO⟩ := hKy
  have hjb : JB (Zup (Zup y 41 15 bw) 41 14 1) := by
    refine ⟨Or.inr ⟨?_, ?_⟩, Or.inr ⟨rfl, ?_, ?_, ?_⟩⟩
    · show y 200 52 = 4096
      rw [e200]; exact hz.1
    · show y 200 53 = 4096
      rw [e200]; exact hz.2
    · show y 200 52 = 4096
      rw [e200]; exact hz.1
    · rw [ec2, ec]
      exact hb
    · rw [ec2, ec]
      exact hc
  exact ⟨(JD_c rfl rfl hD), (JH_c rfl rfl rfl rfl rfl rfl rfl hH), (JP_c rfl rfl rfl rfl rfl rfl rfl rfl rfl rfl rfl rfl hP), (JS_c rfl rfl rfl rfl rfl rfl rfl rfl rfl rfl rfl hS), (JL_c rfl rfl hL), (JT_c rfl rfl rfl rfl rfl hT), (JE_c rfl rfl rfl rfl hE), (JV_c rfl rfl rfl rfl hV), (JA_c rfl rfl rfl rfl hA), (JU_c rfl rfl rfl rfl rfl rfl rfl rfl rfl rfl hU), (JC_c rfl rfl rfl rfl rfl rfl rfl rfl rfl rfl hC), (JK_c rfl rfl rfl rfl rfl rfl rfl rfl rfl hK), (JW_c rfl rfl rfl rfl rfl rfl rfl rfl rfl rfl hW), hjb, (JG_c rfl rfl rfl rfl rfl hG), (JX_c rfl rfl rfl rfl rfl hX), (JQ_c rfl rfl rfl rfl rfl hQ), (JO_c rfl rfl rfl rfl rfl rfl rfl rfl rfl rfl rfl hO)⟩
