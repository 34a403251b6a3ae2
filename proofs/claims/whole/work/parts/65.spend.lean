/-! wells: the class spends an hour and a day -/
def LCn (z : ZI) (l : List Int) (bl nd : Int → Int) : Prop := z 41 5 = l.length ∧ l.length ≤ 30 ∧ ∀ j : Nat, j < l.length → z 46 j = nth l j ∧ z 47 j = bl (nth l j) ∧ z 48 j = nd (nth l j)
def LAn (a : Int → Int) (l : List Int) (f : Int → Int) : Prop := ∀ j : Nat, j < l.length → a j = f (nth l j)
theorem LAn_up {a : Int → Int} {l : List Int} {f : Int → Int} (d : distL l) (h : LAn a l f) {j : Nat} (hj : j < l.length) (v : Int) : LAn (fupd a j v) l (fupd f (nth l j) v) := by
  intro i hi
  have e := h i hi
  unfold fupd
  by_cases c : i = j
  · rw [if_pos (by omega), if_pos (by rw [c])]
  · have ne : nth l i ≠ nth l j := by
      rcases Nat.lt_or_gt_of_ne c with q | q
      · exact d i j q hj
      · exact fun w => d j i q hi w.symm
    rw [if_neg (by omega), if_neg ne, e]
theorem lsm_snoc (f : Int → Int) (h : Int) : ∀ p : List Int, lsm f (p ++ [h]) = lsm f p + f h
  | [] => by
    show f h + 0 = 0 + f h
    omega
  | x :: p => by
    have i := lsm_snoc f h p
    show f x + lsm f (p ++ [h]) = f x + lsm f p + f h
    omega
theorem lsm_le {f : Int → Int} {M : Int} (hf : ∀ h, f h ≤ M) : ∀ l : List Int, lsm f l ≤ M * l.length
  | [] => by
    show (0 : Int) ≤ M * ((0 : Nat) : Int)
    rw [show ((0 : Nat) : Int) = 0 from rfl, Int.mul_zero]
    exact Int.le_refl _
  | h :: t => by
    have i := lsm_le hf t
    have j := hf h
    show f h + lsm f t ≤ M * ((t.length + 1 : Nat) : Int)
    rw [show ((t.length + 1 : Nat) : Int) = (t.length : Int) + 1 by omega, Int.mul_add, Int.mul_one]
    omega
section
variable {z : ZI} {l : List Int} {bl nd bg : Int → Int} {a3 : Nat}
theorem x_shour_L (h1 : a3 ≠ 49) (h2 : a3 ≠ 50) (hbg : ∀ b : Int, 0 ≤ b → b ≤ 3 → z a3 b = bg b) (hl : LCn z l bl nd) (hd : distL l) (hbl : ∀ h ∈ l, 0 ≤ bl h ∧ bl h ≤ 3) {hr pails : Int} (hh : 0 ≤ hr ∧ hr ≤ 24) (hp : 0 ≤ pails ∧ pails ≤ 10000) : ∀ (s p : List Int) (now : Int) (lk sv a b : Int → Int) (fu : Nat), l = p ++ s → s.length < fu → LAn a l lk → LAn b l sv → 0 ≤ now → now ≤ pails → (∀ h, 0 ≤ lk h ∧ lk h ≤ 300) → ∃ a2 b2, X9_spendHour_L6 a3 4 fu (Ztwo z 49 50 a b) hr pails now (p.length : Nat) = some (pails - (hourR bl bg hr s now lk sv).1, Ztwo z 49 50 a2 b2) ∧ LAn a2 l (hourR bl bg hr s now lk sv).2.1 ∧ LAn b2 l (hourR bl bg hr s now lk sv).2.2
  | [], p, now, lk, sv, a, b, fu, e, hf, ha, hb, n0, n1, _ => by
    obtain ⟨fu, rfl⟩ : ∃ g, fu = g + 1 := ⟨fu - 1, by omega⟩
    rw [List.append_nil] at e
    refine ⟨a, b, ?_, ha, hb⟩
    show X9_spendHour_L6b a3 4 (X9_spendHour_L6 a3 4 fu) _ _ _ _ _ = some (pails - now, _)
    unfold X9_spendHour_L6b X9_spendHour_b101
    rw [Ztwo_k (k := 41) (by decide) (by decide), hl.1, if_pos (by rw [e]; omega), Zgd_t (by omega)]
  | h :: t, p, now, lk, sv, a, b, fu, e, hf, ha, hb, n0, n1, hk => by
    obtain ⟨fu, rfl⟩ : ∃ g, fu = g + 1 := ⟨fu - 1, by omega⟩
    have ee : l = (p ++ [h]) ++ t := by rw [e, List.append_assoc]; rfl
    have nj : nth l p.length = h := by rw [e]; exact nth_app p h t
    have len : l.length = p.length + (t.length + 1) := by rw [e, List.length_append, List.length_cons]
    have l30 := hl.2.1
    have jl : p.length < l.length := by omega
    have pl : (p ++ [h]).length = p.length + 1 := by rw [List.length_append, List.length_singleton]
    rw [List.length_cons] at hf
    have aj := ha p.length jl
    have bj := hb p.length jl
    have lj := hl.2.2 p.length jl
    have kh := hk h
    have mem : h ∈ l := nth_mem.mpr ⟨p.length, jl, nj⟩
    have bh := hbl h mem
    rw [nj] at aj bj lj
    have b95 : ∀ a' b' now', X9_spendHour_b95 a3 4 (X9_spendHour_L6 a3 4 fu) (Ztwo z 49 50 a' b') hr pails now' (p.length : Nat) = X9_spendHour_L6 a3 4 fu (Ztwo z 49 50 a' b') hr pails now' ((p ++ [h]).length : Nat) := by
      intro a' b' now'
      unfold X9_spendHour_b95
      rw [Zgd_t (by omega), pl, show (p.length : Int) + 1 = ((p.length + 1 : Nat) : Int) by omega]
    have e0 : X9_spendHour_L6 a3 4 (fu + 1) (Ztwo z 49 50 a b) hr pails now (p.length : Nat) = X9_spendHour_L6b a3 4 (X9_spendHour_L6 a3 4 fu) (Ztwo z 49 50 a b) hr pails now (p.length : Nat) := rfl
    rw [e0]
    unfold X9_spendHour_L6b
    rw [Ztwo_k (k := 41) (by decide) (by decide), hl.1, if_neg (by omega), Zgd_t (by omega), Ztwo_a, aj]
    by_cases c0 : lk h = 0
    · rw [if_pos c0, b95, hourR_skip (Or.inr c0)]
      exact x_shour_L h1 h2 hbg hl hd hbl hh hp t (p ++ [h]) now lk sv a b fu ee (by omega) ha hb n0 n1 hk
    · rw [if_neg c0, Zgd_t (by omega), Ztwo_k (k := 47) (by decide) (by decide), lj.2.1, Zgd_t (by omega), Ztwo_k (k := a3) h1 h2, hbg _ bh.1 bh.2]
      by_cases c1 : bg (bl h) ≤ hr
      · have nc : ¬ (hr < bg (bl h) ∨ lk h = 0) := by omega
        rw [if_pos c1, Zgd_t (by omega), Zgd_t (by omega), Zgd_t (by omega), Zgd_t (by omega), Zl_eq, Ztwo_ua, Zgd_t (by omega), Zgd_t (by omega), Ztwo_a]
        have ev : fupd a (p.length : Nat) (lk h - min (lk h) now) (p.length : Nat) = lk h - min (lk h) now := if_pos rfl
        have up := LAn_up hd ha jl (lk h - min (lk h) now)
        rw [nj] at up
        rw [ev]
        by_cases c2 : now < lk h
        · rw [if_neg (by omega), hourR_brk nc c2]
          unfold X9_spendHour_b84 X9_spendHour_b101
          rw [Zgd_t (by omega), show now - min (lk h) now = 0 by omega]
          rw [show lk h - min (lk h) now = lk h - now by omega] at up ⊢
          exact ⟨_, b, rfl, up, hb⟩
        · have up2 := LAn_up hd hb jl hr
          rw [nj] at up2
          rw [show lk h - min (lk h) now = 0 by omega] at up ⊢
          rw [if_pos (by omega), Zgd_t (by omega), Zl_eq, Ztwo_ub (by decide), b95, hourR_srv nc c2, show now - min (lk h) now = now - lk h by omega]
          exact x_shour_L h1 h2 hbg hl hd hbl hh hp t (p ++ [h]) (now - lk h) (fupd lk h 0) (fupd sv h hr) _ _ fu ee (by omega) up up2 (by omega) (by omega) (fun x => by
            unfold fupd
            have := hk x
            split <;> omega)
      · rw [if_neg c1, b95, hourR_skip (Or.inl (by omega))]
        exact x_shour_L h1 h2 hbg hl hd hbl hh hp t (p ++ [h]) now lk sv a b fu ee (by omega) ha hb n0 n1 hk
theorem x_sday_L (h1 : a3 ≠ 49) (h2 : a3 ≠ 50) (hbg : ∀ b : Int, 0 ≤ b → b ≤ 3 → z a3 b = bg b) (hl : LCn z l bl nd) (hd : distL l) (hbl : ∀ h ∈ l, 0 ≤ bl h ∧ bl h ≤ 3) {w yi : Int} (hw : 0 ≤ w ∧ w < 6) (hy : z 43 w = yi) (hy1 : 1 ≤ yi ∧ yi ≤ 99) : ∀ (n : Nat) (fu : Nat) (left lack : Int) (lk sv a b : Int → Int), n ≤ 20 → n < fu → LAn a l lk → LAn b l sv → 0 ≤ left → left ≤ 9999 → (∀ h, 0 ≤ lk h ∧ lk h ≤ 300) → lack = lsm lk l → ∃ a2 b2, X9_spendDay_L67 a3 4 fu (Ztwo z 49 50 a b) w lack left (24 - (n : Int)) = some ((), Ztwo z 49 50 a2 b2) ∧ LAn b2 l (dayR bl bg yi l n left lk sv)
  | 0, fu, left, lack, lk, sv, a, b, _, hf, ha, hb, l0, l1, hk, el => by
    obtain ⟨fu, rfl⟩ : ∃ g, fu = g + 1 := ⟨fu - 1, by omega⟩
    refine ⟨a, b, ?_, hb⟩
    show X9_spendDay_L67b a3 4 (X9_spendDay_L67 a3 4 fu) _ _ _ _ _ = _
    unfold X9_spendDay_L67b X9_spendDay_b121
    rw [if_pos (by omega)]
  | n + 1, fu, left, lack, lk, sv, a, b, hn, hf, ha, hb, l0, l1, hk, el => by
    obtain ⟨fu, rfl⟩ : ∃ g, fu = g + 1 := ⟨fu - 1, by omega⟩
    have e0 : X9_spendDay_L67 a3 4 (fu + 1) (Ztwo z 49 50 a b) w lack left (24 - ((n + 1 : Nat) : Int)) = X9_spendDay_L67b a3 4 (X9_spendDay_L67 a3 4 fu) (Ztwo z 49 50 a b) w lack left (24 - ((n + 1 : Nat) : Int)) := rfl
    rw [e0]
    unfold X9_spendDay_L67b X9_spendDay_b121
    rw [if_neg (by omega)]
    by_cases c1 : left ≤ 0
    · rw [if_pos c1]
      refine ⟨a, b, rfl, ?_⟩
      rw [dayR_nop (by omega) (n + 1) left lk sv (fun h => (hk h).1) (Or.inl (by omega))]
      exact hb
    · rw [if_neg c1]
      by_cases c2 : lack ≤ 0
      · rw [if_pos c2]
        refine ⟨a, b, rfl, ?_⟩
        rw [dayR_nop (by omega) (n + 1) left lk sv (fun h => (hk h).1) (Or.inr (lsm_0 (fun h => (hk h).1) (by omega)))]
        exact hb
      · have le := lsm_le (f := lk) (M := 300) (fun h => (hk h).2) l
        have l30 := hl.2.1
        obtain ⟨a2, b2, q1, q2, q3⟩ := x_shour_L h1 h2 hbg hl hd hbl (hr := 23 - (n : Int)) (pails := min left yi) (by omega) (by omega) l [] (min left yi) lk sv a b Zfuel rfl (by unfold Zfuel; omega) ha hb (by omega) (by omega) hk
        have q1 : F_X9_spendHour a3 4 (Ztwo z 49 50 a b) (23 - (n : Int)) (min left yi) = some (min left yi - (hourR bl bg (23 - (n : Int)) l (min left yi) lk sv).1, Ztwo z 49 50 a2 b2) := q1
        have hb2 := hourR_b (bl := bl) (bg := bg) (hr := 23 - (n : Int)) l (min left yi) lk sv (by omega) hk (by decide)
        have hs := hourR_sum (bl := bl) (bg := bg) (hr := 23 - (n : Int)) l (min left yi) lk sv hd
        rw [if_neg c2, Zgd_t (by omega), Ztwo_k (k := 43) (by decide) (by decide), hy, show 24 - ((n + 1 : Nat) : Int) = 23 - (n : Int) by omega, q1, Yb_some, Zgd_t (by omega), Zgd_t (by omega), Zgd_t (by omega), dayR_s, show 23 - (n : Int) + 1 = 24 - (n : Int) by omega]
        exact x_sday_L h1 h2 hbg hl hd hbl hw hy hy1 n fu _ _ _ _ a2 b2 (by omega) (by omega) q2 q3 (by omega) (by omega) hb2.2.2 (by omega)
theorem x_earliest (hb : ∀ b : Int, 0 ≤ b → b ≤ 3 → 4 ≤ z a3 b) : ∃ e, F_X9_earliest a3 4 z = some (e, z) ∧ 4 ≤ e ∧ e ≤ 24 ∧ ∀ b : Int, 0 ≤ b → b ≤ 3 → e ≤ z a3 b := by
  have l : ∀ (n k fu : Nat) (x : Int), k + n = 4 → n < fu → 4 ≤ x → ∃ e, X9_earliest_L5 a3 4 fu z x k = some (e, z) ∧ 4 ≤ e ∧ e ≤ x ∧ ∀ b : Int, k ≤ b → b ≤ 3 → e ≤ z a3 b := by
    intro n
    induction n with
    | zero =>
      intro k fu x hk hf hx
      obtain ⟨fu, rfl⟩ : ∃ g, fu = g + 1 := ⟨fu - 1, by omega⟩
      obtain rfl : k = 4 := by omega
      refine ⟨x, ?_, hx, Int.le_refl _, fun b b0 b1 => by omega⟩
      show X9_earliest_L5b a3 4 (X9_earliest_L5 a3 4 fu) _ _ _ = _
      unfold X9_earliest_L5b X9_earliest_b30
      rw [if_pos (by decide)]
    | succ n ih =>
      intro k fu x hk hf hx
      obtain ⟨fu, rfl⟩ : ∃ g, fu = g + 1 := ⟨fu - 1, by omega⟩
      have b4 := hb k (by omega) (by omega)
      obtain ⟨e, i1, i2, i3, i4⟩ := ih (k + 1) fu (min x (z a3 k)) (by omega) (by omega) (by omega)
      refine ⟨e, ?_, i2, by omega, fun b b0 b1 => ?_⟩
      · show X9_earliest_L5b a3 4 (X9_earliest_L5 a3 4 fu) _ _ _ = _
        unfold X9_earliest_L5b
        rw [if_neg (by omega), if_neg (by omega), Zgd_t (by omega), Zgd_t (by omega), show (k : Int) + 1 = ((k + 1 : Nat) : Int) by omega]
        exact i1
      · by_cases c : b = k
        · rw [c]; omega
        · exact i4 b (by omega) b1
  obtain ⟨e, h1, h2, h3, h4⟩ := l 4 0 Zfuel 24 (by decide) (by unfold Zfuel; omega) (by decide)
  exact ⟨e, h1, h2, h3, h4⟩
theorem x_sday0_L (hl : LCn z l bl nd) (hd : distL l) (hn : ∀ h, 0 ≤ nd h ∧ nd h ≤ 300) {w : Int} : ∀ (s p : List Int) (a b : Int → Int) (fu : Nat), l = p ++ s → s.length < fu → (∀ j : Nat, j < p.length → a j = nd (nth l j) ∧ b j = -9) → ∃ a2 b2, X9_spendDay_L5 a3 4 fu (Ztwo z 49 50 a b) w (lsm nd p) (p.length : Nat) = X9_spendDay_b53 a3 4 (Ztwo z 49 50 a2 b2) w (lsm nd l) ∧ LAn a2 l nd ∧ LAn b2 l (fun _ => -9)
  | [], p, a, b, fu, e, hf, h => by
    obtain ⟨fu, rfl⟩ : ∃ g, fu = g + 1 := ⟨fu - 1, by omega⟩
    rw [List.append_nil] at e
    refine ⟨a, b, ?_, fun j hj => (h j (by rw [← e]; exact hj)).1, fun j hj => (h j (by rw [← e]; exact hj)).2⟩
    show X9_spendDay_L5b a3 4 (X9_spendDay_L5 a3 4 fu) _ _ _ _ = _
    unfold X9_spendDay_L5b
    rw [Ztwo_k (k := 41) (by decide) (by decide), hl.1, if_pos (by rw [e]; omega), e]
  | x :: t, p, a, b, fu, e, hf, h => by
    obtain ⟨fu, rfl⟩ : ∃ g, fu = g + 1 := ⟨fu - 1, by omega⟩
    have ee : l = (p ++ [x]) ++ t := by rw [e, List.append_assoc]; rfl
    have nj : nth l p.length = x := by rw [e]; exact nth_app p x t
    have len : l.length = p.length + (t.length + 1) := by rw [e, List.length_append, List.length_cons]
    have l30 := hl.2.1
    have jl : p.length < l.length := by omega
    have pl : (p ++ [x]).length = p.length + 1 := by rw [List.length_append, List.length_singleton]
    have lj := hl.2.2 p.length jl
    rw [nj] at lj
    rw [List.length_cons] at hf
    have nx := hn x
    have le := lsm_le (f := nd) (M := 300) (fun h => (hn h).2) p
    have nn := lsm_nn (fun h => (hn h).1) p
    have i := x_sday0_L (w := w) hl hd hn t (p ++ [x]) (fupd a (p.length : Nat) (nd x)) (fupd b (p.length : Nat) (-9)) fu ee (by omega) (fun j hj => by
      rw [pl] at hj
      unfold fupd
      by_cases c : j = p.length
      · rw [if_pos (by omega), if_pos (by omega), c, nj]
        exact ⟨rfl, rfl⟩
      · rw [if_neg (by omega), if_neg (by omega)]
        exact h j (by omega))
    rw [lsm_snoc, pl] at i
    have e0 : X9_spendDay_L5 a3 4 (fu + 1) (Ztwo z 49 50 a b) w (lsm nd p) (p.length : Nat) = X9_spendDay_L5b a3 4 (X9_spendDay_L5 a3 4 fu) (Ztwo z 49 50 a b) w (lsm nd p) (p.length : Nat) := rfl
    rw [e0]
    unfold X9_spendDay_L5b
    rw [Ztwo_k (k := 41) (by decide) (by decide), hl.1, if_neg (by omega), Zgd_t (by omega), Zgd_t (by omega), Ztwo_k (k := 48) (by decide) (by decide), lj.2.2, Zl_eq, Ztwo_ua, Zgd_t (by omega), Zl_eq, Ztwo_ub (by decide), Zgd_t (by omega), Ztwo_k (k := 48) (by decide) (by decide), lj.2.2, Zgd_t (by omega), Zgd_t (by omega), show (p.length : Int) + 1 = ((p.length + 1 : Nat) : Int) by omega]
    exact i
theorem x_spendDay (h1 : a3 ≠ 49) (h2 : a3 ≠ 50) (hbg : ∀ b : Int, 0 ≤ b → b ≤ 3 → z a3 b = bg b ∧ 4 ≤ bg b) (hl : LCn z l bl nd) (hd : distL l) (hbl : ∀ h ∈ l, 0 ≤ bl h ∧ bl h ≤ 3) (hn : ∀ h, 0 ≤ nd h ∧ nd h ≤ 300) {w yi de : Int} (hw : 0 ≤ w ∧ w < 6) (hy : z 43 w = yi) (hy1 : 1 ≤ yi ∧ yi ≤ 99) (hde : z 44 w = de) (hd1 : 0 ≤ de ∧ de ≤ 9999) : ∃ a b, F_X9_spendDay a3 4 z w = some ((), Ztwo z 49 50 a b) ∧ LAn b l (dayR bl bg yi l 20 de nd (fun _ => -9)) := by
  have l30 := hl.2.1
  obtain ⟨a1, b1, p1, p2, p3⟩ := x_sday0_L (a3 := a3) hl hd hn (w := w) l [] (z 49) (z 50) Zfuel rfl (by unfold Zfuel; omega) (fun j hj => absurd hj (by simp))
  have p1 : F_X9_spendDay a3 4 (Ztwo z 49 50 (z 49) (z 50)) w = X9_spendDay_b53 a3 4 (Ztwo z 49 50 a1 b1) w (lsm nd l) := p1
  rw [Ztwo_z] at p1
  have ea : (Ztwo z 49 50 a1 b1) a3 = z a3 := Ztwo_k h1 h2
  obtain ⟨e, q1, q2, q3, q4⟩ := x_earliest (z := Ztwo z 49 50 a1 b1) (a3 := a3) (fun b b0 b1' => by
    rw [ea, (hbg b b0 b1').1]
    exact (hbg b b0 b1').2)
  rw [ea] at q4
  have r := x_sday_L h1 h2 (fun b b0 b1 => (hbg b b0 b1).1) hl hd hbl hw hy hy1 (24 - e).toNat Zfuel de (lsm nd l) nd (fun _ => -9) a1 b1 (by omega) (by unfold Zfuel; omega) p2 p3 hd1.1 hd1.2 hn rfl
  obtain ⟨a2, b2, r1, r2⟩ := r
  refine ⟨a2, b2, ?_, ?_⟩
  · rw [p1]
    unfold X9_spendDay_b53
    rw [show (24 : Int) - ((24 - e).toNat : Int) = e by omega] at r1
    rw [Zgd_t (by omega), q1, Yb_some, Ztwo_k (k := 44) (by decide) (by decide), hde]
    exact r1
  · have sk := dayR_skips (bl := bl) (bg := bg) (yi := yi) (l := l) (left := de) (lk := nd) (sv := fun _ => -9) (24 - e).toNat (e - 4).toNat (fun x hx => by
      have bx := hbl x hx
      have := q4 (bl x) bx.1 bx.2
      rw [(hbg _ bx.1 bx.2).1] at this
      omega)
    rw [show (24 - e).toNat + (e - 4).toNat = 20 by omega] at sk
    rw [sk]
    exact r2
end
