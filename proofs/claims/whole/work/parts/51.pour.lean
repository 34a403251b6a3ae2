/-! rain: the class pours -/
theorem isWtr_c {ht ht2 D : Int → Int} {r : Int} {w v : Int → Int} (hd : ∀ c : Int, 0 ≤ c → c < 144 → dnH ht c = dnH ht2 c) (hv : ∀ c : Int, 0 ≤ c → c < 144 → v c = w c) (h : isWtr ht D r w) : isWtr ht2 D r v := by
  intro c h0 h1
  rw [hv c h0 h1, h c h0 h1]
  have key : ∀ a b : Int, a = b → r + a = r + b := fun a b e => by rw [e]
  refine key _ _ (sumR_cg 144 (fun j hj => ?_))
  rw [hd j (by omega) (by omega), hv j (by omega) (by omega)]
theorem isFl_c {ht ht2 D : Int → Int} {o : Int → Prop} {f g : Int → Int} (hd : ∀ c : Int, 0 ≤ c → c < 144 → dnH ht c = dnH ht2 c) (hv : ∀ c : Int, 0 ≤ c → c < 144 → g c = f c) (h : isFl ht D o f) : isFl ht2 D o g := by
  intro c h0 h1
  obtain ⟨a, b⟩ := h c h0 h1
  rw [hv c h0 h1]
  refine ⟨a, b.trans ?_⟩
  constructor
  · rintro (q | ⟨j, j0, j1, q1, q2, q3⟩)
    · exact Or.inl q
    · exact Or.inr ⟨j, j0, j1, q1, by rw [← hd j j0 j1]; exact q2, by rw [hv j j0 j1]; exact q3⟩
  · rintro (q | ⟨j, j0, j1, q1, q2, q3⟩)
    · exact Or.inl q
    · exact Or.inr ⟨j, j0, j1, q1, by rw [hd j j0 j1]; exact q2, by rw [← hv j j0 j1]; exact q3⟩
theorem gS_c {ht lw w g w2 g2 : Int → Int} {c : Int} (hc : 0 ≤ c ∧ c < 144) (hw : w c = w2 c) (hg : ∀ x : Int, 0 ≤ x → x < 144 → g x = g2 x) : ∀ x : Int, 0 ≤ x → x < 144 → gS ht lw w g c x = gS ht lw w2 g2 c x := by
  have o : ∀ x : Int, 0 ≤ x → x < 144 → own1 lw w g c x = own1 lw w2 g2 c x := by
    intro x h0 h1
    unfold own1 fupd
    rw [hw]
    by_cases q : 0 < lw c ∧ lw c ≤ w2 c
    · rw [if_pos q, if_pos q, hg x h0 h1]
    · rw [if_neg q, if_neg q, hg x h0 h1]
  intro x h0 h1
  unfold gS fupd
  by_cases q : 0 ≤ dnH ht c
  · have r := dnH_r ht hc
    rw [if_pos q, if_pos q, o x h0 h1, o c hc.1 hc.2, o (dnH ht c) q (by omega)]
  · rw [if_neg q, if_neg q, o x h0 h1]
theorem x_pass31 {z : ZI} {W F : Int → Int} {c d : Int} (hc : 0 ≤ c ∧ c < 144) (hF : ∀ x : Int, 0 ≤ x → x < 144 → F x = 0 ∨ F x = 1) (hd : d = -9 ∨ (0 ≤ d ∧ d < 144 ∧ InR (W d + W c))) : X4_pass_b31 (Ztwo z 9 10 W F) c d = some ((), Ztwo z 9 10 (if 0 ≤ d then fupd W d (W d + W c) else W) (if 0 ≤ d then fupd F d (if F d = 0 ∧ F c = 0 then 0 else 1) else F)) := by
  unfold X4_pass_b31 X4_pass_b75 X4_pass_b80 X4_pass_b81
  rcases hd with q | ⟨q1, q2, q3⟩
  · rw [if_pos q, if_neg (by omega), if_neg (by omega)]
  · have f1 := hF d q1 q2
    have f2 := hF c hc.1 hc.2
    rw [if_neg (by omega), if_pos q1, if_pos q1, Zgd_t (by omega), Zgd_t (by omega), Ztwo_a, Zgd_t q3, Zgd_t (by omega), Zl_eq, Ztwo_ua, Zgd_t (by omega), Ztwo_b (by decide)]
    by_cases a : F d = 0
    · rw [if_pos a, Zgd_t (by omega)]
      by_cases b : F c = 0
      · rw [if_pos b, Zgd_t (by omega), Zgd_t (by omega), Zl_eq, Ztwo_ub (by decide), if_pos ⟨a, b⟩]
      · rw [if_neg b, Zgd_t (by omega), Zgd_t (by omega), Zl_eq, Ztwo_ub (by decide), if_neg (fun r => b r.2)]
    · rw [if_neg a, Zgd_t (by omega), Zgd_t (by omega), Zl_eq, Ztwo_ub (by decide), if_neg (fun r => a r.1)]
theorem x_pass {z : ZI} {W F : Int → Int} {c : Int} (hc : 0 ≤ c ∧ c < 144) (hF : ∀ x : Int, 0 ≤ x → x < 144 → F x = 0 ∨ F x = 1) (hd : dnH (z 3) c = -9 ∨ (0 ≤ dnH (z 3) c ∧ dnH (z 3) c < 144 ∧ InR (W (dnH (z 3) c) + W c))) : F_X4_pass (Ztwo z 9 10 W F) c (dnH (z 3) c) = some ((), Ztwo z 9 10 (if 0 ≤ dnH (z 3) c then fupd W (dnH (z 3) c) (W (dnH (z 3) c) + W c) else W) (gS (z 3) (z 4) W F c)) := by
  unfold F_X4_pass
  rw [Zgd_t (by omega), Ztwo_k (k := 4) (by decide) (by decide)]
  have no : ¬ (0 < z 4 c ∧ z 4 c ≤ W c) → X4_pass_b31 (Ztwo z 9 10 W F) c (dnH (z 3) c) = some ((), Ztwo z 9 10 (if 0 ≤ dnH (z 3) c then fupd W (dnH (z 3) c) (W (dnH (z 3) c) + W c) else W) (gS (z 3) (z 4) W F c)) := by
    intro n
    rw [x_pass31 hc hF hd]
    have : own1 (z 4) W F c = F := if_neg n
    unfold gS
    rw [this]
  by_cases a : z 4 c ≤ 0
  · rw [if_pos a]
    exact no (by omega)
  · rw [if_neg a, Zgd_t (by omega), Zgd_t (by omega), Ztwo_a]
    by_cases b : W c < z 4 c
    · rw [if_pos b]
      exact no (by omega)
    · rw [if_neg b, Zgd_t (by omega), Zl_eq, Ztwo_ub (by decide), x_pass31 hc (fun x h0 h1 => by
        unfold fupd
        split
        · exact Or.inr rfl
        · exact hF x h0 h1) hd]
      have : own1 (z 4) W F c = fupd F c 1 := if_pos (by omega)
      unfold gS
      rw [this]
theorem Dr_x {z : ZI} (hE : JE z) {s c : Int} (hc : 0 ≤ c ∧ c < 144) : (Dr z s c = 0 ∧ (z 5 c = -9 ∨ (z 5 c ≠ -9 ∧ jand (jshr s (z 5 c)) 1 ≠ 1))) ∨ (Dr z s c = 1 ∧ z 5 c ≠ -9 ∧ jand (jshr s (z 5 c)) 1 = 1) := by
  have e := hE.2.2.2.2.2 c hc.1 hc.2
  unfold Dr bitT
  rw [← e]
  by_cases q : z 5 c = -9
  · rw [if_neg (fun r => r.1 q)]
    exact Or.inl ⟨rfl, Or.inl q⟩
  · by_cases r : jand (jshr s (z 5 c)) 1 = 1
    · rw [if_pos ⟨q, r⟩]
      exact Or.inr ⟨rfl, q, r⟩
    · rw [if_neg (fun t => r t.2)]
      exact Or.inl ⟨rfl, Or.inr ⟨q, r⟩⟩
theorem x_pour_L {z : ZI} {s r : Int} (hE : JE z) (hb : ∀ c : Int, 0 ≤ c → c < 144 → z 6 c = dnH (z 3) c) (ho : ordH (z 3) (z 7)) (hr : 0 ≤ r ∧ r ≤ 999) : ∀ (n k fu : Nat) (W F : Int → Int), k + n = 144 → n < fu → (∀ c : Int, 0 ≤ c → c < 144 → W c = pR (z 3) (Dr z s) (z 7) r k c ∧ F c = gR (z 3) (Dr z s) (z 7) (z 4) r k c) → ∃ W2 F2, X4_pour_L35 fu (Ztwo z 9 10 W F) s k = some ((), Ztwo z 9 10 W2 F2) ∧ (∀ c : Int, 0 ≤ c → c < 144 → W2 c = pR (z 3) (Dr z s) (z 7) r 144 c ∧ F2 c = gR (z 3) (Dr z s) (z 7) (z 4) r 144 c) := by
  intro n
  induction n with
  | zero =>
    intro k fu W F hk hf h
    obtain ⟨fu, rfl⟩ : ∃ g, fu = g + 1 := ⟨fu - 1, by omega⟩
    obtain rfl : k = 144 := by omega
    refine ⟨W, F, ?_, h⟩
    show X4_pour_L35b (X4_pour_L35 fu) _ _ _ = _
    unfold X4_pour_L35b
    rw [if_pos (by decide)]
  | succ n ih =>
    intro k fu W F hk hf h
    obtain ⟨fu, rfl⟩ : ∃ g, fu = g + 1 := ⟨fu - 1, by omega⟩
    have hc := ho.1 k (by omega) (by omega)
    have e0 : X4_pour_L35 (fu + 1) (Ztwo z 9 10 W F) s k = X4_pour_L35b (X4_pour_L35 fu) (Ztwo z 9 10 W F) s k := rfl
    have b102 : ∀ W F, X4_pour_b102 (X4_pour_L35 fu) (Ztwo z 9 10 W F) s k = X4_pour_L35 fu (Ztwo z 9 10 W F) s ((k + 1 : Nat) : Int) := by
      intro W F
      unfold X4_pour_b102
      rw [Zgd_t (by omega), show (k : Int) + 1 = ((k + 1 : Nat) : Int) by omega]
    rw [e0]
    unfold X4_pour_L35b X4_pour_b81 X4_pour_b82
    rw [if_neg (by omega), Zgd_t (by omega), Ztwo_k (k := 7) (by decide) (by decide), Zgd_t (by omega), Ztwo_k (k := 5) (by decide) (by decide)]
    have pass : Dr z s (z 7 k) = 0 → ∃ W2 F2, (Zgd (IJ (z 7 k) 144) (Yb (F_X4_pass (Ztwo z 9 10 W F) (z 7 k) ((Ztwo z 9 10 W F) 6 (z 7 k))) fun _ z3_ => X4_pour_b102 (X4_pour_L35 fu) z3_ s k)) = some ((), Ztwo z 9 10 W2 F2) ∧ (∀ c : Int, 0 ≤ c → c < 144 → W2 c = pR (z 3) (Dr z s) (z 7) r 144 c ∧ F2 c = gR (z 3) (Dr z s) (z 7) (z 4) r 144 c) := by
      intro hD
      have e6 : (Ztwo z 9 10 W F) 6 (z 7 k) = dnH (z 3) (z 7 k) := hb (z 7 k) hc.1 hc.2
      have dr := dnH_r (z 3) hc
      have hF : ∀ x : Int, 0 ≤ x → x < 144 → F x = 0 ∨ F x = 1 := fun x x0 x1 => by
        rw [(h x x0 x1).2]
        exact gR_01 k x
      have hd : dnH (z 3) (z 7 k) = -9 ∨ (0 ≤ dnH (z 3) (z 7 k) ∧ dnH (z 3) (z 7 k) < 144 ∧ InR (W (dnH (z 3) (z 7 k)) + W (z 7 k))) := by
        rcases dr with q | q
        · exact Or.inl q
        · have p2 := pR_2 (D := Dr z s) (rain := r) ho hr.1 (i := k) (by omega) q.1
          right
          refine ⟨q.1, q.2, ?_⟩
          rw [(h _ q.1 q.2).1, (h _ hc.1 hc.2).1]
          omega
      have e9 := x_pass (z := z) (W := W) (F := F) (c := z 7 k) hc hF hd
      rw [Zgd_t (by omega), e6, e9, Yb_some, b102]
      refine ih (k + 1) fu _ _ (by omega) (by omega) (fun c c0 c1 => ⟨?_, ?_⟩)
      · by_cases q : 0 ≤ dnH (z 3) (z 7 k)
        · rw [if_pos q, pR_t ⟨hD, q⟩]
          unfold fupd
          rw [(h _ hc.1 hc.2).1, (h _ q (by omega)).1, (h c c0 c1).1]
        · rw [if_neg q, pR_f (fun t => q t.2)]
          exact (h c c0 c1).1
      · rw [gR_t hD]
        exact gS_c hc (h _ hc.1 hc.2).1 (fun x x0 x1 => (h x x0 x1).2) c c0 c1
    rcases Dr_x hE (s := s) hc with ⟨hD, q⟩ | ⟨hD, q1, q2⟩
    · rcases q with q | ⟨q1, q2⟩
      · rw [if_pos q, if_pos rfl]
        exact pass hD
      · rw [if_neg q1, Zgd_t (by omega), if_neg q2, if_pos rfl]
        exact pass hD
    · rw [if_neg q1, Zgd_t (by omega), if_pos q2, if_neg (by decide), b102]
      refine ih (k + 1) fu _ _ (by omega) (by omega) (fun c c0 c1 => ⟨?_, ?_⟩)
      · rw [pR_f (fun t => by rw [t.1] at hD; omega)]
        exact (h c c0 c1).1
      · rw [gR_f (by omega)]
        exact (h c c0 c1).2
theorem x_pour0_L {z : ZI} {s r : Int} : ∀ (n k fu : Nat) (W F : Int → Int), k + n = 144 → n < fu → (∀ c : Int, 0 ≤ c → c < k → W c = r ∧ F c = 0) → ∃ W2 F2, X4_pour_L6 fu (Ztwo z 9 10 W F) r s k = X4_pour_b33 (Ztwo z 9 10 W2 F2) s ∧ (∀ c : Int, 0 ≤ c → c < 144 → W2 c = r ∧ F2 c = 0) := by
  intro n
  induction n with
  | zero =>
    intro k fu W F hk hf h
    obtain ⟨fu, rfl⟩ : ∃ g, fu = g + 1 := ⟨fu - 1, by omega⟩
    obtain rfl : k = 144 := by omega
    refine ⟨W, F, ?_, h⟩
    show X4_pour_L6b (X4_pour_L6 fu) _ _ _ _ = _
    unfold X4_pour_L6b
    rw [if_pos (by decide)]
  | succ n ih =>
    intro k fu W F hk hf h
    obtain ⟨fu, rfl⟩ : ∃ g, fu = g + 1 := ⟨fu - 1, by omega⟩
    have e0 : X4_pour_L6 (fu + 1) (Ztwo z 9 10 W F) r s k = X4_pour_L6b (X4_pour_L6 fu) (Ztwo z 9 10 W F) r s k := rfl
    rw [e0]
    unfold X4_pour_L6b
    rw [if_neg (by omega), Zgd_t (by omega), Zl_eq, Ztwo_ua, Zgd_t (by omega), Zl_eq, Ztwo_ub (by decide), Zgd_t (by omega), show (k : Int) + 1 = ((k + 1 : Nat) : Int) by omega]
    refine ih (k + 1) fu _ _ (by omega) (by omega) (fun c c0 c1 => ?_)
    unfold fupd
    by_cases q : c = k
    · rw [if_pos q, if_pos q]; exact ⟨rfl, rfl⟩
    · rw [if_neg q, if_neg q]; exact h c c0 (by omega)
theorem dn_L {z : ZI} (hL : JL z) : ∀ c : Int, 0 ≤ c → c < 144 → dnH (z 3) c = dnH (z 70) c := fun c h0 h1 => dnH_c (fun x a b => (hL x a b).1) ⟨h0, h1⟩
theorem ht_L {z : ZI} (hL : JL z) : ∀ c : Int, 0 ≤ c → c < 144 → 0 ≤ z 70 c ∧ z 70 c ≤ 99 := fun c h0 h1 => (hL c h0 h1).2
theorem WS_w {z : ZI} (s r : Int) : isWtr (z 70) (Dr z s) r (WS z s r) := pR_w (hgR_o _ _)
theorem WS_0 {z : ZI} (s : Int) {r : Int} (hr : 0 ≤ r) (c : Int) : 0 ≤ WS z s r c := (pR_b (hgR_o _ _) hr 144 (Nat.le_refl _)).1 c
theorem FS_f {z : ZI} (s r : Int) : isFl (z 70) (Dr z s) (fun c => Dr z s c = 0 ∧ 0 < z 4 c ∧ z 4 c ≤ WS z s r c) (FS z s r) := gR_fl (hgR_o _ _)
theorem JV_o {y : ZI} (h : JV y) (h1 : y 2 8 = 1) : (∀ c : Int, 0 ≤ c → c < 144 → y 6 c = dnH (y 3) c) ∧ ordH (y 3) (y 7) := by
  rcases h with q | ⟨-, q1, q2, q3, q4⟩
  · omega
  · exact ⟨q1, q2, fun i j i0 ij j1 e => by
      have := q3 i j i0 (by omega) (by omega) j1 e
      omega, q4⟩
theorem x_pour {z : ZI} {s r : Int} (hL : JL z) (hV : JV z) (hE : JE z) (hr : 0 ≤ r ∧ r ≤ 999) : ∃ y, F_X4_pour z r s = some ((), y) ∧ FrP z y ∧ JV y ∧ ∀ c : Int, 0 ≤ c → c < 144 → y 9 c = WS z s r c ∧ y 10 c = FS z s r c := by
  obtain ⟨y1, a1, a2, a3, a4⟩ := x_level hL hV
  obtain ⟨o1, o2⟩ := JV_o a3 a4
  have e3 : y1 3 = z 3 := a2.k (by decide) (by decide) (by decide) (by decide) (by decide) (by decide)
  have e4 : y1 4 = z 4 := a2.k (by decide) (by decide) (by decide) (by decide) (by decide) (by decide)
  have eD : ∀ s, Dr y1 s = Dr z s := by
    intro s
    rw [a2.eq]
    rfl
  have hE1 : JE y1 := by
    rw [a2.eq]
    exact (JE_c rfl rfl rfl rfl hE)
  obtain ⟨W1, F1, b1, b2⟩ := x_pour0_L (z := y1) (s := s) (r := r) 144 0 Zfuel (y1 9) (y1 10) (by decide) (by unfold Zfuel; omega) (fun c c0 c1 => by omega)
  obtain ⟨W2, F2, d1, d2⟩ := x_pour_L (z := y1) (s := s) (r := r) hE1 o1 o2 hr 144 0 Zfuel W1 F1 (by decide) (by unfold Zfuel; omega) b2
  have b1 : X4_pour_L6 Zfuel (Ztwo y1 9 10 (y1 9) (y1 10)) r s 0 = X4_pour_b33 (Ztwo y1 9 10 W1 F1) s := b1
  have d1 : X4_pour_b33 (Ztwo y1 9 10 W1 F1) s = some ((), Ztwo y1 9 10 W2 F2) := d1
  rw [Ztwo_z] at b1
  refine ⟨Ztwo y1 9 10 W2 F2, ?_, a2.tr (FrP_2 (by decide) (by decide)), a3, fun c c0 c1 => ?_⟩
  · unfold F_X4_pour
    rw [a1, Yb_some, b1, d1]
  · rw [e3, eD, e4] at d2
    rw [e3] at o2
    rw [Ztwo_a, Ztwo_b (by decide)]
    have dn := dn_L hL
    have hh := ht_L hL
    have w1 : isWtr (z 70) (Dr z s) r W2 := isWtr_c dn (fun c a b => (d2 c a b).1) (pR_w o2)
    have w0 : ∀ c : Int, 0 ≤ c → c < 144 → 0 ≤ W2 c := fun c a b => by
      rw [(d2 c a b).1]
      exact (pR_b o2 hr.1 144 (Nat.le_refl _)).1 c
    have eW : ∀ c : Int, 0 ≤ c → c < 144 → W2 c = WS z s r c := fun c a b => wtr_un hh w1 (WS_w s r) w0 (fun c _ _ => WS_0 s hr.1 c) ⟨a, b⟩
    have f1 : isFl (z 70) (Dr z s) _ F2 := isFl_c dn (fun c a b => (d2 c a b).2) (gR_fl (lw := z 4) (rain := r) o2)
    refine ⟨eW c c0 c1, fl_un hh f1 (FS_f s r) (fun x a b => ?_) ⟨c0, c1⟩⟩
    rw [← eW x a b, (d2 x a b).1]
theorem x_fouls_L {z : ZI} {f : Int → Int} (hn : 0 ≤ z 41 0 ∧ z 41 0 ≤ 6) (hc : ∀ w : Int, 0 ≤ w → w < z 41 0 → 0 ≤ z 42 w ∧ z 42 w < 144) (hf : ∀ c : Int, 0 ≤ c → c < 144 → z 10 c = 0 ∨ z 10 c = 1) : ∀ (n k fu : Nat), k + n = (z 41 0).toNat → n < fu → X9_foulOnes_L12 fu z (fwR (z 10) (z 42) k) k = some (fwR (z 10) (z 42) (z 41 0).toNat, z) := by
  intro n
  induction n with
  | zero =>
    intro k fu hk hfu
    obtain ⟨fu, rfl⟩ : ∃ g, fu = g + 1 := ⟨fu - 1, by omega⟩
    obtain rfl : k = (z 41 0).toNat := by omega
    show X9_foulOnes_L12b (X9_foulOnes_L12 fu) _ _ _ = _
    unfold X9_foulOnes_L12b
    rw [if_pos (by omega)]
  | succ n ih =>
    intro k fu hk hfu
    obtain ⟨fu, rfl⟩ : ∃ g, fu = g + 1 := ⟨fu - 1, by omega⟩
    have i := ih (k + 1) fu (by omega) (by omega)
    have c := hc k (by omega) (by omega)
    have v := hf _ c.1 c.2
    have u : fwR (z 10) (z 42) (k + 1) = if z 10 (z 42 k) = 0 then fwR (z 10) (z 42) k else jor (fwR (z 10) (z 42) k) (jshl 1 k) := rfl
    rw [u] at i
    show X9_foulOnes_L12b (X9_foulOnes_L12 fu) _ _ _ = _
    unfold X9_foulOnes_L12b X9_foulOnes_b44 F_X4_isFoul
    rw [if_neg (by omega), Zgd_t (by omega), Zgd_t (by omega), Zgd_t v, Yb_some]
    by_cases q : z 10 (z 42 k) = 0
    · rw [if_pos q] at i
      rw [if_pos q, Zgd_t (by omega), show (k : Int) + 1 = ((k + 1 : Nat) : Int) by omega]
      exact i
    · rw [if_neg q] at i
      rw [if_neg q, Zgd_t (by omega), show (k : Int) + 1 = ((k + 1 : Nat) : Int) by omega]
      exact i
theorem fwR_c {f g a b : Int → Int} : ∀ n : Nat, (∀ w : Int, 0 ≤ w → w < n → f (a w) = g (b w)) → fwR f a n = fwR g b n
  | 0, _ => rfl
  | n + 1, h => by
    have i := fwR_c n (fun w h0 h1 => h w h0 (by omega))
    have q := h n (by omega) (by omega)
    unfold fwR
    rw [i, q]
theorem FS_01 {z : ZI} (s r c : Int) : FS z s r c = 0 ∨ FS z s r c = 1 := gR_01 144 c
theorem x_foulOnes {z : ZI} {s r : Int} (hL : JL z) (hV : JV z) (hE : JE z) (hW : JW z) (hr : 0 ≤ r ∧ r ≤ 999) : ∃ y, F_X9_foulOnes z r s = some (fS z s r, y) ∧ FrP z y ∧ JV y := by
  obtain ⟨y, a1, a2, a3, a4⟩ := x_pour (s := s) hL hV hE hr
  obtain ⟨w1, w2, w3, w4, -⟩ := hW
  have e41 : y 41 = z 41 := a2.k (by decide) (by decide) (by decide) (by decide) (by decide) (by decide)
  have e42 : y 42 = z 42 := a2.k (by decide) (by decide) (by decide) (by decide) (by decide) (by decide)
  have l := x_fouls_L (z := y) (f := y 10) (by rw [e41, w1]; exact ⟨w2, w3⟩) (fun w q0 q1 => by
    rw [e41, w1] at q1
    rw [e42]
    have := w4 w q0 q1
    omega) (fun c c0 c1 => by
    rw [(a4 c c0 c1).2]
    exact FS_01 s r c) (z 68 47).toNat 0 Zfuel (by rw [e41, w1]; omega) (by unfold Zfuel; omega)
  have l : X9_foulOnes_L12 Zfuel y 0 0 = some (fwR (y 10) (y 42) (y 41 0).toNat, y) := l
  refine ⟨y, ?_, a2, a3⟩
  unfold F_X9_foulOnes
  rw [a1, Yb_some, l, e41, e42, w1]
  have : fwR (y 10) (z 42) (z 68 47).toNat = fS z s r := fwR_c _ (fun w q0 q1 => by
    have q := w4 w q0 (by omega)
    rw [q.1]
    exact (a4 _ q.2.1 q.2.2.1).2)
  rw [this]
