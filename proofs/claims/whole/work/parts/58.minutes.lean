/-! fire: minutes -/
def wtS (w d : Int) : Int := if d = w then 1 else if d = (w + 2) % 4 then 4 else 2
def FARS : Int := 1000000
def encC (n : Int) (c L : Int → Int) : Prop := ∀ v : Int, 0 ≤ v → v < n → (c v = -9 ∧ L v = 1000000) ∨ (c v = L v ∧ 0 ≤ L v ∧ L v < 1000000)
def bdL (n M : Int) (L : Int → Int) : Prop := ∀ v : Int, 0 ≤ v → v < n → L v = 1000000 ∨ (0 ≤ L v ∧ L v ≤ M)
theorem wtS_r (w d : Int) : 1 ≤ wtS w d ∧ wtS w d ≤ 4 := by
  unfold wtS
  repeat' split
  all_goals omega
theorem rlx_bd {n M : Int} {nx : Int → Int → Int} {w u d : Int} {p : (Int → Int) × Int} (hM : M + 4 < 1000000) (hu : 0 ≤ u ∧ u < n) (hx : nx u d = -9 ∨ (0 ≤ nx u d ∧ nx u d < n)) (h : bdL n M p.1) : bdL n (M + 4) (rlx nx (wtS w) u d p).1 := by
  have wr := wtS_r w d
  intro v v0 v1
  unfold rlx
  by_cases c : 0 ≤ nx u d ∧ p.1 u + wtS w d < p.1 (nx u d)
  · rw [if_pos c]
    show fupd p.1 (nx u d) (p.1 u + wtS w d) v = 1000000 ∨ _
    unfold fupd
    by_cases e : v = nx u d
    · rw [if_pos e]
      have a := h u hu.1 hu.2
      have b := h (nx u d) c.1 (by omega)
      have : (0 ≤ p.1 u + wtS w d ∧ p.1 u + wtS w d ≤ M + 4) := by omega
      right
      show 0 ≤ (if v = nx u d then p.1 u + wtS w d else p.1 v) ∧ (if v = nx u d then p.1 u + wtS w d else p.1 v) ≤ M + 4
      rw [if_pos e]
      exact this
    · rw [if_neg e]
      have := h v v0 v1
      show p.1 v = 1000000 ∨ (0 ≤ (if v = nx u d then p.1 u + wtS w d else p.1 v) ∧ (if v = nx u d then p.1 u + wtS w d else p.1 v) ≤ M + 4)
      rw [if_neg e]
      omega
  · rw [if_neg c]
    have := h v v0 v1
    omega
theorem sidR_bd {n M : Int} {nx : Int → Int → Int} {w u : Int} {p : (Int → Int) × Int} (hM : M + 16 < 1000000) (hu : 0 ≤ u ∧ u < n) (hx : ∀ d : Int, 0 ≤ d → d < 4 → nx u d = -9 ∨ (0 ≤ nx u d ∧ nx u d < n)) (h : bdL n M p.1) : ∀ d : Nat, d ≤ 4 → bdL n (M + 4 * d) (sidR nx (wtS w) u d p).1
  | 0, _ => by
    have e : M + 4 * ((0 : Nat) : Int) = M := by omega
    rw [e]
    exact h
  | d + 1, hd => by
    have i := sidR_bd (w := w) hM hu hx h d (by omega)
    have j := rlx_bd (nx := nx) (w := w) (u := u) (d := (d : Int)) (M := M + 4 * d) (by omega) hu (hx d (by omega) (by omega)) i
    have e : M + 4 * ((d + 1 : Nat) : Int) = M + 4 * d + 4 := by omega
    rw [e]
    exact j
theorem rndR_bd {n : Nat} {M : Int} {nx : Int → Int → Int} {w : Int} {p : (Int → Int) × Int} (hM : M + 16 * n < 1000000) (hx : ∀ u d : Int, 0 ≤ u → u < n → 0 ≤ d → d < 4 → nx u d = -9 ∨ (0 ≤ nx u d ∧ nx u d < n)) (h : bdL n M p.1) : ∀ u : Nat, u ≤ n → bdL n (M + 16 * u) (rndR nx (wtS w) u p).1
  | 0, _ => by
    have e : M + 16 * ((0 : Nat) : Int) = M := by omega
    rw [e]
    exact h
  | u + 1, hu => by
    have i := rndR_bd (w := w) hM hx h u (by omega)
    have j := sidR_bd (nx := nx) (w := w) (u := (u : Int)) (M := M + 16 * u) (by omega) (by omega) (fun d d0 d1 => hx u d (by omega) (by omega) d0 d1) i 4 (Nat.le_refl _)
    have e : M + 16 * ((u + 1 : Nat) : Int) = M + 16 * u + 4 * ((4 : Nat) : Int) := by omega
    rw [e]
    exact j
/-- the mark of a step behind an earlier one -/
theorem sidR_f (nx : Int → Int → Int) (wt : Int → Int) (u : Int) (L : Int → Int) (f : Int) : ∀ d : Nat, sidR nx wt u d (L, f) = ((sidR nx wt u d (L, 0)).1, if (sidR nx wt u d (L, 0)).2 = 0 then f else 1)
  | 0 => rfl
  | d + 1 => by
    have i := sidR_f nx wt u L f d
    have e1 : ∀ p, sidR nx wt u (d + 1) p = rlx nx wt u d (sidR nx wt u d p) := fun _ => rfl
    rw [e1, e1, i]
    generalize sidR nx wt u d (L, 0) = q
    unfold rlx
    by_cases c : 0 ≤ nx u d ∧ q.1 u + wt d < q.1 (nx u d)
    · rw [if_pos c, if_pos c]
      rfl
    · rw [if_neg c, if_neg c]
theorem sidR_far {n : Nat} {nx : Int → Int → Int} {w u : Int} {p : (Int → Int) × Int} (hx : ∀ d : Int, 0 ≤ d → d < 4 → nx u d = -9 ∨ (0 ≤ nx u d ∧ nx u d < n)) (h : ∀ v : Int, 0 ≤ v → v < n → p.1 v ≤ 1000000) (hf : 1000000 ≤ p.1 u) : ∀ d : Nat, d ≤ 4 → sidR nx (wtS w) u d p = p
  | 0, _ => rfl
  | d + 1, hd => by
    have i := sidR_far (w := w) hx h hf d (by omega)
    have e : sidR nx (wtS w) u (d + 1) p = rlx nx (wtS w) u d (sidR nx (wtS w) u d p) := rfl
    rw [e, i]
    unfold rlx
    refine if_neg (fun c => ?_)
    have wr := wtS_r w d
    have := hx d (by omega) (by omega)
    have := h (nx u d) c.1 (by omega)
    omega
theorem bdL_le {n M : Int} {L : Int → Int} (hM : M < 1000000) (h : bdL n M L) : ∀ v : Int, 0 ≤ v → v < n → L v ≤ 1000000 := fun v v0 v1 => by
  have := h v v0 v1
  omega
theorem x_stepM {z : ZI} {d w : Int} (hw : 0 ≤ w ∧ w ≤ 3) : F_X2_stepMinutes z d w = some (wtS w d, z) := by
  have tm : (w + 2).tmod 4 = (w + 2) % 4 := Int.tmod_eq_emod_of_nonneg (by omega)
  unfold F_X2_stepMinutes X2_stepMinutes_b21 wtS
  rw [tm]
  by_cases c : d = w
  · rw [if_pos c, if_pos c]
  · rw [if_neg c, if_neg c, Zgd_t (by omega)]
    by_cases c2 : d = (w + 2) % 4
    · rw [if_pos c2, if_pos c2]
    · rw [if_neg c2, if_neg c2]
section
variable {z : ZI} {s w : Int} {n : Nat}
theorem x_spread_L (hH : JH z) (hX : JX z) (hn : z 68 12 = n) (hw : 0 ≤ w ∧ w ≤ 3) {u : Int} (hu : 0 ≤ u ∧ u < n) {L : Int → Int} {M : Int} (hb : bdL n M L) (hM : 0 ≤ M ∧ M + 16 < 1000000) (hL : L u < 1000000) : ∀ (m k fu : Nat) (c : Int → Int), k + m = 4 → m < fu → encC n c (sidR (nxF z s) (wtS w) u k (L, 0)).1 → ∃ c2, X2_spread_L6 fu (Zro z 56 c) u w s (sidR (nxF z s) (wtS w) u k (L, 0)).2 k = some ((sidR (nxF z s) (wtS w) u 4 (L, 0)).2, Zro z 56 c2) ∧ encC n c2 (sidR (nxF z s) (wtS w) u 4 (L, 0)).1 := by
  have h30 := hH.2.1
  have hx : ∀ u d : Int, 0 ≤ u → u < n → 0 ≤ d → d < 4 → nxF z s u d = -9 ∨ (0 ≤ nxF z s u d ∧ nxF z s u d < n) := fun u d _ _ _ _ => by
    have := nxF_b hH s u d
    omega
  intro m
  induction m with
  | zero =>
    intro k fu c hk hf he
    obtain ⟨fu, rfl⟩ : ∃ g, fu = g + 1 := ⟨fu - 1, by omega⟩
    obtain rfl : k = 4 := by omega
    refine ⟨c, ?_, he⟩
    have fl : (sidR (nxF z s) (wtS w) u 4 (L, 0)).2 = 0 ∨ (sidR (nxF z s) (wtS w) u 4 (L, 0)).2 = 1 := by
      have := (sidR_lt (n := n) (wt := wtS w) hx hu 4 (Nat.le_refl _) (L, 0)).2
      rcases this with q | q
      · rw [q]; exact Or.inl rfl
      · exact Or.inr q.1
    show X2_spread_L6b (X2_spread_L6 fu) _ _ _ _ _ _ = _
    unfold X2_spread_L6b
    rw [if_pos (by decide), Zgd_t fl]
  | succ m ih =>
    intro k fu c hk hf he
    obtain ⟨fu, rfl⟩ : ∃ g, fu = g + 1 := ⟨fu - 1, by omega⟩
    have e1 : sidR (nxF z s) (wtS w) u (k + 1) (L, 0) = rlx (nxF z s) (wtS w) u k (sidR (nxF z s) (wtS w) u k (L, 0)) := rfl
    have lt := (sidR_lt (n := n) (wt := wtS w) hx hu k (by omega) (L, 0)).1 u
    have lt : (sidR (nxF z s) (wtS w) u k (L, 0)).1 u ≤ L u := lt
    have bd := sidR_bd (w := w) (by omega : M + 16 < 1000000) hu (fun d d0 d1 => hx u d hu.1 hu.2 d0 d1) (p := (L, 0)) hb k (by omega)
    have i := ih (k + 1) fu
    rw [e1] at i
    generalize sidR (nxF z s) (wtS w) u k (L, 0) = P at *
    have eu := he u hu.1 hu.2
    have wr := wtS_r w k
    have b85 : ∀ (c' : Int → Int) (f : Int), X2_spread_b85 (X2_spread_L6 fu) (Zro z 56 c') u w s f k = X2_spread_L6 fu (Zro z 56 c') u w s f ((k + 1 : Nat) : Int) := by
      intro c' f
      unfold X2_spread_b85
      rw [Zgd_t (by omega), show (k : Int) + 1 = ((k + 1 : Nat) : Int) by omega]
    have en := x_next2 (z := Zro z 56 c) (s := s) (h := u) (d := k) (JH_c rfl rfl rfl rfl rfl rfl rfl hH) (JX_c rfl rfl rfl rfl rfl hX) (by show 0 ≤ u ∧ u < z 68 12; omega)
    have en2 : nxF (Zro z 56 c) s u k = nxF z s u k := rfl
    rw [en2] at en
    have e0 : X2_spread_L6 (fu + 1) (Zro z 56 c) u w s P.2 k = X2_spread_L6b (X2_spread_L6 fu) (Zro z 56 c) u w s P.2 k := rfl
    have xr := hx u k hu.1 hu.2 (by omega) (by omega)
    rw [e0]
    unfold X2_spread_L6b
    rw [if_neg (by omega), en, Yb_some]
    by_cases q : nxF z s u k = -9
    · have er : rlx (nxF z s) (wtS w) u k P = P := if_neg (fun t => by omega)
      rw [er] at i
      rw [if_pos q, b85]
      exact i c (by omega) (by omega) he
    · have ev := he (nxF z s u k) (by omega) (by omega)
      have bu := bd u hu.1 hu.2
      rw [if_neg q, Zgd_t (by omega), x_stepM hw, Yb_some, Zro_s, Zgd_t (by omega), Zgd_t (by omega)]
      have upd : 0 ≤ nxF z s u k ∧ P.1 u + wtS w k < P.1 (nxF z s u k) → ∃ c2, X2_spread_b73 (X2_spread_L6 fu) (Zro z 56 c) u w s k (nxF z s u k) (c u + wtS w k) = some ((sidR (nxF z s) (wtS w) u 4 (L, 0)).2, Zro z 56 c2) ∧ encC n c2 (sidR (nxF z s) (wtS w) u 4 (L, 0)).1 := by
        intro t
        have er : rlx (nxF z s) (wtS w) u k P = (fupd P.1 (nxF z s u k) (P.1 u + wtS w k), 1) := if_pos t
        rw [er] at i
        unfold X2_spread_b73
        rw [Zgd_t (by omega), Zl_eq, Zro_u, b85]
        refine i _ (by omega) (by omega) (fun v v0 v1 => ?_)
        show (fupd c (nxF z s u k) (c u + wtS w k) v = -9 ∧ fupd P.1 (nxF z s u k) (P.1 u + wtS w k) v = 1000000) ∨ (fupd c (nxF z s u k) (c u + wtS w k) v = fupd P.1 (nxF z s u k) (P.1 u + wtS w k) v ∧ 0 ≤ fupd P.1 (nxF z s u k) (P.1 u + wtS w k) v ∧ fupd P.1 (nxF z s u k) (P.1 u + wtS w k) v < 1000000)
        by_cases e : v = nxF z s u k
        · have e2 : fupd c (nxF z s u k) (c u + wtS w k) v = c u + wtS w k := if_pos e
          have e3 : fupd P.1 (nxF z s u k) (P.1 u + wtS w k) v = P.1 u + wtS w k := if_pos e
          rw [e2, e3]
          omega
        · have e2 : fupd c (nxF z s u k) (c u + wtS w k) v = c v := if_neg e
          have e3 : fupd P.1 (nxF z s u k) (P.1 u + wtS w k) v = P.1 v := if_neg e
          rw [e2, e3]
          exact he v v0 v1
      by_cases r : c (nxF z s u k) = -9
      · rw [if_pos r]
        exact upd ⟨by omega, by omega⟩
      · rw [if_neg r, Zgd_t (by omega)]
        by_cases t : c (nxF z s u k) ≤ c u + wtS w k
        · have er : rlx (nxF z s) (wtS w) u k P = P := if_neg (fun t => by omega)
          rw [er] at i
          rw [if_pos t, b85]
          exact i c (by omega) (by omega) he
        · rw [if_neg t]
          exact upd ⟨by omega, by omega⟩
theorem x_round_L (hH : JH z) (hX : JX z) (hn : z 68 12 = n) (hw : 0 ≤ w ∧ w ≤ 3) {L : Int → Int} {M to rd : Int} {k45 : ZI → Int → Int → Int → Int → Int → Option (Int × ZI)} (hb : bdL n M L) (hM : 0 ≤ M ∧ M + 16 * n + 20 < 1000000) : ∀ (m k fu : Nat) (c : Int → Int), k + m = n → m < fu → encC n c (rndR (nxF z s) (wtS w) k (L, 0)).1 → ∃ c2, X2_minutesTo_L65 k45 fu (Zro z 56 c) to w s (rndR (nxF z s) (wtS w) k (L, 0)).2 rd k = X2_minutesTo_b109 k45 (Zro z 56 c2) to w s (rndR (nxF z s) (wtS w) n (L, 0)).2 rd ∧ encC n c2 (rndR (nxF z s) (wtS w) n (L, 0)).1 := by
  have h30 := hH.2.1
  have hh : z 11 0 = n := hH.2.2.1.trans hn
  have hx : ∀ u d : Int, 0 ≤ u → u < n → 0 ≤ d → d < 4 → nxF z s u d = -9 ∨ (0 ≤ nxF z s u d ∧ nxF z s u d < n) := fun u d _ _ _ _ => by
    have := nxF_b hH s u d
    omega
  intro m
  induction m with
  | zero =>
    intro k fu c hk hf he
    obtain ⟨fu, rfl⟩ : ∃ g, fu = g + 1 := ⟨fu - 1, by omega⟩
    obtain rfl : k = n := by omega
    refine ⟨c, ?_, he⟩
    show X2_minutesTo_L65b k45 (X2_minutesTo_L65 k45 fu) _ _ _ _ _ _ _ = _
    unfold X2_minutesTo_L65b
    rw [Zro_k (k := 11) (by decide), if_pos (by omega)]
  | succ m ih =>
    intro k fu c hk hf he
    obtain ⟨fu, rfl⟩ : ∃ g, fu = g + 1 := ⟨fu - 1, by omega⟩
    have bd := rndR_bd (w := w) (p := (L, 0)) (by omega : M + 16 * n < 1000000) hx hb k (by omega)
    have e1 : rndR (nxF z s) (wtS w) (k + 1) (L, 0) = sidR (nxF z s) (wtS w) k 4 (rndR (nxF z s) (wtS w) k (L, 0)) := rfl
    have i := ih (k + 1) fu
    rw [e1] at i
    generalize rndR (nxF z s) (wtS w) k (L, 0) = P at *
    obtain ⟨PL, Pf⟩ := P
    dsimp only at bd he ⊢
    have b103 : ∀ (c' : Int → Int) (f : Int), X2_minutesTo_b103 k45 (X2_minutesTo_L65 k45 fu) (Zro z 56 c') to w s f rd k = X2_minutesTo_L65 k45 fu (Zro z 56 c') to w s f rd ((k + 1 : Nat) : Int) := by
      intro c' f
      unfold X2_minutesTo_b103
      rw [Zgd_t (by omega), show (k : Int) + 1 = ((k + 1 : Nat) : Int) by omega]
    have e0 : X2_minutesTo_L65 k45 (fu + 1) (Zro z 56 c) to w s Pf rd k = X2_minutesTo_L65b k45 (X2_minutesTo_L65 k45 fu) (Zro z 56 c) to w s Pf rd k := rfl
    have ek := he k (by omega) (by omega)
    rw [e0]
    unfold X2_minutesTo_L65b
    rw [Zro_k (k := 11) (by decide), if_neg (by omega), Zgd_t (by omega), Zro_s]
    by_cases q : c k = -9
    · have es : sidR (nxF z s) (wtS w) k 4 (PL, Pf) = (PL, Pf) := sidR_far (n := n) (fun d d0 d1 => hx k d (by omega) (by omega) d0 d1) (bdL_le (M := M + 16 * k) (by omega) bd) (by show 1000000 ≤ PL k; omega) 4 (Nat.le_refl _)
      rw [es] at i
      rw [if_pos q, b103]
      exact i c (by omega) (by omega) he
    · obtain ⟨c2, a1, a2⟩ := x_spread_L (s := s) hH hX hn hw (u := (k : Int)) (by omega) bd (by omega) (by omega) 4 0 Zfuel c (by decide) (by unfold Zfuel; omega) he
      have a1 : F_X2_spread (Zro z 56 c) k w s = some ((sidR (nxF z s) (wtS w) k 4 (PL, 0)).2, Zro z 56 c2) := a1
      rw [sidR_f] at i
      rw [if_neg q, a1, Yb_some]
      by_cases t : (sidR (nxF z s) (wtS w) k 4 (PL, 0)).2 = 0
      · rw [if_pos t, b103]
        rw [if_pos t] at i
        exact i c2 (by omega) (by omega) a2
      · rw [if_neg t, b103]
        rw [if_neg t] at i
        exact i c2 (by omega) (by omega) a2
theorem LR_bd (hH : JH z) (hn : z 68 12 = n) {from_ : Int} : ∀ r : Nat, r ≤ 100 → bdL n (480 * r) (LR (nxF z s) (wtS w) n (fun v => if v = from_ then 0 else 1000000) r)
  | 0, _ => by
    intro v v0 v1
    show (if v = from_ then (0 : Int) else 1000000) = 1000000 ∨ (0 ≤ (if v = from_ then (0 : Int) else 1000000) ∧ (if v = from_ then (0 : Int) else 1000000) ≤ _)
    by_cases e : v = from_
    · rw [if_pos e]; right; omega
    · rw [if_neg e]; left; rfl
  | r + 1, hr => by
    have h30 := hH.2.1
    have i := LR_bd hH hn (from_ := from_) r (by omega)
    have j := rndR_bd (n := n) (w := w) (nx := nxF z s) (p := (LR (nxF z s) (wtS w) n (fun v => if v = from_ then 0 else 1000000) r, 0)) (M := 480 * r) (by omega) (fun u d _ _ _ _ => by
      have := nxF_b hH s u d
      omega) i n (Nat.le_refl _)
    intro v v0 v1
    have := j v v0 v1
    have e : LR (nxF z s) (wtS w) n (fun v => if v = from_ then 0 else 1000000) (r + 1) = (rndR (nxF z s) (wtS w) n (LR (nxF z s) (wtS w) n (fun v => if v = from_ then 0 else 1000000) r, 0)).1 := rfl
    rw [e]
    omega
def mnS (z : ZI) (from_ to w s : Int) : Int := LR (nxF z s) (wtS w) (z 68 12).toNat (fun v => if v = from_ then 0 else 1000000) (z 68 12).toNat to
theorem x_rounds_L (hH : JH z) (hX : JX z) (hn : z 68 12 = n) (hw : 0 ≤ w ∧ w ≤ 3) {from_ to : Int} : ∀ (m r fu : Nat) (c : Int → Int) (f : Int), r + m = n → m < fu → (f = 0 → ∀ k, LR (nxF z s) (wtS w) n (fun v => if v = from_ then 0 else 1000000) (r + k) = LR (nxF z s) (wtS w) n (fun v => if v = from_ then 0 else 1000000) r) → encC n c (LR (nxF z s) (wtS w) n (fun v => if v = from_ then 0 else 1000000) r) → ∃ c2, X2_minutesTo_L45 fu (Zro z 56 c) to w s f r = X2_minutesTo_b115 (Zro z 56 c2) to ∧ encC n c2 (LR (nxF z s) (wtS w) n (fun v => if v = from_ then 0 else 1000000) n) := by
  have h30 := hH.2.1
  have hh : z 11 0 = n := hH.2.2.1.trans hn
  have hx : ∀ u d : Int, 0 ≤ u → u < n → 0 ≤ d → d < 4 → nxF z s u d = -9 ∨ (0 ≤ nxF z s u d ∧ nxF z s u d < n) := fun u d _ _ _ _ => by
    have := nxF_b hH s u d
    omega
  intro m
  induction m with
  | zero =>
    intro r fu c f hk hf hs he
    obtain ⟨fu, rfl⟩ : ∃ g, fu = g + 1 := ⟨fu - 1, by omega⟩
    obtain rfl : r = n := by omega
    refine ⟨c, ?_, he⟩
    show X2_minutesTo_L45b (X2_minutesTo_L45 fu) _ _ _ _ _ _ = _
    unfold X2_minutesTo_L45b
    rw [Zro_k (k := 11) (by decide), if_pos (by omega)]
  | succ m ih =>
    intro r fu c f hk hf hs he
    obtain ⟨fu, rfl⟩ : ∃ g, fu = g + 1 := ⟨fu - 1, by omega⟩
    have e0 : X2_minutesTo_L45 (fu + 1) (Zro z 56 c) to w s f r = X2_minutesTo_L45b (X2_minutesTo_L45 fu) (Zro z 56 c) to w s f r := rfl
    rw [e0]
    unfold X2_minutesTo_L45b
    rw [Zro_k (k := 11) (by decide), if_neg (by omega)]
    by_cases q : f = 0
    · rw [if_pos q]
      have e := hs q (n - r)
      rw [show r + (n - r) = n by omega] at e
      rw [← e] at he
      exact ⟨c, rfl, he⟩
    · rw [if_neg q]
      have bd := LR_bd (s := s) (w := w) hH hn (from_ := from_) r (by omega)
      obtain ⟨c2, a1, a2⟩ := x_round_L (s := s) (to := to) (rd := (r : Int)) (k45 := X2_minutesTo_L45 fu) hH hX hn hw bd (by omega) n 0 Zfuel c (by omega) (by unfold Zfuel; omega) he
      have a1 : X2_minutesTo_L65 (X2_minutesTo_L45 fu) Zfuel (Zro z 56 c) to w s 0 r 0 = _ := a1
      rw [a1]
      unfold X2_minutesTo_b109
      rw [Zgd_t (by omega), show (r : Int) + 1 = ((r + 1 : Nat) : Int) by omega]
      refine ih (r + 1) fu c2 _ (by omega) (by omega) (fun z0 k => ?_) a2
      have fx := LR_fix (wt := wtS w) hx (fun v => if v = from_ then 0 else 1000000) (r := r) z0
      rw [show r + 1 + k = r + (1 + k) by omega, fx, fx 1]
end
theorem x_minutesTo {z : ZI} {from_ to w s : Int} (hH : JH z) (hX : JX z) (hf : 0 ≤ from_ ∧ from_ < z 68 12) (ht : 0 ≤ to ∧ to < z 68 12) (hw : 0 ≤ w ∧ w ≤ 3) : ∃ c, F_X2_minutesTo z from_ to w s = some (if Cl z s from_ = 0 ∧ Cl z s to = 0 then (if mnS z from_ to w s = 1000000 then -9 else mnS z from_ to w s) else -9, Zro z 56 c) := by
  have h30 := hH.2.1
  unfold F_X2_minutesTo X2_minutesTo_b20
  rw [x_cleared hX (by omega), Yb_some]
  by_cases c1 : Cl z s from_ = 0
  · rw [if_pos c1, x_cleared hX (by omega), Yb_some]
    by_cases c2 : Cl z s to = 0
    · rw [if_pos c2, if_pos ⟨c1, c2⟩, x_fill (by decide), Yb_some, Zgd_t (by omega), Zl_eq, Zro_u]
      generalize hc : fupd (fun i => if 0 ≤ i ∧ i < ((30 : Nat) : Int) then -9 else z 56 i) from_ 0 = c0
      obtain ⟨c, a1, a2⟩ := x_rounds_L (s := s) (n := (z 68 12).toNat) (from_ := from_) (to := to) hH hX (by omega) hw (z 68 12).toNat 0 Zfuel c0 1 (by omega) (by unfold Zfuel; omega) (fun e => by omega) (fun v v0 v1 => by
        rw [← hc]
        show (fupd (fun i => if 0 ≤ i ∧ i < ((30 : Nat) : Int) then -9 else z 56 i) from_ 0 v = -9 ∧ (if v = from_ then (0 : Int) else 1000000) = 1000000) ∨ (fupd (fun i => if 0 ≤ i ∧ i < ((30 : Nat) : Int) then -9 else z 56 i) from_ 0 v = (if v = from_ then (0 : Int) else 1000000) ∧ 0 ≤ (if v = from_ then (0 : Int) else 1000000) ∧ (if v = from_ then (0 : Int) else 1000000) < 1000000)
        unfold fupd
        by_cases e : v = from_
        · rw [if_pos e, if_pos e]
          omega
        · rw [if_neg e, if_neg e]
          have e5 : (fun i : Int => if 0 ≤ i ∧ i < ((30 : Nat) : Int) then -9 else z 56 i) v = -9 := if_pos (by omega)
          rw [e5]
          omega)
      have a1 : X2_minutesTo_L45 Zfuel (Zro z 56 c0) to w s 1 0 = X2_minutesTo_b115 (Zro z 56 c) to := a1
      have a3 := a2 to (by omega) (by omega)
      have em : mnS z from_ to w s = LR (nxF z s) (wtS w) (z 68 12).toNat (fun v => if v = from_ then 0 else 1000000) (z 68 12).toNat to := rfl
      rw [← em] at a3
      refine ⟨c, ?_⟩
      rw [a1]
      unfold X2_minutesTo_b115
      rw [Zgd_t (by omega), Zro_s]
      by_cases q : mnS z from_ to w s = 1000000
      · rw [if_pos q, show c to = -9 by omega]
      · rw [if_neg q, show c to = mnS z from_ to w s by omega]
    · rw [if_neg c2, if_neg (fun t => c2 t.2)]
      exact ⟨z 56, by rw [Zro_z]⟩
  · rw [if_neg c1, if_neg (fun t => c1 t.1)]
    exact ⟨z 56, by rw [Zro_z]⟩
