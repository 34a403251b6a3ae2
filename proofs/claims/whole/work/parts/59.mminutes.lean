/-! fire: minutes, the reference -/
def eqR (n : Int) (c L : Int → Int) : Prop := ∀ v : Int, 0 ≤ v → v < n → c v = L v
section
variable {z y : ZI} {s w : Int} {n : Nat}
theorem m_side_L (hH : JH z) (hn : z 68 12 = n) (e71 : y 71 = z 71) (e118 : ∀ c : Int, 0 ≤ c → c < 144 → y 118 c = chS z s c) (hw : 0 ≤ w ∧ w ≤ 3) {u : Int} (hu : 0 ≤ u ∧ u < n) {P0 : (Int → Int) × Int} {M : Int} (hb : bdL n M P0.1) (hM : 0 ≤ M ∧ M + 16 < 1000000) (hL : P0.1 u < 1000000) {to : Int} {k128 : ZI → Int → Int → Int → Option (Int × ZI)} {k139 : ZI → Int → Int → Int → Int → Option (Int × ZI)} : ∀ (m k fu : Nat) (c : Int → Int), k + m = 4 → m < fu → eqR n c (sidR (nxF z s) (wtS w) u k P0).1 → ∃ c2, X11_minutes_L151 k128 k139 fu (Zro y 117 c) to w (sidR (nxF z s) (wtS w) u k P0).2 u k = X11_minutes_b253 k128 k139 (Zro y 117 c2) to w (sidR (nxF z s) (wtS w) u 4 P0).2 u ∧ eqR n c2 (sidR (nxF z s) (wtS w) u 4 P0).1 := by
  have h30 := hH.2.1
  have hx : ∀ u d : Int, 0 ≤ u → u < n → 0 ≤ d → d < 4 → nxF z s u d = -9 ∨ (0 ≤ nxF z s u d ∧ nxF z s u d < n) := fun u d _ _ _ _ => by
    have := nxF_b hH s u d
    omega
  intro m
  induction m with
  | zero =>
    intro k fu c hk hf he
    obtain ⟨fu, rfl⟩ : ∃ g, fu = g + 1 := ⟨fu - 1, by omega⟩
    obtain rfl : k = 4 := by omega
    refine ⟨c, ?_, he⟩
    show X11_minutes_L151b k128 k139 (X11_minutes_L151 k128 k139 fu) _ _ _ _ _ _ = _
    unfold X11_minutes_L151b
    rw [if_pos (by decide)]
  | succ m ih =>
    intro k fu c hk hf he
    obtain ⟨fu, rfl⟩ : ∃ g, fu = g + 1 := ⟨fu - 1, by omega⟩
    have e1 : sidR (nxF z s) (wtS w) u (k + 1) P0 = rlx (nxF z s) (wtS w) u k (sidR (nxF z s) (wtS w) u k P0) := rfl
    have lt := (sidR_lt (n := n) (wt := wtS w) hx hu k (by omega) P0).1 u
    have bd := sidR_bd (w := w) (by omega : M + 16 < 1000000) hu (fun d d0 d1 => hx u d hu.1 hu.2 d0 d1) hb k (by omega)
    have i := ih (k + 1) fu
    rw [e1] at i
    generalize sidR (nxF z s) (wtS w) u k P0 = P at *
    have eu := he u hu.1 hu.2
    have bu := bd u hu.1 hu.2
    have wr := wtS_r w k
    have b247 : ∀ (c' : Int → Int) (f : Int), X11_minutes_b247 k128 k139 (X11_minutes_L151 k128 k139 fu) (Zro y 117 c') to w f u k = X11_minutes_L151 k128 k139 fu (Zro y 117 c') to w f u ((k + 1 : Nat) : Int) := by
      intro c' f
      unfold X11_minutes_b247
      rw [Zgd_t (by omega), show (k : Int) + 1 = ((k + 1 : Nat) : Int) by omega]
    have en := m_beside (z := z) (y := Zro y 117 c) (s := s) (h := u) (d := k) hH (by omega) e71 e118
    have e0 : X11_minutes_L151 k128 k139 (fu + 1) (Zro y 117 c) to w P.2 u k = X11_minutes_L151b k128 k139 (X11_minutes_L151 k128 k139 fu) (Zro y 117 c) to w P.2 u k := rfl
    have xr := hx u k hu.1 hu.2 (by omega) (by omega)
    have main : ∃ c2, X11_minutes_b212 k128 k139 (X11_minutes_L151 k128 k139 fu) (Zro y 117 c) to w P.2 u k (nxF z s u k) (P.1 u) (wtS w k) = X11_minutes_b253 k128 k139 (Zro y 117 c2) to w (sidR (nxF z s) (wtS w) u 4 P0).2 u ∧ eqR n c2 (sidR (nxF z s) (wtS w) u 4 P0).1 := by
      unfold X11_minutes_b212
      rw [Zgd_t (by omega)]
      by_cases q : nxF z s u k < 0
      · have er : rlx (nxF z s) (wtS w) u k P = P := if_neg (fun t => by omega)
        rw [er] at i
        rw [if_pos q, b247]
        exact i c (by omega) (by omega) he
      · have ev := he (nxF z s u k) (by omega) (by omega)
        rw [if_neg q, Zgd_t (by omega), Zro_s, ev]
        by_cases t : P.1 u + wtS w k < P.1 (nxF z s u k)
        · have er : rlx (nxF z s) (wtS w) u k P = (fupd P.1 (nxF z s u k) (P.1 u + wtS w k), 1) := if_pos ⟨by omega, t⟩
          rw [er] at i
          rw [if_pos t, Zgd_t (by omega), Zl_eq, Zro_u, b247]
          refine i _ (by omega) (by omega) (fun v v0 v1 => ?_)
          show fupd c (nxF z s u k) (P.1 u + wtS w k) v = fupd P.1 (nxF z s u k) (P.1 u + wtS w k) v
          unfold fupd
          by_cases e : v = nxF z s u k
          · rw [if_pos e, if_pos e]
          · rw [if_neg e, if_neg e]
            exact he v v0 v1
        · have er : rlx (nxF z s) (wtS w) u k P = P := if_neg (fun w => t w.2)
          rw [er] at i
          rw [if_neg t, b247]
          exact i c (by omega) (by omega) he
    have tm : ((k : Int) + 2).tmod 4 = ((k : Int) + 2) % 4 := Int.tmod_eq_emod_of_nonneg (by omega)
    rw [e0]
    unfold X11_minutes_L151b
    rw [if_neg (by omega), Zgd_t (by omega), Zro_s, eu, if_neg (by omega), en, Yb_some, Zgd_t (by omega), Zro_s, eu]
    by_cases c1 : (k : Int) = w
    · have ew : wtS w k = 1 := if_pos c1
      rw [ew] at main
      rw [if_pos c1]
      exact main
    · rw [if_neg c1, Zgd_t (by omega), tm]
      by_cases c2 : ((k : Int) + 2) % 4 = w
      · have ew : wtS w k = 4 := by
          unfold wtS
          rw [if_neg c1, if_pos (by omega)]
        rw [ew] at main
        rw [if_pos c2]
        exact main
      · have ew : wtS w k = 2 := by
          unfold wtS
          rw [if_neg c1, if_neg (by omega)]
        rw [ew] at main
        rw [if_neg c2]
        exact main
theorem m_round_L (hH : JH z) (hn : z 68 12 = n) (e71 : y 71 = z 71) (e68 : y 68 12 = n) (e118 : ∀ c : Int, 0 ≤ c → c < 144 → y 118 c = chS z s c) (hw : 0 ≤ w ∧ w ≤ 3) {L : Int → Int} {M to : Int} {k128 : ZI → Int → Int → Int → Option (Int × ZI)} (hb : bdL n M L) (hM : 0 ≤ M ∧ M + 16 * n + 20 < 1000000) : ∀ (m k fu : Nat) (c : Int → Int), k + m = n → m < fu → eqR n c (rndR (nxF z s) (wtS w) k (L, 0)).1 → ∃ c2, X11_minutes_L139 k128 fu (Zro y 117 c) to w (rndR (nxF z s) (wtS w) k (L, 0)).2 k = k128 (Zro y 117 c2) to w (rndR (nxF z s) (wtS w) n (L, 0)).2 ∧ eqR n c2 (rndR (nxF z s) (wtS w) n (L, 0)).1 := by
  have h30 := hH.2.1
  have hx : ∀ u d : Int, 0 ≤ u → u < n → 0 ≤ d → d < 4 → nxF z s u d = -9 ∨ (0 ≤ nxF z s u d ∧ nxF z s u d < n) := fun u d _ _ _ _ => by
    have := nxF_b hH s u d
    omega
  intro m
  induction m with
  | zero =>
    intro k fu c hk hf he
    obtain ⟨fu, rfl⟩ : ∃ g, fu = g + 1 := ⟨fu - 1, by omega⟩
    obtain rfl : k = n := by omega
    refine ⟨c, ?_, he⟩
    show X11_minutes_L139b k128 (X11_minutes_L139 k128 fu) _ _ _ _ _ = _
    unfold X11_minutes_L139b
    rw [Zro_k (k := 68) (by decide), if_pos (by omega)]
    rfl
  | succ m ih =>
    intro k fu c hk hf he
    obtain ⟨fu, rfl⟩ : ∃ g, fu = g + 1 := ⟨fu - 1, by omega⟩
    have bd := rndR_bd (w := w) (p := (L, 0)) (by omega : M + 16 * n < 1000000) hx hb k (by omega)
    have e1 : rndR (nxF z s) (wtS w) (k + 1) (L, 0) = sidR (nxF z s) (wtS w) k 4 (rndR (nxF z s) (wtS w) k (L, 0)) := rfl
    have i := ih (k + 1) fu
    rw [e1] at i
    generalize rndR (nxF z s) (wtS w) k (L, 0) = P at *
    have b253 : ∀ (c' : Int → Int) (f : Int), X11_minutes_b253 k128 (X11_minutes_L139 k128 fu) (Zro y 117 c') to w f k = X11_minutes_L139 k128 fu (Zro y 117 c') to w f ((k + 1 : Nat) : Int) := by
      intro c' f
      unfold X11_minutes_b253
      rw [Zgd_t (by omega), show (k : Int) + 1 = ((k + 1 : Nat) : Int) by omega]
    have e0 : X11_minutes_L139 k128 (fu + 1) (Zro y 117 c) to w P.2 k = X11_minutes_L139b k128 (X11_minutes_L139 k128 fu) (Zro y 117 c) to w P.2 k := rfl
    have ek := he k (by omega) (by omega)
    rw [e0]
    unfold X11_minutes_L139b
    rw [Zro_k (k := 68) (by decide), if_neg (by omega)]
    by_cases q : 1000000 ≤ P.1 k
    · have es : sidR (nxF z s) (wtS w) k 4 P = P := sidR_far (n := n) (fun d d0 d1 => hx k d (by omega) (by omega) d0 d1) (bdL_le (M := M + 16 * k) (by omega) bd) q 4 (Nat.le_refl _)
      rw [es] at i
      obtain ⟨F, hF⟩ : ∃ F, Zfuel = F + 1 := ⟨Zfuel - 1, by unfold Zfuel; omega⟩
      have e5 : X11_minutes_L151 k128 (X11_minutes_L139 k128 fu) Zfuel (Zro y 117 c) to w P.2 k 0 = X11_minutes_b253 k128 (X11_minutes_L139 k128 fu) (Zro y 117 c) to w P.2 k := by
        rw [hF]
        show X11_minutes_L151b k128 (X11_minutes_L139 k128 fu) (X11_minutes_L151 k128 (X11_minutes_L139 k128 fu) F) _ _ _ _ _ _ = _
        unfold X11_minutes_L151b
        rw [if_neg (by decide), Zgd_t (by omega), Zro_s, if_pos (by omega)]
      rw [e5, b253]
      exact i c (by omega) (by omega) he
    · obtain ⟨c2, a1, a2⟩ := m_side_L (k128 := k128) (k139 := X11_minutes_L139 k128 fu) (to := to) (s := s) hH hn e71 e118 hw (u := (k : Int)) (by omega) bd (by omega) (by omega) 4 0 Zfuel c (by decide) (by unfold Zfuel; omega) he
      have a1 : X11_minutes_L151 k128 (X11_minutes_L139 k128 fu) Zfuel (Zro y 117 c) to w P.2 k 0 = X11_minutes_b253 k128 (X11_minutes_L139 k128 fu) (Zro y 117 c2) to w (sidR (nxF z s) (wtS w) k 4 P).2 k := a1
      rw [a1, b253]
      exact i c2 (by omega) (by omega) a2
theorem m_rounds_L (hH : JH z) (hn : z 68 12 = n) (e71 : y 71 = z 71) (e68 : y 68 12 = n) (e118 : ∀ c : Int, 0 ≤ c → c < 144 → y 118 c = chS z s c) (hw : 0 ≤ w ∧ w ≤ 3) {from_ to : Int} : ∀ (m r fu : Nat) (c : Int → Int) (f : Int), r + m = n + 1 → m < fu → (r = n + 1 → f = 0) → (f = 0 → ∀ k, LR (nxF z s) (wtS w) n (fun v => if v = from_ then 0 else 1000000) (r + k) = LR (nxF z s) (wtS w) n (fun v => if v = from_ then 0 else 1000000) r) → (f = 0 → r ≤ n ∨ LR (nxF z s) (wtS w) n (fun v => if v = from_ then 0 else 1000000) r = LR (nxF z s) (wtS w) n (fun v => if v = from_ then 0 else 1000000) n) → eqR n c (LR (nxF z s) (wtS w) n (fun v => if v = from_ then 0 else 1000000) r) → ∃ c2, X11_minutes_L128 fu (Zro y 117 c) to w f = X11_minutes_b262 (Zro y 117 c2) to ∧ eqR n c2 (LR (nxF z s) (wtS w) n (fun v => if v = from_ then 0 else 1000000) n) := by
  have h30 := hH.2.1
  have hx : ∀ u d : Int, 0 ≤ u → u < n → 0 ≤ d → d < 4 → nxF z s u d = -9 ∨ (0 ≤ nxF z s u d ∧ nxF z s u d < n) := fun u d _ _ _ _ => by
    have := nxF_b hH s u d
    omega
  have done : ∀ (r fu : Nat) (c : Int → Int), r ≤ n + 1 → (∀ k, LR (nxF z s) (wtS w) n (fun v => if v = from_ then 0 else 1000000) (r + k) = LR (nxF z s) (wtS w) n (fun v => if v = from_ then 0 else 1000000) r) → (r ≤ n ∨ LR (nxF z s) (wtS w) n (fun v => if v = from_ then 0 else 1000000) r = LR (nxF z s) (wtS w) n (fun v => if v = from_ then 0 else 1000000) n) → eqR n c (LR (nxF z s) (wtS w) n (fun v => if v = from_ then 0 else 1000000) r) → ∃ c2, X11_minutes_L128 (fu + 1) (Zro y 117 c) to w 0 = X11_minutes_b262 (Zro y 117 c2) to ∧ eqR n c2 (LR (nxF z s) (wtS w) n (fun v => if v = from_ then 0 else 1000000) n) := by
    intro r fu c hr h1 h2 he
    refine ⟨c, ?_, ?_⟩
    · show X11_minutes_L128b (X11_minutes_L128 fu) _ _ _ _ = _
      unfold X11_minutes_L128b
      rw [if_pos rfl]
    · rcases h2 with q | q
      · have e := h1 (n - r)
        rw [show r + (n - r) = n by omega] at e
        rw [e]
        exact he
      · rw [← q]
        exact he
  intro m
  induction m with
  | zero =>
    intro r fu c f hk hf hz hs hs2 he
    obtain ⟨fu, rfl⟩ : ∃ g, fu = g + 1 := ⟨fu - 1, by omega⟩
    have f0 := hz (by omega)
    rw [f0] at hs hs2 ⊢
    exact done r fu c (by omega) (hs rfl) (hs2 rfl) he
  | succ m ih =>
    intro r fu c f hk hf hz hs hs2 he
    obtain ⟨fu, rfl⟩ : ∃ g, fu = g + 1 := ⟨fu - 1, by omega⟩
    by_cases q : f = 0
    · rw [q] at hs hs2 ⊢
      exact done r fu c (by omega) (hs rfl) (hs2 rfl) he
    · have e0 : X11_minutes_L128 (fu + 1) (Zro y 117 c) to w f = X11_minutes_L128b (X11_minutes_L128 fu) (Zro y 117 c) to w f := rfl
      rw [e0]
      unfold X11_minutes_L128b
      rw [if_neg q]
      have bd := LR_bd (s := s) (w := w) hH hn (from_ := from_) r (by omega)
      obtain ⟨c2, a1, a2⟩ := m_round_L (s := s) (to := to) (k128 := X11_minutes_L128 fu) hH hn e71 e68 e118 hw bd (by omega) n 0 Zfuel c (by omega) (by unfold Zfuel; omega) he
      have a1 : X11_minutes_L139 (X11_minutes_L128 fu) Zfuel (Zro y 117 c) to w 0 0 = _ := a1
      rw [a1]
      refine ih (r + 1) fu c2 _ (by omega) (by omega) (fun e => ?_) (fun z0 k => ?_) (fun z0 => ?_) a2
      · obtain rfl : r = n := by omega
        exact LR_stop (fun d hd => (wtS_r w d).1) hx _
      · have fx := LR_fix (wt := wtS w) hx (fun v => if v = from_ then 0 else 1000000) (r := r) z0
        rw [show r + 1 + k = r + (1 + k) by omega, fx, fx 1]
      · by_cases e : r + 1 ≤ n
        · exact Or.inl e
        · right
          have fx := LR_fix (wt := wtS w) hx (fun v => if v = from_ then 0 else 1000000) (r := r) z0
          rw [fx 1, show r = n by omega]
theorem m_init_L {from_ to w : Int} (e68 : y 68 12 = n) (h30 : n ≤ 30) : ∀ (m k fu : Nat) (c : Int → Int), k + m = n → m < fu → (∀ v : Int, 0 ≤ v → v < k → c v = if v = from_ then 0 else 1000000) → ∃ c2, X11_minutes_L90 fu (Zro y 117 c) from_ to w k = X11_minutes_b125 (Zro y 117 c2) to w ∧ eqR n c2 (fun v => if v = from_ then 0 else 1000000) := by
  intro m
  induction m with
  | zero =>
    intro k fu c hk hf h
    obtain ⟨fu, rfl⟩ : ∃ g, fu = g + 1 := ⟨fu - 1, by omega⟩
    obtain rfl : k = n := by omega
    refine ⟨c, ?_, h⟩
    show X11_minutes_L90b (X11_minutes_L90 fu) _ _ _ _ _ = _
    unfold X11_minutes_L90b
    rw [Zro_k (k := 68) (by decide), if_pos (by omega)]
  | succ m ih =>
    intro k fu c hk hf h
    obtain ⟨fu, rfl⟩ : ∃ g, fu = g + 1 := ⟨fu - 1, by omega⟩
    have e0 : X11_minutes_L90 (fu + 1) (Zro y 117 c) from_ to w k = X11_minutes_L90b (X11_minutes_L90 fu) (Zro y 117 c) from_ to w k := rfl
    have st : ∀ x : Int, (x = if (k : Int) = from_ then 0 else 1000000) → ∃ c2, X11_minutes_b118 (X11_minutes_L90 fu) (Zro y 117 c) from_ to w k k x = X11_minutes_b125 (Zro y 117 c2) to w ∧ eqR n c2 (fun v => if v = from_ then 0 else 1000000) := by
      intro x hx
      unfold X11_minutes_b118
      rw [Zgd_t (by omega), Zl_eq, Zro_u, Zgd_t (by omega), show (k : Int) + 1 = ((k + 1 : Nat) : Int) by omega]
      refine ih (k + 1) fu _ (by omega) (by omega) (fun v v0 v1 => ?_)
      unfold fupd
      by_cases e : v = k
      · rw [if_pos e, hx, e]
      · rw [if_neg e]; exact h v v0 (by omega)
    rw [e0]
    unfold X11_minutes_L90b
    rw [Zro_k (k := 68) (by decide), if_neg (by omega)]
    by_cases q : (k : Int) = from_
    · rw [if_pos q]
      exact st 0 (if_pos q).symm
    · rw [if_neg q]
      exact st 1000000 (if_neg q).symm
end
theorem K_H {z : ZI} (h : K z) : JH z := by
  obtain ⟨hD, hH, hP, hS, hL, hT, hE, hV, hA, hU, hC, hK, hW, hB, hG, hX, hQ, hO⟩ := h
  exact hH
theorem K_X {z : ZI} (h : K z) : JX z := by
  obtain ⟨hD, hH, hP, hS, hL, hT, hE, hV, hA, hU, hC, hK, hW, hB, hG, hX, hQ, hO⟩ := h
  exact hX
theorem K_56 {z : ZI} {c : Int → Int} (h : K z) : K (Zro z 56 c) := by
  obtain ⟨hD, hH, hP, hS, hL, hT, hE, hV, hA, hU, hC, hK, hW, hB, hG, hX, hQ, hO⟩ := h
  exact ⟨(JD_c rfl rfl hD), (JH_c rfl rfl rfl rfl rfl rfl rfl hH), (JP_c rfl rfl rfl rfl rfl rfl rfl rfl rfl rfl rfl rfl hP), (JS_c rfl rfl rfl rfl rfl rfl rfl rfl rfl rfl rfl hS), (JL_c rfl rfl hL), (JT_c rfl rfl rfl rfl rfl hT), (JE_c rfl rfl rfl rfl hE), (JV_c rfl rfl rfl rfl hV), (JA_c rfl rfl rfl rfl hA), (JU_c rfl rfl rfl rfl rfl rfl rfl rfl rfl rfl hU), (JC_c rfl rfl rfl rfl rfl rfl rfl rfl rfl rfl hC), (JK_c rfl rfl rfl rfl rfl rfl rfl rfl rfl hK), (JW_c rfl rfl rfl rfl rfl rfl rfl rfl rfl rfl hW), (JB_c rfl rfl rfl rfl rfl rfl rfl rfl rfl rfl rfl rfl rfl rfl rfl rfl rfl rfl rfl rfl hB), (JG_c rfl rfl rfl rfl rfl hG), (JX_c rfl rfl rfl rfl rfl hX), (JQ_c rfl rfl rfl rfl rfl hQ), (JO_c rfl rfl rfl rfl rfl rfl rfl rfl rfl rfl rfl hO)⟩
set_option maxHeartbeats 400000 in
theorem t_minutes {n : Int} {z : ZI} (hK : K z) (hN : JN n z) (hn : n ≤ 1000) (a b w s : Int) : Both (F_X10_minutes z a b w s) (fun z1 => F_X11_minutes z1 a b w s) (fun z2 => K z2 ∧ JN (n + 1) z2) := by
  have hR := hN.R hn
  have hl := links hK
  have hK0 := hK
  obtain ⟨hD, hH, hP, hS, hL, hT, hE, hV, hA, hU, hC, hK, hW, hB, hG, hX, hQ, hO⟩ := hK
  have sh := shl_1 (n := z 68 70) (by omega)
  have r11 : F_X10_refuse z (-1) = some (-1, zR z (-1)) := e_refuse hR (by omega)
  have hl2 : z 11 0 = z 68 12 := hH.2.2.1
  by_cases c1 : ¬ (0 ≤ a ∧ a < z 68 12)
  · refine Both_ref hK0 hN (w := -1) hn (by omega) ?_ ?_
    · unfold F_X10_minutes X10_minutes_b37
      rw [e_hasHouse, Yb_some, bi_f (by omega), if_pos rfl, r11, Yb_some]
    · have b1 : bi (0 ≤ a ∧ a < (zR z (-1)) 68 12) = 0 := bi_f c1
      unfold F_X11_minutes X11_minutes_b35
      rw [e_isHouse, Yb_some, b1, if_pos rfl, e_no hR (by omega), Yb_some]
  have d1 : (0 ≤ a ∧ a < z 68 12) := by omega
  by_cases c2 : ¬ (0 ≤ b ∧ b < z 68 12)
  · refine Both_ref hK0 hN (w := -1) hn (by omega) ?_ ?_
    · unfold F_X10_minutes X10_minutes_b37
      rw [e_hasHouse, Yb_some, bi_t (by omega), if_neg (by decide), e_hasHouse, Yb_some, bi_f (by omega), if_pos rfl, r11, Yb_some]
    · have b1 : bi (0 ≤ a ∧ a < (zR z (-1)) 68 12) = 1 := bi_t d1
      have b2 : bi (0 ≤ b ∧ b < (zR z (-1)) 68 12) = 0 := bi_f c2
      unfold F_X11_minutes X11_minutes_b35
      rw [e_isHouse, Yb_some, b1, if_neg (by decide), e_isHouse, Yb_some, b2, if_pos rfl, e_no hR (by omega), Yb_some]
  have d2 : (0 ≤ b ∧ b < z 68 12) := by omega
  by_cases c3 : ¬ (0 ≤ s ∧ s < jshl 1 (z 68 70))
  · refine Both_ref hK0 hN (w := -1) hn (by omega) ?_ ?_
    · unfold F_X10_minutes X10_minutes_b37
      rw [e_hasHouse, Yb_some, bi_t (by omega), if_neg (by decide), e_hasHouse, Yb_some, bi_t (by omega), if_neg (by decide), x_isSet, Yb_some, hX.1, bi_f c3, if_pos rfl, r11, Yb_some]
    · have b1 : bi (0 ≤ a ∧ a < (zR z (-1)) 68 12) = 1 := bi_t d1
      have b2 : bi (0 ≤ b ∧ b < (zR z (-1)) 68 12) = 1 := bi_t d2
      have e : (zR z (-1)) 68 70 = z 68 70 := rfl
      unfold F_X11_minutes X11_minutes_b35
      rw [e_isHouse, Yb_some, b1, if_neg (by decide), e_isHouse, Yb_some, b2, if_neg (by decide), e, Zgd_t (by omega), e_isIn, Yb_some, bi_f (by omega), if_pos rfl, e_no hR (by omega), Yb_some]
  have d3 : (0 ≤ s ∧ s < jshl 1 (z 68 70)) := by omega
  by_cases c4 : ¬ (0 ≤ w ∧ w ≤ 3)
  · refine Both_ref hK0 hN (w := -2) hn (by omega) ?_ ?_
    · unfold F_X10_minutes
      rw [e_hasHouse, Yb_some, bi_t (by omega), if_neg (by decide), e_hasHouse, Yb_some, bi_t (by omega), if_neg (by decide), x_isSet, Yb_some, hX.1, bi_t d3, if_neg (by decide), e_isWind, Yb_some, bi_f c4, if_pos rfl, e_refuse hR (by omega), Yb_some]
    · have b1 : bi (0 ≤ a ∧ a < (zR z (-2)) 68 12) = 1 := bi_t d1
      have b2 : bi (0 ≤ b ∧ b < (zR z (-2)) 68 12) = 1 := bi_t d2
      have e : (zR z (-2)) 68 70 = z 68 70 := rfl
      unfold F_X11_minutes
      rw [e_isHouse, Yb_some, b1, if_neg (by decide), e_isHouse, Yb_some, b2, if_neg (by decide), e, Zgd_t (by omega), e_isIn, Yb_some, bi_t (by omega), if_neg (by decide), e_isIn, Yb_some, bi_f c4, if_pos rfl, e_no hR (by omega), Yb_some]
  have d4 : (0 ≤ w ∧ w ≤ 3) := by omega
  obtain ⟨c, x1⟩ := x_minutesTo (s := s) hH hX d1 d2 d4
  have hK1 := K_56 (c := c) hK0
  have hH1 := K_H hK1
  obtain ⟨y, m1, m2, m3, m4⟩ := m_clears hH1 (K_X hK1) s
  have hKy := FrQ_K m2 hK1
  have eC : ∀ h, Cl (Zro z 56 c) s h = Cl z s h := fun _ => rfl
  have y71 : y 71 = (Zro z 56 c) 71 := m2 71 (by decide) (by decide) (by decide) (by decide) (by decide)
  have y68 : y 68 12 = ((z 68 12).toNat : Int) := by
    rw [m2 68 (by decide) (by decide) (by decide) (by decide) (by decide)]
    show z 68 12 = _
    omega
  have hx : F_X10_minutes z a b w s = some (if Cl z s a = 0 ∧ Cl z s b = 0 then (if mnS z a b w s = 1000000 then -9 else mnS z a b w s) else -9, Zro z 56 c) := by
    unfold F_X10_minutes
    rw [e_hasHouse, Yb_some, bi_t (by omega), if_neg (by decide), e_hasHouse, Yb_some, bi_t (by omega), if_neg (by decide), x_isSet, Yb_some, hX.1, bi_t d3, if_neg (by decide), e_isWind, Yb_some, bi_t d4, if_neg (by decide), x1, Yb_some]
  have hm : F_X11_minutes (Zro z 56 c) a b w s = Zgd (IJ a 30) (if (y 121 a) = 0 then (Zgd (IJ b 30) (if (y 121 b) = 0 then (X11_minutes_L90 Zfuel y a b w 0) else (X11_minutes_b84 y))) else (X11_minutes_b84 y)) := by
    have b1 : bi (0 ≤ a ∧ a < (Zro z 56 c) 68 12) = 1 := bi_t d1
    have b2 : bi (0 ≤ b ∧ b < (Zro z 56 c) 68 12) = 1 := bi_t d2
    have e : (Zro z 56 c) 68 70 = z 68 70 := rfl
    unfold F_X11_minutes
    rw [e_isHouse, Yb_some, b1, if_neg (by decide), e_isHouse, Yb_some, b2, if_neg (by decide), e, Zgd_t (by omega), e_isIn, Yb_some, bi_t (by omega), if_neg (by decide), e_isIn, Yb_some, bi_t d4, if_neg (by decide), m1, Yb_some]
  rw [Zgd_t (by omega), m3 a d1.1 d1.2, m3 b d2.1 d2.2, eC, eC] at hm
  by_cases q : Cl z s a = 0 ∧ Cl z s b = 0
  · rw [if_pos q.1, Zgd_t (by omega), if_pos q.2] at hm
    rw [if_pos q] at hx
    have hnn : (Zro z 56 c) 68 12 = ((z 68 12).toNat : Int) := by
      show z 68 12 = _
      omega
    obtain ⟨c1, i1, i2⟩ := m_init_L (y := y) (from_ := a) (to := b) (w := w) y68 (by omega) (z 68 12).toNat 0 Zfuel (y 117) (by omega) (by unfold Zfuel; omega) (fun v v0 v1 => by omega)
    have i1 : X11_minutes_L90 Zfuel (Zro y 117 (y 117)) a b w 0 = X11_minutes_b125 (Zro y 117 c1) b w := i1
    rw [Zro_z] at i1
    obtain ⟨c2, j1, j2⟩ := m_rounds_L (z := Zro z 56 c) (y := y) (s := s) (w := w) (n := (z 68 12).toNat) (from_ := a) (to := b) hH1 hnn y71 y68 m4 d4 ((z 68 12).toNat + 1) 0 Zfuel c1 1 (by omega) (by unfold Zfuel; omega) (fun e => by omega) (fun e => by omega) (fun e => by omega) i2
    have em : LR (nxF (Zro z 56 c) s) (wtS w) (z 68 12).toNat (fun v => if v = a then 0 else 1000000) (z 68 12).toNat b = mnS z a b w s := rfl
    have eb := j2 b d2.1 (by omega)
    rw [em] at eb
    have bdd := LR_bd (z := z) (s := s) (w := w) (n := (z 68 12).toNat) hH (by omega) (from_ := a) (z 68 12).toNat (by omega) b d2.1 (by omega)
    have em2 : LR (nxF z s) (wtS w) (z 68 12).toNat (fun v => if v = a then 0 else 1000000) (z 68 12).toNat b = mnS z a b w s := rfl
    rw [em2] at bdd
    refine ⟨_, _, Zro y 117 c2, hx, ?_, FrQ_K (FrQ_r (by decide)) hKy, JN_fq (JN_fq (JN_up hN rfl rfl : JN (n + 1) (Zro z 56 c)) m2) (FrQ_r (by decide))⟩
    · show F_X11_minutes (Zro z 56 c) a b w s = _
      rw [hm, i1]
      unfold X11_minutes_b125
      rw [j1]
      unfold X11_minutes_b262 X11_minutes_b285
      rw [Zgd_t (by omega), Zro_s, eb]
      by_cases t : mnS z a b w s < 1000000
      · rw [if_pos t, Zgd_t (by omega), if_neg (by omega)]
      · rw [if_neg t, if_pos (by omega)]
  · rw [if_neg q] at hx
    refine ⟨_, _, y, hx, ?_, hKy, JN_fq (JN_up hN rfl rfl : JN (n + 1) (Zro z 56 c)) m2⟩
    show F_X11_minutes (Zro z 56 c) a b w s = _
    rw [hm]
    unfold X11_minutes_b84
    by_cases t : Cl z s a = 0
    · rw [if_pos t, Zgd_t (by omega), if_neg (fun e => q ⟨t, e⟩)]
    · rw [if_neg t]
