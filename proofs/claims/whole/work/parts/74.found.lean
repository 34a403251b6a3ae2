/-! wells: what the reference found last -/
def cdB (nh : Nat) (bl nd go : Int → Int) (h : Int) : Int := if h < nh then (nd h * 8 + go h + 2) * 8 + bl h else -9
def cdT (nh : Nat) (nd : Int → Int) (h : Int) : Int := if h < nh then nd h else -9
def cdW (nw : Nat) (yi de : Int → Int) (w : Int) : Int := if w < nw then 10000 * yi w + de w else -9
section
variable {y : ZI} {nh nw : Nat} {bl nd go yi de F0 : Int → Int}
/-- so far the row holds the codes; the mark says that they were there before -/
def ASh (nh : Nat) (bl nd go F0 F : Int → Int) (k : Int) (f0 f : Int) : Prop := (f = 0 ∨ f = 1) ∧ (∀ h : Int, 0 ≤ h → h < k → F (2 * h) = cdB nh bl nd go h ∧ F (2 * h + 1) = cdT nh nd h) ∧ (∀ i : Int, 2 * k ≤ i → F i = F0 i) ∧ (f = 1 ↔ (f0 = 1 ∧ ∀ h : Int, 0 ≤ h → h < k → F0 (2 * h) = cdB nh bl nd go h ∧ F0 (2 * h + 1) = cdT nh nd h))
theorem m_as1_L (h30 : nh ≤ 30) (e68 : y 68 12 = nh) (e99 : ∀ h : Int, 0 ≤ h → h < nh → y 99 h = nd h ∧ 0 ≤ nd h ∧ nd h ≤ 300) (e100 : ∀ h : Int, 0 ≤ h → h < nh → y 100 h = go h ∧ -9 ≤ go h ∧ go h ≤ 6) (e72 : ∀ h : Int, 0 ≤ h → h < nh → y 72 h = bl h ∧ 0 ≤ bl h ∧ bl h ≤ 3) {f0 : Int} : ∀ (n k fu : Nat) (F : Int → Int) (f : Int), k + n = 30 → n < fu → ASh nh bl nd go F0 F k f0 f → ∃ F2 f2, X11_isAsFound_L9 fu (Zro y 107 F) f (2 * (k : Int)) k = X11_isAsFound_b140 (Zro y 107 F2) f2 60 ∧ ASh nh bl nd go F0 F2 30 f0 f2 := by
  intro n
  induction n with
  | zero =>
    intro k fu F f hk hf h
    obtain ⟨fu, rfl⟩ : ∃ g, fu = g + 1 := ⟨fu - 1, by omega⟩
    obtain rfl : k = 30 := by omega
    refine ⟨F, f, ?_, h⟩
    show X11_isAsFound_L9b (X11_isAsFound_L9 fu) _ _ _ _ = _
    unfold X11_isAsFound_L9b
    rw [if_pos (by decide)]
    rfl
  | succ n ih =>
    intro k fu F f hk hf h
    obtain ⟨fu, rfl⟩ : ∃ g, fu = g + 1 := ⟨fu - 1, by omega⟩
    obtain ⟨s1, s2, s3, s4⟩ := h
    have e0 : X11_isAsFound_L9 (fu + 1) (Zro y 107 F) f (2 * (k : Int)) k = X11_isAsFound_L9b (X11_isAsFound_L9 fu) (Zro y 107 F) f (2 * (k : Int)) k := rfl
    have k0 := s3 (2 * (k : Int)) (Int.le_refl _)
    have k1 := s3 (2 * (k : Int) + 1) (by omega)
    -- one house
    have b112 : ∀ B T f', (f' = 0 ∨ f' = 1) → B = cdB nh bl nd go k → T = cdT nh nd k → (f' = 1 ↔ (f = 1 ∧ F (2 * (k : Int)) = B ∧ F (2 * (k : Int) + 1) = T)) → ∃ F2 f2, X11_isAsFound_b112 (X11_isAsFound_L9 fu) (Zro y 107 F) (2 * (k : Int)) k B T f' = X11_isAsFound_b140 (Zro y 107 F2) f2 60 ∧ ASh nh bl nd go F0 F2 30 f0 f2 := by
      intro B T f' hf' hB hT hff
      unfold X11_isAsFound_b112
      rw [Zgd_t (by omega), Zl_eq, Zro_u, Zgd_t (by omega), Zgd_t (by omega), Zl_eq, Zro_u, Zgd_t (by omega), Zgd_t (by omega), show 2 * (k : Int) + 2 = 2 * ((k + 1 : Nat) : Int) by omega, show (k : Int) + 1 = ((k + 1 : Nat) : Int) by omega]
      refine ih (k + 1) fu _ _ (by omega) (by omega) ⟨hf', fun h h0 h1 => ?_, fun i hi => ?_, ?_⟩
      · unfold fupd
        by_cases e : h = k
        · rw [if_neg (by omega), if_pos (by omega), if_pos (by omega), e]
          exact ⟨hB, hT⟩
        · rw [if_neg (by omega), if_neg (by omega), if_neg (by omega), if_neg (by omega)]
          exact s2 h h0 (by omega)
      · unfold fupd
        rw [if_neg (by omega), if_neg (by omega)]
        exact s3 i (by omega)
      · rw [hff, s4, k0, k1, hB, hT]
        constructor
        · rintro ⟨⟨q1, q2⟩, q3⟩
          refine ⟨q1, fun h h0 h1 => ?_⟩
          by_cases e : h = k
          · rw [e]; exact q3
          · exact q2 h h0 (by omega)
        · rintro ⟨q1, q2⟩
          exact ⟨⟨q1, fun h h0 h1 => q2 h h0 (by omega)⟩, q2 k (by omega) (by omega)⟩
    have b77 : ∀ B T, B = cdB nh bl nd go k → T = cdT nh nd k → ∃ F2 f2, X11_isAsFound_b77 (X11_isAsFound_L9 fu) (Zro y 107 F) f (2 * (k : Int)) k B T = X11_isAsFound_b140 (Zro y 107 F2) f2 60 ∧ ASh nh bl nd go F0 F2 30 f0 f2 := by
      intro B T hB hT
      unfold X11_isAsFound_b77 X11_isAsFound_b111
      by_cases c0 : f = 0
      · rw [if_pos c0]
        exact b112 B T 0 (Or.inl rfl) hB hT ⟨fun e => by omega, fun e => by omega⟩
      · rw [if_neg c0, Zgd_t (by omega), Zro_s]
        by_cases c1 : F (2 * (k : Int)) = B
        · rw [if_pos c1, Zgd_t (by omega), Zgd_t (by omega)]
          by_cases c2 : F (2 * (k : Int) + 1) = T
          · rw [if_pos c2]
            exact b112 B T 1 (Or.inr rfl) hB hT ⟨fun _ => ⟨by omega, c1, c2⟩, fun _ => rfl⟩
          · rw [if_neg c2]
            exact b112 B T 0 (Or.inl rfl) hB hT ⟨fun e => by omega, fun e => absurd e.2.2 c2⟩
        · rw [if_neg c1]
          exact b112 B T 0 (Or.inl rfl) hB hT ⟨fun e => by omega, fun e => absurd e.2.1 c1⟩
    rw [e0]
    unfold X11_isAsFound_L9b X11_isAsFound_b56
    rw [if_neg (by omega), Zro_k (k := 68) (by decide), e68]
    by_cases c : (nh : Int) ≤ k
    · rw [if_pos c, if_pos c]
      exact b77 (-9) (-9) (by unfold cdB; rw [if_neg (by omega)]) (by unfold cdT; rw [if_neg (by omega)])
    · have a := e99 k (by omega) (by omega)
      have b := e100 k (by omega) (by omega)
      have d := e72 k (by omega) (by omega)
      rw [if_neg c, if_neg c, Zgd_t (by omega), Zro_k (k := 99) (by decide), a.1, Zgd_t (by omega), Zgd_t (by omega), Zro_k (k := 100) (by decide), b.1, Zgd_t (by omega), Zgd_t (by omega), Zgd_t (by omega), Zgd_t (by omega), Zro_k (k := 72) (by decide), d.1, Zgd_t (by omega), Zgd_t (by omega)]
      exact b77 _ _ (by unfold cdB; rw [if_pos (by omega)]) (by unfold cdT; rw [if_pos (by omega)])
def ASw (nw : Nat) (yi de G0 G : Int → Int) (k : Int) (g0 g : Int) : Prop := (g = 0 ∨ g = 1) ∧ (∀ w : Int, 0 ≤ w → w < k → G (60 + w) = cdW nw yi de w) ∧ (∀ i : Int, (i < 60 ∨ 60 + k ≤ i) → G i = G0 i) ∧ (g = 1 ↔ (g0 = 1 ∧ ∀ w : Int, 0 ≤ w → w < k → G0 (60 + w) = cdW nw yi de w))
theorem m_as2_L (h6 : nw ≤ 6) (e68 : y 68 47 = nw) (ey : ∀ w : Int, 0 ≤ w → w < nw → y 96 w = yi w ∧ 1 ≤ yi w ∧ yi w ≤ 99 ∧ y 97 w = de w ∧ 1 ≤ de w ∧ de w ≤ 9999) {g0 : Int} {G0 : Int → Int} : ∀ (n k fu : Nat) (G : Int → Int) (g : Int), k + n = 6 → n < fu → ASw nw yi de G0 G k g0 g → ∃ G2 g2, X11_isAsFound_L142 fu (Zro y 107 G) g (60 + (k : Int)) k = some (g2, Zup (Zro y 107 G2) 68 53 1) ∧ ASw nw yi de G0 G2 6 g0 g2 := by
  intro n
  induction n with
  | zero =>
    intro k fu G g hk hf h
    obtain ⟨fu, rfl⟩ : ∃ q, fu = q + 1 := ⟨fu - 1, by omega⟩
    obtain rfl : k = 6 := by omega
    refine ⟨G, g, ?_, h⟩
    show X11_isAsFound_L142b (X11_isAsFound_L142 fu) _ _ _ _ = _
    unfold X11_isAsFound_L142b
    rw [if_pos (by decide), Zl_eq, Zgd_t h.1]
  | succ n ih =>
    intro k fu G g hk hf h
    obtain ⟨fu, rfl⟩ : ∃ q, fu = q + 1 := ⟨fu - 1, by omega⟩
    obtain ⟨s1, s2, s3, s4⟩ := h
    have e0 : X11_isAsFound_L142 (fu + 1) (Zro y 107 G) g (60 + (k : Int)) k = X11_isAsFound_L142b (X11_isAsFound_L142 fu) (Zro y 107 G) g (60 + (k : Int)) k := rfl
    have k0 := s3 (60 + (k : Int)) (Or.inr (Int.le_refl _))
    have b200 : ∀ B g', (g' = 0 ∨ g' = 1) → B = cdW nw yi de k → (g' = 1 ↔ (g = 1 ∧ G (60 + (k : Int)) = B)) → ∃ G2 g2, X11_isAsFound_b200 (X11_isAsFound_L142 fu) (Zro y 107 G) (60 + (k : Int)) k B g' = some (g2, Zup (Zro y 107 G2) 68 53 1) ∧ ASw nw yi de G0 G2 6 g0 g2 := by
      intro B g' hg' hB hgg
      unfold X11_isAsFound_b200
      rw [Zgd_t (by omega), Zl_eq, Zro_u, Zgd_t (by omega), Zgd_t (by omega), show 60 + (k : Int) + 1 = 60 + ((k + 1 : Nat) : Int) by omega, show (k : Int) + 1 = ((k + 1 : Nat) : Int) by omega]
      refine ih (k + 1) fu _ _ (by omega) (by omega) ⟨hg', fun w w0 w1 => ?_, fun i hi => ?_, ?_⟩
      · unfold fupd
        by_cases e : w = k
        · rw [if_pos (by omega), e]
          exact hB
        · rw [if_neg (by omega)]
          exact s2 w w0 (by omega)
      · unfold fupd
        rw [if_neg (by omega)]
        exact s3 i (by omega)
      · rw [hgg, s4, k0, hB]
        constructor
        · rintro ⟨⟨q1, q2⟩, q3⟩
          refine ⟨q1, fun w w0 w1 => ?_⟩
          by_cases e : w = k
          · rw [e]; exact q3
          · exact q2 w w0 (by omega)
        · rintro ⟨q1, q2⟩
          exact ⟨⟨q1, fun w w0 w1 => q2 w w0 (by omega)⟩, q2 k (by omega) (by omega)⟩
    have b178 : ∀ B, B = cdW nw yi de k → ∃ G2 g2, X11_isAsFound_b178 (X11_isAsFound_L142 fu) (Zro y 107 G) g (60 + (k : Int)) k B = some (g2, Zup (Zro y 107 G2) 68 53 1) ∧ ASw nw yi de G0 G2 6 g0 g2 := by
      intro B hB
      unfold X11_isAsFound_b178 X11_isAsFound_b199
      by_cases c0 : g = 0
      · rw [if_pos c0]
        exact b200 B 0 (Or.inl rfl) hB ⟨fun e => by omega, fun e => by omega⟩
      · rw [if_neg c0, Zgd_t (by omega), Zro_s]
        by_cases c1 : G (60 + (k : Int)) = B
        · rw [if_pos c1]
          exact b200 B 1 (Or.inr rfl) hB ⟨fun _ => ⟨by omega, c1⟩, fun _ => rfl⟩
        · rw [if_neg c1]
          exact b200 B 0 (Or.inl rfl) hB ⟨fun e => by omega, fun e => absurd e.2 c1⟩
    rw [e0]
    unfold X11_isAsFound_L142b
    rw [if_neg (by omega), Zro_k (k := 68) (by decide), e68]
    by_cases c : (nw : Int) ≤ k
    · rw [if_pos c]
      exact b178 (-9) (by unfold cdW; rw [if_neg (by omega)])
    · have a := ey k (by omega) (by omega)
      rw [if_neg c, Zgd_t (by omega), Zro_k (k := 96) (by decide), a.1, Zgd_t (by omega), Zgd_t (by omega), Zro_k (k := 97) (by decide), a.2.2.2.1, Zgd_t (by omega)]
      exact b178 _ (by unfold cdW; rw [if_pos (by omega)])
end
/-- what was worked out last stands for the same -/
theorem m_asFound {y : ZI} {nh nw : Nat} {bl nd go yi de : Int → Int} (h30 : nh ≤ 30) (h6 : nw ≤ 6) (e68 : y 68 12 = nh) (e47 : y 68 47 = nw) (e99 : ∀ h : Int, 0 ≤ h → h < nh → y 99 h = nd h ∧ 0 ≤ nd h ∧ nd h ≤ 300) (e100 : ∀ h : Int, 0 ≤ h → h < nh → y 100 h = go h ∧ -9 ≤ go h ∧ go h ≤ 6) (e72 : ∀ h : Int, 0 ≤ h → h < nh → y 72 h = bl h ∧ 0 ≤ bl h ∧ bl h ≤ 3) (ey : ∀ w : Int, 0 ≤ w → w < nw → y 96 w = yi w ∧ 1 ≤ yi w ∧ yi w ≤ 99 ∧ y 97 w = de w ∧ 1 ≤ de w ∧ de w ≤ 9999) (hf : y 68 53 = 0 ∨ y 68 53 = 1) : ∃ F t, F_X11_isAsFound y = some (t, Zup (Zro y 107 F) 68 53 1) ∧ (t = 0 ∨ t = 1) ∧ (∀ h : Int, 0 ≤ h → h < 30 → F (2 * h) = cdB nh bl nd go h ∧ F (2 * h + 1) = cdT nh nd h) ∧ (∀ w : Int, 0 ≤ w → w < 6 → F (60 + w) = cdW nw yi de w) ∧ (t = 1 → y 68 53 = 1 ∧ (∀ h : Int, 0 ≤ h → h < 30 → y 107 (2 * h) = cdB nh bl nd go h ∧ y 107 (2 * h + 1) = cdT nh nd h) ∧ (∀ w : Int, 0 ≤ w → w < 6 → y 107 (60 + w) = cdW nw yi de w)) := by
  obtain ⟨F1, f1, a1, a2⟩ := m_as1_L (F0 := y 107) (f0 := y 68 53) h30 e68 e99 e100 e72 30 0 Zfuel (y 107) (y 68 53) (by decide) (by unfold Zfuel; omega) ⟨hf, fun h h0 h1 => by omega, fun i _ => rfl, ⟨fun e => ⟨e, fun h h0 h1 => by omega⟩, fun e => e.1⟩⟩
  have a1 : F_X11_isAsFound (Zro y 107 (y 107)) = X11_isAsFound_b140 (Zro y 107 F1) f1 60 := a1
  rw [Zro_z] at a1
  obtain ⟨s1, s2, s3, s4⟩ := a2
  obtain ⟨G2, g2, b1, b2⟩ := m_as2_L (G0 := F1) (g0 := f1) h6 e47 ey 6 0 Zfuel F1 f1 (by decide) (by unfold Zfuel; omega) ⟨s1, fun w w0 w1 => by omega, fun i _ => rfl, ⟨fun e => ⟨e, fun w w0 w1 => by omega⟩, fun e => e.1⟩⟩
  have b1 : X11_isAsFound_b140 (Zro y 107 F1) f1 60 = some (g2, Zup (Zro y 107 G2) 68 53 1) := b1
  obtain ⟨r1, r2, r3, r4⟩ := b2
  refine ⟨G2, g2, by rw [a1, b1], r1, fun h h0 h1 => ?_, r2, fun e => ?_⟩
  · rw [r3 (2 * h) (Or.inl (by omega)), r3 (2 * h + 1) (Or.inl (by omega))]
    exact s2 h h0 h1
  · obtain ⟨q1, q2⟩ := r4.mp e
    obtain ⟨q3, q4⟩ := s4.mp q1
    exact ⟨q3, q4, fun w w0 w1 => by rw [← s3 (60 + w) (by omega)]; exact q2 w w0 w1⟩
/-! the same codes, the same costs -/
theorem hourR_cg {bl bl2 bg : Int → Int} {hr : Int} : ∀ (l : List Int) (now : Int) (lk lk2 sv sv2 : Int → Int), distL l → (∀ h ∈ l, bl h = bl2 h ∧ lk h = lk2 h ∧ sv h = sv2 h) → (hourR bl bg hr l now lk sv).1 = (hourR bl2 bg hr l now lk2 sv2).1 ∧ ∀ h ∈ l, (hourR bl bg hr l now lk sv).2.1 h = (hourR bl2 bg hr l now lk2 sv2).2.1 h ∧ (hourR bl bg hr l now lk sv).2.2 h = (hourR bl2 bg hr l now lk2 sv2).2.2 h
  | [], _, _, _, _, _, _, e => ⟨rfl, fun h hh => absurd hh (by simp)⟩
  | x :: t, now, lk, lk2, sv, sv2, d, e => by
    obtain ⟨d1, d2⟩ := distL_c d
    have ex := e x List.mem_cons_self
    have et := fun h hh => e h (List.mem_cons_of_mem _ hh)
    by_cases c : hr < bg (bl x) ∨ lk x = 0
    · have c' : hr < bg (bl2 x) ∨ lk2 x = 0 := by rw [← ex.1, ← ex.2.1]; exact c
      rw [hourR_skip c, hourR_skip c']
      have i := hourR_cg (bg := bg) (hr := hr) t now lk lk2 sv sv2 d2 et
      refine ⟨i.1, fun h hh => ?_⟩
      rcases List.mem_cons.mp hh with q | q
      · rw [q, (hourR_fr t now lk sv x d1).1, (hourR_fr t now lk2 sv2 x d1).1, (hourR_fr t now lk sv x d1).2, (hourR_fr t now lk2 sv2 x d1).2]
        exact ex.2
      · exact i.2 h q
    · have c' : ¬ (hr < bg (bl2 x) ∨ lk2 x = 0) := by rw [← ex.1, ← ex.2.1]; exact c
      by_cases c2 : now < lk x
      · rw [hourR_brk c c2, hourR_brk c' (by rw [← ex.2.1]; exact c2)]
        refine ⟨rfl, fun h hh => ?_⟩
        show fupd lk x (lk x - now) h = fupd lk2 x (lk2 x - now) h ∧ sv h = sv2 h
        have eh := e h hh
        unfold fupd
        rw [ex.2.1]
        by_cases q : h = x
        · rw [if_pos q, if_pos q]; exact ⟨rfl, eh.2.2⟩
        · rw [if_neg q, if_neg q]; exact eh.2
      · rw [hourR_srv c c2, hourR_srv c' (by rw [← ex.2.1]; exact c2), ← ex.2.1]
        have i := hourR_cg (bg := bg) (hr := hr) t (now - lk x) (fupd lk x 0) (fupd lk2 x 0) (fupd sv x hr) (fupd sv2 x hr) d2 (fun h hh => by
          have q := et h hh
          have ne : h ≠ x := fun w => d1 (by rw [← w]; exact hh)
          unfold fupd
          rw [if_neg ne, if_neg ne, if_neg ne, if_neg ne]
          exact q)
        refine ⟨i.1, fun h hh => ?_⟩
        rcases List.mem_cons.mp hh with q | q
        · have f1 := hourR_fr (bl := bl) (bg := bg) (hr := hr) t (now - lk x) (fupd lk x 0) (fupd sv x hr) x d1
          have f2 := hourR_fr (bl := bl2) (bg := bg) (hr := hr) t (now - lk x) (fupd lk2 x 0) (fupd sv2 x hr) x d1
          rw [q, f1.1, f1.2, f2.1, f2.2]
          exact ⟨(if_pos rfl : fupd lk x 0 x = 0).trans (if_pos rfl : fupd lk2 x 0 x = 0).symm, (if_pos rfl : fupd sv x hr x = hr).trans (if_pos rfl : fupd sv2 x hr x = hr).symm⟩
        · exact i.2 h q
theorem dayR_cg {bl bl2 bg : Int → Int} {yi : Int} {l : List Int} (d : distL l) (hb : ∀ h ∈ l, bl h = bl2 h) : ∀ (n : Nat) (left : Int) (lk lk2 sv sv2 : Int → Int), (∀ h ∈ l, lk h = lk2 h ∧ sv h = sv2 h) → ∀ h ∈ l, dayR bl bg yi l n left lk sv h = dayR bl2 bg yi l n left lk2 sv2 h
  | 0, _, _, _, _, _, e => fun h hh => (e h hh).2
  | n + 1, left, lk, lk2, sv, sv2, e => by
    have i := hourR_cg (bl := bl) (bl2 := bl2) (bg := bg) (hr := 23 - (n : Int)) l (min left yi) lk lk2 sv sv2 d (fun h hh => ⟨hb h hh, e h hh⟩)
    rw [dayR_s, dayR_s, i.1]
    exact dayR_cg d hb n _ _ _ _ _ i.2
theorem lineR_cg {go go2 nd nd2 : Int → Int} {w : Int} : ∀ n : Nat, (∀ h : Int, 0 ≤ h → h < n → go h = go2 h ∧ nd h = nd2 h) → lineR go nd w n = lineR go2 nd2 w n
  | 0, _ => rfl
  | n + 1, e => by
    have i := lineR_cg (w := w) n (fun h h0 h1 => e h h0 (by omega))
    have q := e n (by omega) (by omega)
    have u1 : lineR go nd w (n + 1) = if go n = w ∧ nd n ≠ 0 then lineR go nd w n ++ [(n : Int)] else lineR go nd w n := rfl
    have u2 : lineR go2 nd2 w (n + 1) = if go2 n = w ∧ nd2 n ≠ 0 then lineR go2 nd2 w n ++ [(n : Int)] else lineR go2 nd2 w n := rfl
    rw [u1, u2, i, q.1, q.2]
theorem costW_cg {bl bl2 nd nd2 go go2 yi yi2 de de2 : Int → Int} {nh nw : Nat} (e : ∀ h : Int, 0 ≤ h → h < nh → bl h = bl2 h ∧ nd h = nd2 h ∧ go h = go2 h ∧ go h < nw) (ew : ∀ w : Int, 0 ≤ w → w < nw → yi w = yi2 w ∧ de w = de2 w) (way : Int) : costW bl nd go yi de nh way = costW bl2 nd2 go2 yi2 de2 nh way := by
  have sv : ∀ h : Int, 0 ≤ h → h < nh → srvH bl (hrW way) nd go yi de nh h = srvH bl2 (hrW way) nd2 go2 yi2 de2 nh h := by
    intro h h0 h1
    have q := e h h0 h1
    unfold srvH srvW
    rw [← q.1, ← q.2.1, ← q.2.2.1]
    by_cases c : nd h = 0
    · rw [if_pos c, if_pos c]
    · rw [if_neg c, if_neg c]
      by_cases c2 : go h < 0
      · rw [if_pos c2, if_pos c2]
      · have qw := ew (go h) (by omega) q.2.2.2
        have el : lineR go2 nd2 (go h) nh = lineR go nd (go h) nh := (lineR_cg nh (fun x x0 x1 => ⟨(e x x0 x1).2.2.1, (e x x0 x1).2.1⟩)).symm
        have mem := lineR_mem go nd (go h) nh
        rw [if_neg c2, if_neg c2, ← qw.1, ← qw.2, el]
        exact dayR_cg (lineR_d _ _ _ _) (fun x hx => (e x ((mem x).mp hx).1 ((mem x).mp hx).2.1).1) 20 _ _ _ _ _ (fun x hx => ⟨(e x ((mem x).mp hx).1 ((mem x).mp hx).2.1).2.1, rfl⟩) h ((mem h).mpr ⟨h0, h1, rfl, c⟩)
  have key : ∀ n : Nat, n ≤ nh → costR bl (hrW way) nd go yi de nh n = costR bl2 (hrW way) nd2 go2 yi2 de2 nh n := by
    intro n
    induction n with
    | zero => intro _; rfl
    | succ n ih =>
      intro hn
      unfold costR
      rw [ih (by omega), sv n (by omega) (by omega)]
  exact key nh (Nat.le_refl _)
theorem isBest_u {f g : Int → Int} {a b : Int} (h : isBest f a) (k : isBest g b) (e : ∀ v, 0 ≤ v → v < 4096 → f v = g v) : a = b := by
  obtain ⟨h1, h2, h3, h4⟩ := h
  obtain ⟨k1, k2, k3, k4⟩ := k
  rcases Int.lt_trichotomy a b with q | q | q
  · have x := k4 a h1 q
    have y := h3 b k1 k2
    rw [e a h1 h2, e b k1 k2] at y
    omega
  · exact q
  · have x := h4 b k1 q
    have y := k3 a h1 h2
    rw [e a h1 h2, e b k1 k2] at x
    omega
