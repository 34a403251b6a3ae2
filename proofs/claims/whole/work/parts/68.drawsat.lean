/-! wells: the reference draws -/
theorem lackN_up {lk : Int → Int} {h v : Int} : ∀ {l : List Int}, distL l → h ∈ l → lackN (fupd lk h v) l = lackN lk l - (if lk h = 0 then 0 else 1) + (if v = 0 then 0 else 1)
  | [], _, e => absurd e (by simp)
  | x :: t, d, e => by
    obtain ⟨d1, d2⟩ := distL_c d
    have u : ∀ f : Int → Int, lackN f (x :: t) = (if f x = 0 then 0 else 1) + lackN f t := fun _ => rfl
    rw [u, u]
    by_cases c : h = x
    · have e1 : fupd lk h v x = v := if_pos c.symm
      have e2 : lackN (fupd lk h v) t = lackN lk t := lsm_cg (fun y hy => by
        have ne : y ≠ h := fun w => d1 (by rw [← c, ← w]; exact hy)
        have e3 : fupd lk h v y = lk y := if_neg ne
        show (if fupd lk h v y = 0 then (0 : Int) else 1) = if lk y = 0 then 0 else 1
        rw [e3])
      rw [e1, e2, c]
      omega
    · have mt : h ∈ t := by
        rcases List.mem_cons.mp e with w | w
        · exact absurd w c
        · exact w
      have e1 : fupd lk h v x = lk x := if_neg (fun w => c w.symm)
      rw [e1, lackN_up d2 mt]
      omega
theorem lackN_all {nd : Int → Int} : ∀ {l : List Int}, (∀ h ∈ l, nd h ≠ 0) → lackN nd l = l.length
  | [], _ => rfl
  | x :: t, e => by
    have u : lackN nd (x :: t) = (if nd x = 0 then 0 else 1) + lackN nd t := rfl
    rw [u, if_neg (e x List.mem_cons_self), lackN_all (fun h hh => e h (List.mem_cons_of_mem _ hh)), List.length_cons]
    omega
theorem lackN_b (lk : Int → Int) : ∀ l : List Int, 0 ≤ lackN lk l ∧ lackN lk l ≤ l.length
  | [] => ⟨Int.le_refl _, Int.le_refl _⟩
  | x :: t => by
    have i := lackN_b lk t
    have u : lackN lk (x :: t) = (if lk x = 0 then 0 else 1) + lackN lk t := rfl
    rw [u, List.length_cons]
    split <;> omega
theorem lackN_0 {lk : Int → Int} {l : List Int} (h : lackN lk l ≤ 0) : ∀ x ∈ l, lk x = 0 := by
  have hf : ∀ x : Int, (0 : Int) ≤ if lk x = 0 then 0 else 1 := fun x => by split <;> decide
  intro x hx
  have e := lsm_0 (f := fun x => if lk x = 0 then 0 else 1) hf h x hx
  apply Classical.byContradiction
  intro ne
  have e : (if lk x = 0 then (0 : Int) else 1) = 0 := e
  rw [if_neg ne] at e
  omega
section
variable {y : ZI} {l : List Int} {bl nd bg : Int → Int} {a2 : Nat} {w fr : Int}
/-- what stands in the reference's rows while well w's line draws -/
def DCn (y : ZI) (l : List Int) (bl nd : Int → Int) (w fr : Int) : Prop := 0 ≤ w ∧ w < 6 ∧ 0 ≤ fr ∧ fr + l.length ≤ 30 ∧ y 106 w = fr + l.length ∧ (∀ j : Nat, j < l.length → y 105 (fr + j) = nth l j) ∧ ∀ h ∈ l, 0 ≤ h ∧ h < 30 ∧ y 99 h = nd h ∧ y 72 h = bl h ∧ 0 ≤ bl h ∧ bl h ≤ 3
theorem m_dhour_L (h1 : a2 ≠ 101) (h2 : a2 ≠ 102) (hbg : ∀ b : Int, 0 ≤ b → b ≤ 3 → y a2 b = bg b) (hl : DCn y l bl nd w fr) (hd : distL l) (hnd : ∀ h, 0 ≤ nd h ∧ nd h ≤ 300) {hr : Int} {k39 : ZI → Int → Int → Int → Int → Int → Option (Unit × ZI)} : ∀ (s p : List Int) (now left : Int) (lk sv H S : Int → Int) (fu : Nat), l = p ++ s → s.length < fu → (∀ h ∈ l, H h = nd h - lk h ∧ S h = sv h) → 0 ≤ now → now ≤ left → left ≤ 9999 → (∀ h, 0 ≤ lk h ∧ lk h ≤ 300) → ∃ H2 S2, X11_drawsAt_L81 a2 4 k39 fu (Ztwo y 101 102 H S) w left fr (lackN lk l) hr now (fr + (p.length : Nat)) = X11_drawsAt_b225 a2 4 k39 (Ztwo y 101 102 H2 S2) w (left - (now - (hourR bl bg hr s now lk sv).1)) fr (lackN (hourR bl bg hr s now lk sv).2.1 l) hr ∧ (∀ h ∈ l, H2 h = nd h - (hourR bl bg hr s now lk sv).2.1 h ∧ S2 h = (hourR bl bg hr s now lk sv).2.2 h) ∧ (∀ x, x ∉ l → H2 x = H x ∧ S2 x = S x)
  | [], p, now, left, lk, sv, H, S, fu, e, hf, ha, n0, n1, n2, _ => by
    obtain ⟨fu, rfl⟩ : ∃ g, fu = g + 1 := ⟨fu - 1, by omega⟩
    obtain ⟨d1, d2, d3, d4, d5, d6, d7⟩ := hl
    rw [List.append_nil] at e
    refine ⟨H, S, ?_, ha, fun _ _ => ⟨rfl, rfl⟩⟩
    show X11_drawsAt_L81b a2 4 k39 (X11_drawsAt_L81 a2 4 k39 fu) _ _ _ _ _ _ _ _ = X11_drawsAt_b225 a2 4 k39 (Ztwo y 101 102 H S) w (left - (now - now)) fr (lackN lk l) hr
    unfold X11_drawsAt_L81b
    rw [Zgd_t (by omega), Ztwo_k (k := 106) (by decide) (by decide), d5, if_pos (by rw [e]; omega), show left - (now - now) = left by omega]
  | h :: t, p, now, left, lk, sv, H, S, fu, e, hf, ha, n0, n1, n2, hk => by
    obtain ⟨fu, rfl⟩ : ∃ g, fu = g + 1 := ⟨fu - 1, by omega⟩
    have hl0 := hl
    obtain ⟨d1, d2, d3, d4, d5, d6, d7⟩ := hl
    have ee : l = (p ++ [h]) ++ t := by rw [e, List.append_assoc]; rfl
    have nj : nth l p.length = h := by rw [e]; exact nth_app p h t
    have len : l.length = p.length + (t.length + 1) := by rw [e, List.length_append, List.length_cons]
    have jl : p.length < l.length := by omega
    have pl : (p ++ [h]).length = p.length + 1 := by rw [List.length_append, List.length_singleton]
    rw [List.length_cons] at hf
    have mem : h ∈ l := nth_mem.mpr ⟨p.length, jl, nj⟩
    have q := d7 h mem
    have hh := ha h mem
    have kh := hk h
    have nh := hnd h
    have sj := d6 p.length jl
    rw [nj] at sj
    have lb := lackN_b lk l
    have b219 : ∀ H' S' (x3 x5 x7 : Int), X11_drawsAt_b219 a2 4 k39 (X11_drawsAt_L81 a2 4 k39 fu) (Ztwo y 101 102 H' S') w x3 fr x5 hr x7 (fr + (p.length : Nat)) = X11_drawsAt_L81 a2 4 k39 fu (Ztwo y 101 102 H' S') w x3 fr x5 hr x7 (fr + ((p ++ [h]).length : Nat)) := by
      intro H' S' x3 x5 x7
      unfold X11_drawsAt_b219
      rw [Zgd_t (by omega), pl, show fr + (p.length : Int) + 1 = fr + ((p.length + 1 : Nat) : Int) by omega]
    have e0 : X11_drawsAt_L81 a2 4 k39 (fu + 1) (Ztwo y 101 102 H S) w left fr (lackN lk l) hr now (fr + (p.length : Nat)) = X11_drawsAt_L81b a2 4 k39 (X11_drawsAt_L81 a2 4 k39 fu) (Ztwo y 101 102 H S) w left fr (lackN lk l) hr now (fr + (p.length : Nat)) := rfl
    rw [e0]
    unfold X11_drawsAt_L81b
    rw [Zgd_t (by omega), Ztwo_k (k := 106) (by decide) (by decide), d5, if_neg (by omega)]
    by_cases c0 : now ≤ 0
    · have n00 : now = 0 := by omega
      rw [if_pos c0, n00, hourR_0 (h :: t) lk sv (fun x => (hk x).1)]
      refine ⟨H, S, ?_, ha, fun _ _ => ⟨rfl, rfl⟩⟩
      show _ = X11_drawsAt_b225 a2 4 k39 (Ztwo y 101 102 H S) w (left - (0 - 0)) fr (lackN lk l) hr
      rw [show left - (0 - 0) = left by omega]
    · rw [if_neg c0, Zgd_t (by omega), Ztwo_k (k := 105) (by decide) (by decide), sj, Zgd_t (by omega), Ztwo_k (k := 72) (by decide) (by decide), q.2.2.2.1, Zgd_t (by omega), Ztwo_k (k := a2) h1 h2, hbg _ q.2.2.2.2.1 q.2.2.2.2.2]
      by_cases c1 : hr < bg (bl h)
      · rw [if_pos c1, b219, hourR_skip (Or.inl c1)]
        exact m_dhour_L h1 h2 hbg hl0 hd hnd t (p ++ [h]) now left lk sv H S fu ee (by omega) ha n0 n1 n2 hk
      · rw [if_neg c1, Zgd_t (by omega), Zgd_t (by omega), Ztwo_a, Ztwo_k (k := 99) (by decide) (by decide), q.2.2.1, hh.1]
        by_cases c2 : lk h = 0
        · rw [if_pos (by omega), b219, hourR_skip (Or.inr c2)]
          exact m_dhour_L h1 h2 hbg hl0 hd hnd t (p ++ [h]) now left lk sv H S fu ee (by omega) ha n0 n1 n2 hk
        · have nc : ¬ (hr < bg (bl h) ∨ lk h = 0) := by omega
          rw [if_neg (by omega), Zgd_t (by omega), Zgd_t (by omega), show nd h - (nd h - lk h) = lk h by omega, Zgd_t (by omega)]
          by_cases c3 : now < lk h
          · rw [if_pos (by omega), hourR_brk nc c3]
            unfold X11_drawsAt_b171
            have ev : lackN (fupd lk h (lk h - now)) l = lackN lk l := by
              rw [lackN_up hd mem, if_neg c2, if_neg (by omega)]
              omega
            rw [Zgd_t (by omega), Ztwo_a, hh.1, Zgd_t (by omega), Zgd_t (by omega), Zl_eq, Ztwo_ua, Zgd_t (by omega), Zgd_t (by omega), if_neg (by omega), b219]
            have hk2 : ∀ x, 0 ≤ fupd lk h (lk h - now) x ∧ fupd lk h (lk h - now) x ≤ 300 := fun x => by
              unfold fupd
              have := hk x
              split <;> omega
            obtain ⟨H2, S2, i1, i2, i3⟩ := m_dhour_L h1 h2 hbg hl0 hd hnd t (p ++ [h]) (now - now) (left - now) (fupd lk h (lk h - now)) sv (fupd H h (nd h - lk h + now)) S fu ee (by omega) (fun x hx => by
              unfold fupd
              by_cases c : x = h
              · rw [if_pos c, if_pos c, c]
                exact ⟨by omega, hh.2⟩
              · rw [if_neg c, if_neg c]
                exact ha x hx) (by omega) (by omega) (by omega) hk2
            rw [show now - now = 0 by omega, hourR_0 t _ sv (fun x => (hk2 x).1), ev] at i1
            rw [show now - now = 0 by omega, hourR_0 t _ sv (fun x => (hk2 x).1)] at i2
            refine ⟨H2, S2, ?_, i2, fun x hx => ?_⟩
            · rw [show now - now = 0 by omega]
              show _ = X11_drawsAt_b225 a2 4 k39 (Ztwo y 101 102 H2 S2) w (left - (now - 0)) fr (lackN (fupd lk h (lk h - now)) l) hr
              rw [i1, ev]
              show X11_drawsAt_b225 a2 4 k39 (Ztwo y 101 102 H2 S2) w (left - now - (0 - 0)) fr _ hr = _
              rw [show left - now - (0 - 0) = left - (now - 0) by omega]
            · have := i3 x hx
              have nx : x ≠ h := fun e => hx (by rw [e]; exact mem)
              exact ⟨this.1.trans (if_neg nx), this.2⟩
          · have ev : lackN (fupd lk h 0) l = lackN lk l + (-1) := by
              rw [lackN_up hd mem, if_neg c2, if_pos rfl]
              omega
            have lp : 1 ≤ lackN lk l := by
              have := (lackN_b (fupd lk h 0) l).1
              omega
            have go : X11_drawsAt_b171 a2 4 k39 (X11_drawsAt_L81 a2 4 k39 fu) (Ztwo y 101 102 H S) w left fr (lackN lk l) hr now (fr + (p.length : Nat)) h (lk h) (lk h) = X11_drawsAt_L81 a2 4 k39 fu (Ztwo y 101 102 (fupd H h (nd h - lk h + lk h)) (fupd S h hr)) w (left - lk h) fr (lackN (fupd lk h 0) l) hr (now - lk h) (fr + ((p ++ [h]).length : Nat)) := by
              unfold X11_drawsAt_b171
              rw [Zgd_t (by omega), Ztwo_a, hh.1, Zgd_t (by omega), Zgd_t (by omega), Zl_eq, Ztwo_ua, Zgd_t (by omega), Zgd_t (by omega), if_pos (Int.le_refl _), Zgd_t (by omega), Zl_eq, Ztwo_ub (by decide), Zgd_t (by omega), b219, ev]
            have same : (if now ≤ lk h then X11_drawsAt_b171 a2 4 k39 (X11_drawsAt_L81 a2 4 k39 fu) (Ztwo y 101 102 H S) w left fr (lackN lk l) hr now (fr + (p.length : Nat)) h (lk h) now else X11_drawsAt_b171 a2 4 k39 (X11_drawsAt_L81 a2 4 k39 fu) (Ztwo y 101 102 H S) w left fr (lackN lk l) hr now (fr + (p.length : Nat)) h (lk h) (lk h)) = X11_drawsAt_b171 a2 4 k39 (X11_drawsAt_L81 a2 4 k39 fu) (Ztwo y 101 102 H S) w left fr (lackN lk l) hr now (fr + (p.length : Nat)) h (lk h) (lk h) := by
              by_cases cc : now ≤ lk h
              · rw [if_pos cc, show now = lk h by omega]
              · rw [if_neg cc]
            rw [same, go, hourR_srv nc c3]
            obtain ⟨H2, S2, i1, i2, i3⟩ := m_dhour_L h1 h2 hbg hl0 hd hnd t (p ++ [h]) (now - lk h) (left - lk h) (fupd lk h 0) (fupd sv h hr) (fupd H h (nd h - lk h + lk h)) (fupd S h hr) fu ee (by omega) (fun x hx => by
              unfold fupd
              by_cases c : x = h
              · rw [if_pos c, if_pos c, if_pos c, if_pos c, c]
                exact ⟨by omega, rfl⟩
              · rw [if_neg c, if_neg c, if_neg c, if_neg c]
                exact ha x hx) (by omega) (by omega) (by omega) (fun x => by
              unfold fupd
              have := hk x
              split <;> omega)
            refine ⟨H2, S2, ?_, i2, fun x hx => ?_⟩
            · rw [i1]
              rw [show ∀ r : Int, left - lk h - (now - lk h - r) = left - (now - r) from fun r => by omega]
            · have := i3 x hx
              have nx : x ≠ h := fun e => hx (by rw [e]; exact mem)
              exact ⟨this.1.trans (if_neg nx), this.2.trans (if_neg nx)⟩
theorem m_dday_L (h1 : a2 ≠ 101) (h2 : a2 ≠ 102) (hbg : ∀ b : Int, 0 ≤ b → b ≤ 3 → y a2 b = bg b) (hl : DCn y l bl nd w fr) (hd : distL l) (hnd : ∀ h, 0 ≤ nd h ∧ nd h ≤ 300) {yi : Int} (hy : y 96 w = yi) (hy1 : 1 ≤ yi ∧ yi ≤ 99) : ∀ (n fu : Nat) (left : Int) (lk sv H S : Int → Int), n ≤ 20 → n < fu → (∀ h ∈ l, H h = nd h - lk h ∧ S h = sv h) → 0 ≤ left → left ≤ 9999 → (∀ h, 0 ≤ lk h ∧ lk h ≤ 300) → ∃ H2 S2, X11_drawsAt_L39 a2 4 fu (Ztwo y 101 102 H S) w left fr (lackN lk l) (24 - (n : Int)) = some ((), Ztwo y 101 102 H2 S2) ∧ (∀ h ∈ l, S2 h = dayR bl bg yi l n left lk sv h) ∧ (∀ x, x ∉ l → H2 x = H x ∧ S2 x = S x)
  | 0, fu, left, lk, sv, H, S, _, hf, ha, l0, l1, hk => by
    obtain ⟨fu, rfl⟩ : ∃ g, fu = g + 1 := ⟨fu - 1, by omega⟩
    refine ⟨H, S, ?_, fun h hh => (ha h hh).2, fun _ _ => ⟨rfl, rfl⟩⟩
    show X11_drawsAt_L39b a2 4 (X11_drawsAt_L39 a2 4 fu) _ _ _ _ _ _ = _
    unfold X11_drawsAt_L39b X11_drawsAt_b231
    rw [if_pos (by omega)]
  | n + 1, fu, left, lk, sv, H, S, hn, hf, ha, l0, l1, hk => by
    obtain ⟨fu, rfl⟩ : ∃ g, fu = g + 1 := ⟨fu - 1, by omega⟩
    have hw0 := hl.1
    have hw1 := hl.2.1
    have e0 : X11_drawsAt_L39 a2 4 (fu + 1) (Ztwo y 101 102 H S) w left fr (lackN lk l) (24 - ((n + 1 : Nat) : Int)) = X11_drawsAt_L39b a2 4 (X11_drawsAt_L39 a2 4 fu) (Ztwo y 101 102 H S) w left fr (lackN lk l) (24 - ((n + 1 : Nat) : Int)) := rfl
    rw [e0]
    unfold X11_drawsAt_L39b X11_drawsAt_b231
    rw [if_neg (by omega)]
    by_cases c1 : left ≤ 0
    · rw [if_pos c1]
      refine ⟨H, S, rfl, fun h hh => ?_, fun _ _ => ⟨rfl, rfl⟩⟩
      rw [dayR_nop (by omega) (n + 1) left lk sv (fun h => (hk h).1) (Or.inl (by omega))]
      exact (ha h hh).2
    · rw [if_neg c1]
      by_cases c2 : lackN lk l ≤ 0
      · rw [if_pos c2]
        refine ⟨H, S, rfl, fun h hh => ?_, fun _ _ => ⟨rfl, rfl⟩⟩
        rw [dayR_nop (by omega) (n + 1) left lk sv (fun h => (hk h).1) (Or.inr (lackN_0 c2))]
        exact (ha h hh).2
      · have hb2 := hourR_b (bl := bl) (bg := bg) (hr := 23 - (n : Int)) l (min left yi) lk sv (by omega) hk (by decide)
        obtain ⟨H1, S1, i1, i2, i3⟩ := m_dhour_L h1 h2 hbg hl hd hnd (hr := 23 - (n : Int)) (k39 := X11_drawsAt_L39 a2 4 fu) l [] (min left yi) left lk sv H S Zfuel rfl (by have := hl.2.2.2.1; have := hl.2.2.1; unfold Zfuel; omega) ha (by omega) (by omega) l1 hk
        have i1 : X11_drawsAt_b75 a2 4 (X11_drawsAt_L39 a2 4 fu) (Ztwo y 101 102 H S) w left fr (lackN lk l) (23 - (n : Int)) (min left yi) = X11_drawsAt_b225 a2 4 (X11_drawsAt_L39 a2 4 fu) (Ztwo y 101 102 H1 S1) w (left - (min left yi - (hourR bl bg (23 - (n : Int)) l (min left yi) lk sv).1)) fr (lackN (hourR bl bg (23 - (n : Int)) l (min left yi) lk sv).2.1 l) (23 - (n : Int)) := by
          unfold X11_drawsAt_b75
          rw [← i1, show fr + (([] : List Int).length : Int) = fr by (show fr + ((0 : Nat) : Int) = fr; omega)]
        obtain ⟨H2, S2, j1, j2, j3⟩ := m_dday_L h1 h2 hbg hl hd hnd hy hy1 n fu _ _ _ H1 S1 (by omega) (by omega) i2 (by omega : 0 ≤ left - (min left yi - (hourR bl bg (23 - (n : Int)) l (min left yi) lk sv).1)) (by omega) hb2.2.2
        refine ⟨H2, S2, ?_, ?_, fun x hx => ?_⟩
        · have same : (if left ≤ yi then X11_drawsAt_b75 a2 4 (X11_drawsAt_L39 a2 4 fu) (Ztwo y 101 102 H S) w left fr (lackN lk l) (23 - (n : Int)) left else Zgd (IJ w 6) (X11_drawsAt_b75 a2 4 (X11_drawsAt_L39 a2 4 fu) (Ztwo y 101 102 H S) w left fr (lackN lk l) (23 - (n : Int)) yi)) = X11_drawsAt_b75 a2 4 (X11_drawsAt_L39 a2 4 fu) (Ztwo y 101 102 H S) w left fr (lackN lk l) (23 - (n : Int)) (min left yi) := by
            by_cases cc : left ≤ yi
            · rw [if_pos cc, show min left yi = left by omega]
            · rw [if_neg cc, Zgd_t (by omega), show min left yi = yi by omega]
          rw [if_neg c2, Zgd_t (by omega), Ztwo_k (k := 96) (by decide) (by decide), hy, show 24 - ((n + 1 : Nat) : Int) = 23 - (n : Int) by omega, same, i1]
          unfold X11_drawsAt_b225
          rw [Zgd_t (by omega), show 23 - (n : Int) + 1 = 24 - (n : Int) by omega]
          exact j1
        · intro h hh
          rw [dayR_s]
          exact j2 h hh
        · have a := i3 x hx
          have b := j3 x hx
          exact ⟨b.1.trans a.1, b.2.trans a.2⟩
end
