/-! fire: the class finds what burns together -/
def BIn (z : ZI) (s : Int) (n : Nat) (h : Int) (b0 b q : Int → Int) (m : Nat) : Prop := (1 ≤ m) ∧ (∀ j : Int, 0 ≤ j → j < m → 0 ≤ q j ∧ q j < n ∧ b0 (q j) = 0 ∧ Cl z s (q j) = 0 ∧ PLs z s (q j) = PLs z s h) ∧ (∀ i j : Int, 0 ≤ i → i < j → j < m → q i ≠ q j) ∧ (∀ v : Int, 0 ≤ v → v < n → (b v = 0 ∨ b v = 1) ∧ (b v = 1 ↔ (b0 v = 1 ∨ ∃ j : Int, 0 ≤ j ∧ j < m ∧ q j = v))) ∧ (sumR (fun v => b v) n = sumR (fun v => b0 v) n + m) ∧ (q 0 = h) ∧ (∀ v : Int, 0 ≤ v → v < n → b0 v = 0 ∨ b0 v = 1)
theorem BIn.pos {z : ZI} {s : Int} {n : Nat} {h : Int} {b0 b q : Int → Int} {m : Nat} (H : BIn z s n h b0 b q m) : 1 ≤ m := H.1
theorem BIn.mem {z : ZI} {s : Int} {n : Nat} {h : Int} {b0 b q : Int → Int} {m : Nat} (H : BIn z s n h b0 b q m) : ∀ j : Int, 0 ≤ j → j < m → 0 ≤ q j ∧ q j < n ∧ b0 (q j) = 0 ∧ Cl z s (q j) = 0 ∧ PLs z s (q j) = PLs z s h := H.2.1
theorem BIn.inj {z : ZI} {s : Int} {n : Nat} {h : Int} {b0 b q : Int → Int} {m : Nat} (H : BIn z s n h b0 b q m) : ∀ i j : Int, 0 ≤ i → i < j → j < m → q i ≠ q j := H.2.2.1
theorem BIn.row {z : ZI} {s : Int} {n : Nat} {h : Int} {b0 b q : Int → Int} {m : Nat} (H : BIn z s n h b0 b q m) : ∀ v : Int, 0 ≤ v → v < n → (b v = 0 ∨ b v = 1) ∧ (b v = 1 ↔ (b0 v = 1 ∨ ∃ j : Int, 0 ≤ j ∧ j < m ∧ q j = v)) := H.2.2.2.1
theorem BIn.cnt {z : ZI} {s : Int} {n : Nat} {h : Int} {b0 b q : Int → Int} {m : Nat} (H : BIn z s n h b0 b q m) : sumR (fun v => b v) n = sumR (fun v => b0 v) n + m := H.2.2.2.2.1
theorem BIn.fst {z : ZI} {s : Int} {n : Nat} {h : Int} {b0 b q : Int → Int} {m : Nat} (H : BIn z s n h b0 b q m) : q 0 = h := H.2.2.2.2.2.1
theorem BIn.old {z : ZI} {s : Int} {n : Nat} {h : Int} {b0 b q : Int → Int} {m : Nat} (H : BIn z s n h b0 b q m) : ∀ v : Int, 0 ≤ v → v < n → b0 v = 0 ∨ b0 v = 1 := H.2.2.2.2.2.2
section
variable {z : ZI} {s h : Int} {n : Nat} {b0 : Int → Int}
theorem BIn_m {b q : Int → Int} {m : Nat} (H : BIn z s n h b0 b q m) : m ≤ n :=
  fb_holes n m (fun i => (q i).toNat) (fun i hi => by
    have := H.mem i (by omega) (by omega)
    show (q i).toNat < n
    omega) (fun i j hij hj => by
    have a := H.mem i (by omega) (by omega)
    have b := H.mem j (by omega) (by omega)
    have c := H.inj i j (by omega) (by omega) (by omega)
    show (q i).toNat ≠ (q j).toNat
    omega)
theorem BIn_add {b q : Int → Int} {m : Nat} (H : BIn z s n h b0 b q m) {v : Int} (v0 : 0 ≤ v) (v1 : v < n) (hb : b v = 0) (hc : Cl z s v = 0) (hl : PLs z s v = PLs z s h) : BIn z s n h b0 (fupd b v 1) (fupd q m v) (m + 1) := by
  have hr := H.row v v0 v1
  have nb0 : b0 v ≠ 1 := fun e => by
    have := hr.2.mpr (Or.inl e)
    omega
  have nS : ∀ j : Int, 0 ≤ j → j < m → q j ≠ v := fun j j0 j1 e => by
    have := hr.2.mpr (Or.inr ⟨j, j0, j1, e⟩)
    omega
  have qo : ∀ j : Int, j < m → fupd q m v j = q j := fun j hj => if_neg (by omega)
  have qm : fupd q m v m = v := if_pos rfl
  have p := H.pos
  refine ⟨by omega, fun j j0 j1 => ?_, fun i j i0 ij j1 => ?_, fun x x0 x1 => ?_, ?_, ?_, H.old⟩
  · by_cases e : j = m
    · rw [e, qm]
      refine ⟨v0, v1, ?_, hc, hl⟩
      have b00 : b0 v = 0 := (H.old v v0 v1).resolve_right nb0
      exact b00
    · rw [qo j (by omega)]
      exact H.mem j j0 (by omega)
  · rw [qo i (by omega)]
    by_cases e : j = m
    · rw [e, qm]
      exact nS i i0 (by omega)
    · rw [qo j (by omega)]
      exact H.inj i j i0 ij (by omega)
  · have r := H.row x x0 x1
    unfold fupd
    by_cases e : x = v
    · rw [if_pos e]
      exact ⟨Or.inr rfl, ⟨fun _ => Or.inr ⟨m, by omega, by omega, by rw [if_pos rfl, e]⟩, fun _ => rfl⟩⟩
    · rw [if_neg e]
      refine ⟨r.1, r.2.trans ⟨fun t => ?_, fun t => ?_⟩⟩
      · rcases t with t | ⟨j, j0, j1, j2⟩
        · exact Or.inl t
        · exact Or.inr ⟨j, j0, by omega, by rw [if_neg (by omega)]; exact j2⟩
      · rcases t with t | ⟨j, j0, j1, j2⟩
        · exact Or.inl t
        · by_cases w : j = m
          · rw [if_pos w] at j2
            exact absurd j2.symm e
          · rw [if_neg w] at j2
            exact Or.inr ⟨j, j0, by omega, j2⟩
  · have up := sumR_up (f := fun j : Nat => fupd b v 1 j) (g := fun j : Nat => b j) (k := v.toNat) n (by omega) (fun j hj hne => if_neg (by omega))
    have e1 : fupd b v 1 ((v.toNat : Nat) : Int) = 1 := if_pos (by omega)
    rw [e1, show ((v.toNat : Nat) : Int) = v by omega, hb] at up
    have c := H.cnt
    omega
  · rw [qo 0 (by omega)]
    exact H.fst
/-- those of the first k have their sides burnt -/
def PRn (z : ZI) (s : Int) (b q : Int → Int) (k : Int) : Prop := ∀ j d : Int, 0 ≤ j → j < k → 0 ≤ d → d < 4 → 0 ≤ nxF z s (q j) d → b (nxF z s (q j) d) = 1
theorem x_bside_L (hH : JH z) (hX : JX z) (hn : z 68 12 = n) {k20 : ZI → Int → Int → Int → Option (Int × ZI)} {i : Nat} : ∀ (r k fu : Nat) (b q : Int → Int) (m : Nat), k + r = 4 → r < fu → BIn z s n h b0 b q m → i < m → PRn z s b q i → (∀ d : Int, 0 ≤ d → d < k → 0 ≤ nxF z s (q i) d → b (nxF z s (q i) d) = 1) → ∃ b2 q2 m2, X2_burnFrom_L37 k20 fu (Ztwo z 57 58 b q) s m i k = X2_burnFrom_b110 k20 (Ztwo z 57 58 b2 q2) s (m2 : Nat) i ∧ BIn z s n h b0 b2 q2 m2 ∧ i < m2 ∧ PRn z s b2 q2 ((i + 1 : Nat) : Int) := by
  have h30 := hH.2.1
  intro r
  induction r with
  | zero =>
    intro k fu b q m hk hf H him hp hs
    obtain ⟨fu, rfl⟩ : ∃ g, fu = g + 1 := ⟨fu - 1, by omega⟩
    obtain rfl : k = 4 := by omega
    refine ⟨b, q, m, ?_, H, him, fun j d j0 j1 d0 d1 => ?_⟩
    · show X2_burnFrom_L37b k20 (X2_burnFrom_L37 k20 fu) _ _ _ _ _ = _
      unfold X2_burnFrom_L37b
      rw [if_pos (by decide)]
    · by_cases e : j = i
      · rw [e]; exact hs d d0 d1
      · exact hp j d j0 (by omega) d0 d1
  | succ r ih =>
    intro k fu b q m hk hf H him hp hs
    obtain ⟨fu, rfl⟩ : ∃ g, fu = g + 1 := ⟨fu - 1, by omega⟩
    have hm := BIn_m H
    have qi := H.mem i (by omega) (by omega)
    have e0 : X2_burnFrom_L37 k20 (fu + 1) (Ztwo z 57 58 b q) s m i k = X2_burnFrom_L37b k20 (X2_burnFrom_L37 k20 fu) (Ztwo z 57 58 b q) s m i k := rfl
    have b104 : ∀ (b' q' : Int → Int) (m' : Int), X2_burnFrom_b104 k20 (X2_burnFrom_L37 k20 fu) (Ztwo z 57 58 b' q') s m' i k = X2_burnFrom_L37 k20 fu (Ztwo z 57 58 b' q') s m' i ((k + 1 : Nat) : Int) := by
      intro b' q' m'
      unfold X2_burnFrom_b104
      rw [Zgd_t (by omega), show (k : Int) + 1 = ((k + 1 : Nat) : Int) by omega]
    have en := x_next2 (z := Ztwo z 57 58 b q) (s := s) (h := q i) (d := k) (JH_c rfl rfl rfl rfl rfl rfl rfl hH) (JX_c rfl rfl rfl rfl rfl hX) (by show 0 ≤ q i ∧ q i < z 68 12; omega)
    have en2 : nxF (Ztwo z 57 58 b q) s (q i) k = nxF z s (q i) k := rfl
    rw [en2] at en
    have nb := nxF_b hH s (q i) k
    rw [e0]
    unfold X2_burnFrom_L37b
    rw [if_neg (by omega), Zgd_t (by omega), Ztwo_b (by decide), en, Yb_some]
    by_cases c : nxF z s (q i) k = -9
    · rw [if_pos c, b104]
      refine ih (k + 1) fu b q m (by omega) (by omega) H him hp (fun d d0 d1 dn => ?_)
      by_cases e : d = k
      · rw [e] at dn; omega
      · exact hs d d0 (by omega) dn
    · have nr : 0 ≤ nxF z s (q i) k ∧ nxF z s (q i) k < n := by omega
      have row := H.row _ nr.1 nr.2
      rw [if_neg c, Zgd_t (by omega), Ztwo_a]
      by_cases t : b (nxF z s (q i) k) = 0
      · have nc : nxC z s (q i) k = nxF z s (q i) k := if_pos qi.2.2.2.1
        have sy := nxC_sym hH (s := s) (u := q i) (d := k) (by omega) (by omega) (by rw [nc]; exact nr.1)
        have pe := PLs_e hH (s := s) (u := q i) (d := k) (by omega) (by omega) (by rw [nc]; exact nr.1)
        rw [nc] at sy pe
        have HA := BIn_add H nr.1 nr.2 t sy.2.1 (pe.trans qi.2.2.2.2)
        have hm2 := BIn_m HA
        have qo : ∀ j : Int, j < m → fupd q m (nxF z s (q i) k) j = q j := fun j hj => if_neg (by omega)
        have bo : ∀ x : Int, b x = 1 → fupd b (nxF z s (q i) k) 1 x = 1 := fun x hx => by
          unfold fupd
          split
          · rfl
          · exact hx
        have i1 := ih (k + 1) fu (fupd b (nxF z s (q i) k) 1) (fupd q m (nxF z s (q i) k)) (m + 1) (by omega) (by omega) HA (by omega) (fun j d j0 j1 d0 d1 => by
          rw [qo j (by omega)]
          exact fun e => bo _ (hp j d j0 j1 d0 d1 e)) (fun d d0 d1 => by
          rw [qo i (by omega)]
          intro dn
          by_cases e : d = k
          · rw [e]; exact if_pos rfl
          · exact bo _ (hs d d0 (by omega) dn))
        rw [if_pos t, if_neg (by omega), Zgd_t (by omega), Zl_eq, Ztwo_ua, Zgd_t (by omega), Zl_eq, Ztwo_ub (by decide), Zgd_t (by omega), b104, show (m : Int) + 1 = ((m + 1 : Nat) : Int) by omega]
        exact i1
      · rw [if_neg t, b104]
        refine ih (k + 1) fu b q m (by omega) (by omega) H him hp (fun d d0 d1 dn => ?_)
        by_cases e : d = k
        · rw [e]; exact row.1.resolve_left t
        · exact hs d d0 (by omega) dn
theorem x_burn_L (hH : JH z) (hX : JX z) (hn : z 68 12 = n) : ∀ (r i fu : Nat) (b q : Int → Int) (m : Nat), i + r = n → r < fu → i ≤ m → BIn z s n h b0 b q m → PRn z s b q i → ∃ b2 q2 m2, X2_burnFrom_L20 fu (Ztwo z 57 58 b q) s m i = some (((m2 : Nat) : Int), Ztwo z 57 58 b2 q2) ∧ BIn z s n h b0 b2 q2 m2 ∧ PRn z s b2 q2 m2 := by
  have h30 := hH.2.1
  have stop : ∀ (i fu : Nat) (b q : Int → Int) (m : Nat), m ≤ i → X2_burnFrom_L20 (fu + 1) (Ztwo z 57 58 b q) s m i = some (((m : Nat) : Int), Ztwo z 57 58 b q) := by
    intro i fu b q m hm
    show X2_burnFrom_L20b (X2_burnFrom_L20 fu) _ _ _ _ = _
    unfold X2_burnFrom_L20b X2_burnFrom_b116
    rw [if_pos (by omega)]
  intro r
  induction r with
  | zero =>
    intro i fu b q m hk hf him H hp
    obtain ⟨fu, rfl⟩ : ∃ g, fu = g + 1 := ⟨fu - 1, by omega⟩
    have hm := BIn_m H
    obtain rfl : i = m := by omega
    exact ⟨b, q, i, stop i fu b q i (Nat.le_refl _), H, hp⟩
  | succ r ih =>
    intro i fu b q m hk hf him H hp
    obtain ⟨fu, rfl⟩ : ∃ g, fu = g + 1 := ⟨fu - 1, by omega⟩
    by_cases c : i = m
    · subst c
      exact ⟨b, q, i, stop i fu b q i (Nat.le_refl _), H, hp⟩
    · obtain ⟨b2, q2, m2, a1, a2, a3, a4⟩ := x_bside_L (k20 := X2_burnFrom_L20 fu) (i := i) hH hX hn 4 0 Zfuel b q m (by decide) (by unfold Zfuel; omega) H (by omega) hp (fun d d0 d1 => by omega)
      have a1 : X2_burnFrom_L37 (X2_burnFrom_L20 fu) Zfuel (Ztwo z 57 58 b q) s m i 0 = _ := a1
      have e0 : X2_burnFrom_L20 (fu + 1) (Ztwo z 57 58 b q) s m i = X2_burnFrom_L20b (X2_burnFrom_L20 fu) (Ztwo z 57 58 b q) s m i := rfl
      rw [e0]
      unfold X2_burnFrom_L20b
      rw [if_neg (by omega), if_neg (by omega), a1]
      unfold X2_burnFrom_b110
      rw [Zgd_t (by omega), show (i : Int) + 1 = ((i + 1 : Nat) : Int) by omega]
      exact ih (i + 1) fu b2 q2 m2 (by omega) (by omega) (by omega) a2 a4
/-- burnt are the cleared, and of the others parts that are whole -/
def OBn (z : ZI) (s : Int) (n : Nat) (b : Int → Int) : Prop := ∀ v : Int, 0 ≤ v → v < n → (b v = 0 ∨ b v = 1) ∧ (Cl z s v = 1 → b v = 1) ∧ ∀ w : Int, 0 ≤ w → w < n → Cl z s v = 0 → Cl z s w = 0 → PLs z s v = PLs z s w → b v = b w
theorem x_burn (hH : JH z) (hX : JX z) (hn : z 68 12 = n) {q0 : Int → Int} (hb : OBn z s n b0) (hh : 0 ≤ h ∧ h < n) (hb0 : b0 h = 0) : ∃ b q, F_X2_burnFrom (Ztwo z 57 58 b0 q0) h s = some (cntS z s (PLs z s h), Ztwo z 57 58 b q) ∧ OBn z s n b ∧ b h = 1 ∧ (∀ v : Int, 0 ≤ v → v < n → (b v = 1 ↔ (b0 v = 1 ∨ (Cl z s v = 0 ∧ PLs z s v = PLs z s h)))) := by
  have h30 := hH.2.1
  have hc : Cl z s h = 0 := by
    rcases Cl_01 z s h with c | c
    · exact c
    · have := (hb h hh.1 hh.2).2.1 c
      omega
  have H0 : BIn z s n h b0 (fupd b0 h 1) (fupd q0 0 h) 1 := by
    refine ⟨Nat.le_refl _, fun j j0 j1 => ?_, fun i j i0 ij j1 => by omega, fun v v0 v1 => ?_, ?_, if_pos rfl, fun v v0 v1 => (hb v v0 v1).1⟩
    · obtain rfl : j = 0 := by omega
      have : fupd q0 0 h 0 = h := if_pos rfl
      rw [this]
      exact ⟨hh.1, hh.2, hb0, hc, rfl⟩
    · have r := hb v v0 v1
      unfold fupd
      by_cases e : v = h
      · rw [if_pos e]
        exact ⟨Or.inr rfl, ⟨fun _ => Or.inr ⟨0, by decide, by decide, by rw [if_pos rfl, e]⟩, fun _ => rfl⟩⟩
      · rw [if_neg e]
        refine ⟨r.1, ⟨fun t => Or.inl t, fun t => ?_⟩⟩
        rcases t with t | ⟨j, j0, j1, j2⟩
        · exact t
        · rw [if_pos (by omega)] at j2
          exact absurd j2.symm e
    · have up := sumR_up (f := fun j : Nat => fupd b0 h 1 j) (g := fun j : Nat => b0 j) (k := h.toNat) n (by omega) (fun j hj hne => if_neg (by omega))
      have e1 : fupd b0 h 1 ((h.toNat : Nat) : Int) = 1 := if_pos (by omega)
      rw [e1, show ((h.toNat : Nat) : Int) = h by omega, hb0] at up
      omega
  obtain ⟨b, q, m, a1, H, hp⟩ := x_burn_L (s := s) hH hX hn n 0 Zfuel (fupd b0 h 1) (fupd q0 0 h) 1 (by omega) (by unfold Zfuel; omega) (by omega) H0 (fun j d j0 j1 => by omega)
  have a1 : X2_burnFrom_L20 Zfuel (Ztwo z 57 58 (fupd b0 h 1) (fupd q0 0 h)) s 1 0 = some ((m : Int), Ztwo z 57 58 b q) := a1
  have hS : ∀ v : Int, 0 ≤ v → v < n → ((∃ j : Int, 0 ≤ j ∧ j < m ∧ q j = v) ↔ (Cl z s v = 0 ∧ PLs z s v = PLs z s h)) := by
    have fwd : ∀ u d : Int, 0 ≤ d → d < 4 → 0 ≤ nxC z s u d → (∃ j : Int, 0 ≤ j ∧ j < m ∧ q j = u) → ∃ j : Int, 0 ≤ j ∧ j < m ∧ q j = nxC z s u d := by
      intro u d d0 d1 hd ⟨j, j0, j1, j2⟩
      have mj := H.mem j j0 j1
      rw [j2] at mj
      have nc : nxC z s u d = nxF z s u d := if_pos mj.2.2.2.1
      have nb := nxC_b hH s u d
      have sy := nxC_sym hH (s := s) (u := u) (d := d) (by omega) ⟨d0, d1⟩ hd
      have pe := PLs_e hH (s := s) (u := u) (d := d) (by omega) ⟨d0, d1⟩ hd
      have b1 := hp j d j0 j1 d0 d1 (by rw [j2, ← nc]; exact hd)
      rw [j2, ← nc] at b1
      rcases (H.row _ hd (by omega)).2.mp b1 with t | t
      · have := (hb _ hd (by omega)).2.2 h hh.1 hh.2 sy.2.1 hc (pe.trans mj.2.2.2.2)
        omega
      · exact t
    intro v v0 v1
    constructor
    · rintro ⟨j, j0, j1, j2⟩
      have mj := H.mem j j0 j1
      rw [j2] at mj
      exact ⟨mj.2.2.2.1, mj.2.2.2.2⟩
    · rintro ⟨vc, vl⟩
      have cl : clsC (z 68 12).toNat (nxC z s) (fun x => ∃ j : Int, 0 ≤ j ∧ j < m ∧ q j = x) := by
        intro u d u0 u1 d0 d1 hd
        refine ⟨fwd u d d0 d1 hd, fun t => ?_⟩
        have sy := nxC_sym hH (s := s) (u := u) (d := d) (by omega) ⟨d0, d1⟩ hd
        have := fwd (nxC z s u d) ((d + 2) % 4) (by omega) (by omega) (by rw [sy.2.2]; exact u0) t
        rw [sy.2.2] at this
        exact this
      have h0 : ∃ j : Int, 0 ≤ j ∧ j < m ∧ q j = h := ⟨0, by decide, by have := H.pos; omega, H.fst⟩
      have t1 := (PLs_S cl hh.1 (by omega)).mp h0
      rw [← vl] at t1
      exact (PLs_S cl v0 (by omega)).mpr t1
  have hB : ∀ v : Int, 0 ≤ v → v < n → (b v = 1 ↔ (b0 v = 1 ∨ (Cl z s v = 0 ∧ PLs z s v = PLs z s h))) := by
    intro v v0 v1
    rw [(H.row v v0 v1).2, hS v v0 v1]
  have cm : (m : Int) = cntS z s (PLs z s h) := by
    have e : sumR (fun v => b v) n = sumR (fun v => b0 v + (if PLs z s v = PLs z s h ∧ Cl z s v = 0 then 1 else 0)) n := by
      refine sumR_cg n (fun j hj => ?_)
      have x := hB j (by omega) (by omega)
      have y := (H.row j (by omega) (by omega)).1
      have y0 := (hb j (by omega) (by omega)).1
      show b j = b0 j + (if PLs z s j = PLs z s h ∧ Cl z s j = 0 then 1 else 0)
      by_cases t : PLs z s j = PLs z s h ∧ Cl z s j = 0
      · have z0 := (hb j (by omega) (by omega)).2.2 h hh.1 hh.2 t.2 hc t.1
        have z1 := x.mpr (Or.inr ⟨t.2, t.1⟩)
        rw [if_pos t]
        omega
      · rw [if_neg t]
        rcases y with y | y
        · have : b0 j ≠ 1 := fun w => by
            have := x.mpr (Or.inl w)
            omega
          omega
        · rcases x.mp y with w | w
          · omega
          · exact absurd ⟨w.2, w.1⟩ t
    rw [sumR_add] at e
    have c := H.cnt
    have en : (z 68 12).toNat = n := by omega
    unfold cntS
    rw [en]
    omega
  refine ⟨b, q, ?_, fun v v0 v1 => ⟨(H.row v v0 v1).1, fun t => ?_, fun w w0 w1 c1 c2 e => ?_⟩, ?_, hB⟩
  · unfold F_X2_burnFrom
    rw [Zgd_t (by omega), Zl_eq, Ztwo_ub (by decide), Zgd_t (by omega), Zl_eq, Ztwo_ua, a1, cm]
  · exact (hB v v0 v1).mpr (Or.inl ((hb v v0 v1).2.1 t))
  · have x1 := hB v v0 v1
    have x2 := hB w w0 w1
    have y1 := (H.row v v0 v1).1
    have y2 := (H.row w w0 w1).1
    have eo := (hb v v0 v1).2.2 w w0 w1 c1 c2 e
    rw [e, eo] at x1
    have iff2 : b v = 1 ↔ b w = 1 := by
      rw [x1, x2]
      exact ⟨fun t => t.imp id (fun r => ⟨c2, r.2⟩), fun t => t.imp id (fun r => ⟨c1, r.2⟩)⟩
    omega
  · exact (hB h hh.1 hh.2).mpr (Or.inr ⟨hc, rfl⟩)
theorem x_holds0_L {most : Int} (hH : JH z) (hX : JX z) (hn : z 68 12 = n) {q : Int → Int} : ∀ (r k fu : Nat) (b : Int → Int), k + r = n → r < fu → (∀ v : Int, 0 ≤ v → v < k → b v = Cl z s v) → ∃ b2, X2_holds_L3 fu (Ztwo z 57 58 b q) most s k = X2_holds_b32 (Ztwo z 57 58 b2 q) most s ∧ (∀ v : Int, 0 ≤ v → v < n → b2 v = Cl z s v) := by
  have h30 := hH.2.1
  have hh : z 11 0 = n := hH.2.2.1.trans hn
  intro r
  induction r with
  | zero =>
    intro k fu b hk hf h
    obtain ⟨fu, rfl⟩ : ∃ g, fu = g + 1 := ⟨fu - 1, by omega⟩
    obtain rfl : k = n := by omega
    refine ⟨b, ?_, h⟩
    show X2_holds_L3b (X2_holds_L3 fu) _ _ _ _ = _
    unfold X2_holds_L3b
    rw [Ztwo_k (k := 11) (by decide) (by decide), if_pos (by omega)]
  | succ r ih =>
    intro k fu b hk hf h
    obtain ⟨fu, rfl⟩ : ∃ g, fu = g + 1 := ⟨fu - 1, by omega⟩
    have e0 : X2_holds_L3 (fu + 1) (Ztwo z 57 58 b q) most s k = X2_holds_L3b (X2_holds_L3 fu) (Ztwo z 57 58 b q) most s k := rfl
    have ec := x_cleared (z := Ztwo z 57 58 b q) (s := s) (h := (k : Int)) (JX_c rfl rfl rfl rfl rfl hX) (by omega)
    have ec2 : Cl (Ztwo z 57 58 b q) s k = Cl z s k := rfl
    rw [ec2] at ec
    rw [e0]
    unfold X2_holds_L3b
    rw [Ztwo_k (k := 11) (by decide) (by decide), if_neg (by omega), ec, Yb_some, Zgd_t (Cl_01 z s k), Zgd_t (by omega), Zl_eq, Ztwo_ua, Zgd_t (by omega), show (k : Int) + 1 = ((k + 1 : Nat) : Int) by omega]
    refine ih (k + 1) fu _ (by omega) (by omega) (fun v v0 v1 => ?_)
    unfold fupd
    by_cases e : v = k
    · rw [if_pos e, e]
    · rw [if_neg e]; exact h v v0 (by omega)
theorem x_holds_L {most : Int} (hH : JH z) (hX : JX z) (hn : z 68 12 = n) : ∀ (r k fu : Nat) (b q : Int → Int), k + r = n → r < fu → OBn z s n b → (∀ v : Int, 0 ≤ v → v < k → b v = 1) → (∀ v : Int, 0 ≤ v → v < n → Cl z s v = 0 → b v = 1 → cntS z s (PLs z s v) ≤ most) → ∃ b2 q2 t, X2_holds_L35 fu (Ztwo z 57 58 b q) most s k = some (t, Ztwo z 57 58 b2 q2) ∧ (t = 0 ∨ t = 1) ∧ (t = 1 ↔ holdS z s most) := by
  have h30 := hH.2.1
  have hh : z 11 0 = n := hH.2.2.1.trans hn
  intro r
  induction r with
  | zero =>
    intro k fu b q hk hf hb h1 h2
    obtain ⟨fu, rfl⟩ : ∃ g, fu = g + 1 := ⟨fu - 1, by omega⟩
    obtain rfl : k = n := by omega
    refine ⟨b, q, 1, ?_, Or.inr rfl, ⟨fun _ v v0 v1 vc => h2 v v0 (by omega) vc (h1 v v0 (by omega)), fun _ => rfl⟩⟩
    show X2_holds_L35b (X2_holds_L35 fu) _ _ _ _ = _
    unfold X2_holds_L35b
    rw [Ztwo_k (k := 11) (by decide) (by decide), if_pos (by omega)]
  | succ r ih =>
    intro k fu b q hk hf hb h1 h2
    obtain ⟨fu, rfl⟩ : ∃ g, fu = g + 1 := ⟨fu - 1, by omega⟩
    have e0 : X2_holds_L35 (fu + 1) (Ztwo z 57 58 b q) most s k = X2_holds_L35b (X2_holds_L35 fu) (Ztwo z 57 58 b q) most s k := rfl
    have b68 : ∀ b' q', X2_holds_b68 (X2_holds_L35 fu) (Ztwo z 57 58 b' q') most s k = X2_holds_L35 fu (Ztwo z 57 58 b' q') most s ((k + 1 : Nat) : Int) := by
      intro b' q'
      unfold X2_holds_b68
      rw [Zgd_t (by omega), show (k : Int) + 1 = ((k + 1 : Nat) : Int) by omega]
    have bk := (hb k (by omega) (by omega)).1
    rw [e0]
    unfold X2_holds_L35b
    rw [Ztwo_k (k := 11) (by decide) (by decide), if_neg (by omega), Zgd_t (by omega), Ztwo_a]
    by_cases c : b k = 0
    · obtain ⟨b2, q2, a1, a2, a3, a4⟩ := x_burn (q0 := q) hH hX hn hb (h := (k : Int)) (by omega) c
      rw [if_pos c, a1, Yb_some]
      by_cases t : cntS z s (PLs z s k) ≤ most
      · rw [if_pos t, b68]
        refine ih (k + 1) fu b2 q2 (by omega) (by omega) a2 (fun v v0 v1 => ?_) (fun v v0 v1 vc vb => ?_)
        · by_cases e : v = k
          · rw [e]; exact a3
          · exact (a4 v v0 (by omega)).mpr (Or.inl (h1 v v0 (by omega)))
        · rcases (a4 v v0 v1).mp vb with w | w
          · exact h2 v v0 v1 vc w
          · rw [w.2]; exact t
      · rw [if_neg t]
        refine ⟨b2, q2, 0, rfl, Or.inl rfl, ⟨fun e => by omega, fun hd => ?_⟩⟩
        have kc : Cl z s k = 0 := by
          rcases Cl_01 z s k with w | w
          · exact w
          · have := (hb k (by omega) (by omega)).2.1 w
            omega
        exact absurd (hd k (by omega) (by omega) kc) t
    · rw [if_neg c, b68]
      refine ih (k + 1) fu b q (by omega) (by omega) hb (fun v v0 v1 => ?_) h2
      by_cases e : v = k
      · rw [e]; omega
      · exact h1 v v0 (by omega)
end
theorem x_holds {z : ZI} {s most : Int} (hH : JH z) (hX : JX z) {b q : Int → Int} : ∃ b2 q2 t, F_X2_holds (Ztwo z 57 58 b q) most s = some (t, Ztwo z 57 58 b2 q2) ∧ (t = 0 ∨ t = 1) ∧ (t = 1 ↔ holdS z s most) := by
  have h30 := hH.2.1
  have h0 := hH.1
  obtain ⟨b1, a1, a2⟩ := x_holds0_L (s := s) (most := most) (n := (z 68 12).toNat) (q := q) hH hX (by omega) (z 68 12).toNat 0 Zfuel b (by omega) (by unfold Zfuel; omega) (fun v v0 v1 => by omega)
  have a1 : F_X2_holds (Ztwo z 57 58 b q) most s = X2_holds_b32 (Ztwo z 57 58 b1 q) most s := a1
  rw [a1]
  exact x_holds_L (s := s) (most := most) (n := (z 68 12).toNat) hH hX (by omega) (z 68 12).toNat 0 Zfuel b1 q (by omega) (by unfold Zfuel; omega) (fun v v0 v1 => ⟨by rw [a2 v v0 v1]; exact Cl_01 z s v, fun t => by rw [a2 v v0 v1]; exact t, fun w w0 w1 c1 c2 _ => by rw [a2 v v0 v1, a2 w w0 w1, c1, c2]⟩) (fun v v0 v1 => by omega) (fun v v0 v1 vc vb => by
    rw [a2 v v0 v1] at vb
    omega)
