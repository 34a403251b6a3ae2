/-! the two readings find the same fault -/
theorem bits_c {c e : Int} (hc : 0 ≤ c ∧ c < 64) (he : 1 ≤ e ∧ e ≤ 5) : 0 ≤ bitC c e ∧ bitC c e < 64 ∧ bitT (bitC c e) e = 0 ∧ ∀ b, 0 ≤ b → b ≤ 5 → b ≠ e → bitT (bitC c e) b = bitT c b := by
  have key : ∀ c : Fin 64, ∀ e : Fin 6, ∀ b : Fin 6, 1 ≤ e.val → 0 ≤ bitC (c.val : Int) (e.val : Int) ∧ bitC (c.val : Int) (e.val : Int) < 64 ∧ bitT (bitC (c.val : Int) (e.val : Int)) (e.val : Int) = 0 ∧ (b.val ≠ e.val → bitT (bitC (c.val : Int) (e.val : Int)) (b.val : Int) = bitT (c.val : Int) (b.val : Int)) := by decide +kernel
  have cc : ((c.toNat : Nat) : Int) = c := by omega
  have ee : ((e.toNat : Nat) : Int) = e := by omega
  have k0 := key ⟨c.toNat, by omega⟩ ⟨e.toNat, by omega⟩ ⟨0, by omega⟩ (by dsimp only; omega)
  dsimp only at k0
  rw [cc, ee] at k0
  refine ⟨k0.1, k0.2.1, k0.2.2.1, fun b b0 b1 b2 => ?_⟩
  have k1 := key ⟨c.toNat, by omega⟩ ⟨e.toNat, by omega⟩ ⟨b.toNat, by omega⟩ (by dsimp only; omega)
  dsimp only at k1
  rw [cc, ee, show ((b.toNat : Nat) : Int) = b by omega] at k1
  exact k1.2.2.2 (by omega)
theorem bits_s {c e : Int} (hc : 0 ≤ c ∧ c < 64) (he : 1 ≤ e ∧ e ≤ 5) : 0 ≤ bitS c e ∧ bitS c e < 64 ∧ bitT (bitS c e) e = 1 ∧ ∀ b, 0 ≤ b → b ≤ 5 → b ≠ e → bitT (bitS c e) b = bitT c b := by
  have key : ∀ c : Fin 64, ∀ e : Fin 6, ∀ b : Fin 6, 1 ≤ e.val → 0 ≤ bitS (c.val : Int) (e.val : Int) ∧ bitS (c.val : Int) (e.val : Int) < 64 ∧ bitT (bitS (c.val : Int) (e.val : Int)) (e.val : Int) = 1 ∧ (b.val ≠ e.val → bitT (bitS (c.val : Int) (e.val : Int)) (b.val : Int) = bitT (c.val : Int) (b.val : Int)) := by decide +kernel
  have cc : ((c.toNat : Nat) : Int) = c := by omega
  have ee : ((e.toNat : Nat) : Int) = e := by omega
  have k0 := key ⟨c.toNat, by omega⟩ ⟨e.toNat, by omega⟩ ⟨0, by omega⟩ (by dsimp only; omega)
  dsimp only at k0
  rw [cc, ee] at k0
  refine ⟨k0.1, k0.2.1, k0.2.2.1, fun b b0 b1 b2 => ?_⟩
  have k1 := key ⟨c.toNat, by omega⟩ ⟨e.toNat, by omega⟩ ⟨b.toNat, by omega⟩ (by dsimp only; omega)
  dsimp only at k1
  rw [cc, ee, show ((b.toNat : Nat) : Int) = b by omega] at k1
  exact k1.2.2.2 (by omega)
/-- the bits up to d are as they were -/
def sameB (d c c2 : Int) : Prop := 0 ≤ c2 ∧ c2 < 64 ∧ ∀ b, 0 ≤ b → b ≤ d → bitT c2 b = bitT c b
theorem sameB.rf {d c : Int} (h : 0 ≤ c ∧ c < 64) : sameB d c c := ⟨h.1, h.2, fun _ _ _ => rfl⟩
theorem sameB.tr {d c c2 c3 : Int} (h : sameB d c c2) (g : sameB d c2 c3) : sameB d c c3 := ⟨g.1, g.2.1, fun b h1 h2 => (g.2.2 b h1 h2).trans (h.2.2 b h1 h2)⟩
/-- the reference's reading, where a unit is due at t, comes as far as r says -/
def RU (a : Int → Int) (n t d c : Int) (r : Int × Int × Int) : Prop :=
  (r.2.2 = -9 → t < r.2.1 ∧ r.2.1 ≤ n ∧ ∃ (g : Nat) (c2 : Int), (g : Int) ≤ r.2.1 - t ∧ sameB d c c2 ∧ ∀ f, paM a n (f + g) 0 t d c = paM a n f 1 r.2.1 d c2) ∧
  (r.2.2 ≠ -9 → t ≤ r.2.2 ∧ r.2.2 ≤ n ∧ ∃ g : Nat, (g : Int) ≤ r.2.2 - t + 1 ∧ ∀ f, paM a n (f + g) 0 t d c = (0, r.2.2))
def RA (a : Int → Int) (n d : Int) (S : Int → Int × Int × Int) : Prop := ∀ t c, 0 ≤ t → t ≤ n → 0 ≤ c → c < 64 → RU a n t d c (S t)
/-- behind it stands none of these -/
def NE (a : Int → Int) (n : Int) (p : Int → Prop) (r : Int × Int × Int) : Prop := r.2.2 = -9 → ¬ p (nxS a n r.2.1)
theorem nx_sg {a : Int → Int} {n t : Int} : (t < n ∧ nxS a n t = a t ∧ sgA a n t = a t) ∨ (n ≤ t ∧ nxS a n t = 0 ∧ sgA a n t = -1) := by
  unfold nxS sgA
  by_cases h : t < n
  · rw [if_pos h, if_neg (by omega)]; exact Or.inl ⟨h, rfl, rfl⟩
  · rw [if_neg h, if_pos (by omega)]; exact Or.inr ⟨by omega, rfl, rfl⟩
theorem paM_0 (a : Int → Int) (n : Int) (f : Nat) (t d c : Int) : paM a n (f + 1) 0 t d c = if sgA a n t = 40 then (if d = 5 then (0, t) else paM a n f 0 (t + 1) (d + 1) (bitC c (d + 1))) else if isLet (sgA a n t) then paM a n f 1 (t + 1) d c else if isDig (sgA a n t) then paM a n f 1 (dgR a n 4 t) d c else (0, t) := if_pos rfl
theorem paM_1 (a : Int → Int) (n : Int) (f : Nat) (t d c : Int) : paM a n (f + 1) 1 t d c = if sgA a n t = 41 ∧ 0 < d then paM a n f 1 (t + 1) (d - 1) c else if sgA a n t = -1 ∧ d = 0 then (1, t) else if isCmp (sgA a n t) ∧ 0 < d ∧ bitT c d = 0 then paM a n f 0 (t + 1) d (bitS c d) else if isOp (sgA a n t) then paM a n f 0 (t + 1) d c else (0, t) := if_neg (by decide)
theorem num_dg (a : Int → Int) (n : Int) : ∀ (k : Nat) (t v : Int), (numR a n k t v).2 = dgR a n k t
  | 0, _, _ => rfl
  | k + 1, t, v => by
    have u1 : numR a n (k + 1) t v = if isDig (nxS a n t) then numR a n k (t + 1) (10 * v + nxS a n t - 48) else (v, t) := rfl
    have u2 : dgR a n (k + 1) t = if isDig (sgA a n t) then dgR a n k (t + 1) else t := rfl
    have i := num_dg a n k (t + 1) (10 * v + nxS a n t - 48)
    rw [u1, u2]
    rcases nx_sg (a := a) (n := n) (t := t) with ⟨h1, h2, h3⟩ | ⟨h1, h2, h3⟩
    · rw [h2, h3]
      rw [h2] at i
      split
      · exact i
      · rfl
    · rw [h2, h3, if_neg (by decide), if_neg (by decide)]
theorem dgR_r (a : Int → Int) (n : Int) : ∀ (k : Nat) (t : Int), t ≤ n → t ≤ dgR a n k t ∧ dgR a n k t ≤ n
  | 0, t, h => ⟨Int.le_refl _, h⟩
  | k + 1, t, h => by
    have u2 : dgR a n (k + 1) t = if isDig (sgA a n t) then dgR a n k (t + 1) else t := rfl
    rw [u2]
    rcases nx_sg (a := a) (n := n) (t := t) with ⟨h1, h2, h3⟩ | ⟨h1, h2, h3⟩
    · split
      · have := dgR_r a n k (t + 1) (by omega)
        omega
      · omega
    · rw [h3, if_neg (by decide)]
      omega
theorem dgR_gt {a : Int → Int} {n t : Int} (h : t < n) (hd : isDig (sgA a n t)) : t < dgR a n 4 t ∧ dgR a n 4 t ≤ n := by
  have u2 : dgR a n 4 t = if isDig (sgA a n t) then dgR a n 3 (t + 1) else t := rfl
  rw [u2, if_pos hd]
  have := dgR_r a n 3 (t + 1) (by omega)
  omega
/-- a close where one is due: one round up -/
theorem R_close {a : Int → Int} {n t0 t d c c2 v : Int} {g : Nat} (hd : 0 ≤ d ∧ d < 5) (h00 : 0 ≤ t0) (ht : t0 < t ∧ t ≤ n) (hg : (g : Int) ≤ t - t0) (hs : sameB d c c2) (hne : ¬ isOp (nxS a n t)) (hnc : isCmp (nxS a n t) → bitT c2 (d + 1) ≠ 0) (he : ∀ f, paM a n (f + g) 0 t0 d c = paM a n f 1 t (d + 1) c2) : RU a n t0 d c (closeS a n v t) := by
  unfold closeS
  rcases nx_sg (a := a) (n := n) (t := t) with ⟨h1, h2, h3⟩ | ⟨h1, h2, h3⟩
  · rw [h2] at hne hnc ⊢
    by_cases h : a t = 41
    · rw [if_pos h]
      refine ⟨fun _ => ⟨by dsimp only; omega, by dsimp only; omega, g + 1, c2, by dsimp only; omega, hs, fun f => ?_⟩, fun q => absurd rfl q⟩
      rw [show f + (g + 1) = (f + 1) + g by omega, he, paM_1, h3, if_pos ⟨h, by omega⟩, show d + 1 - 1 = d by omega]
    · rw [if_neg h]
      refine ⟨fun q => by dsimp only at q; omega, fun _ => ⟨by dsimp only; omega, by dsimp only; omega, g + 1, by dsimp only; omega, fun f => ?_⟩⟩
      rw [show f + (g + 1) = (f + 1) + g by omega, he, paM_1, h3, if_neg (fun q => h q.1), if_neg (fun q => by omega), if_neg (fun q => hnc q.1 q.2.2), if_neg hne]
  · rw [h2] at hne hnc ⊢
    rw [if_neg (by decide)]
    refine ⟨fun q => by dsimp only at q; omega, fun _ => ⟨by dsimp only; omega, by dsimp only; omega, g + 1, by dsimp only; omega, fun f => ?_⟩⟩
    rw [show f + (g + 1) = (f + 1) + g by omega, he, paM_1, h3, if_neg (fun q => by omega), if_neg (fun q => by omega), if_neg (fun q => absurd q.1 (by decide)), if_neg (by decide)]
theorem R_bkt {a : Int → Int} {n t d c : Int} {S : Int → Int × Int × Int} (hd : 0 ≤ d ∧ d < 5) (hS : RA a n (d + 1) S) (hN : ∀ t, 0 ≤ t → t ≤ n → NE a n isOp (S t)) (ht : 0 ≤ t ∧ t < n) (h40 : a t = 40) (hc : 0 ≤ c ∧ c < 64) : RU a n t d c (bktS a n S t) := by
  obtain ⟨b1, b2, b3, b4⟩ := bits_c hc (show 1 ≤ d + 1 ∧ d + 1 ≤ 5 by omega)
  have q1 := hS (t + 1) (bitC c (d + 1)) (by omega) (by omega) b1 b2
  have n1 := hN (t + 1) (by omega) (by omega)
  have st : ∀ f, paM a n (f + 1) 0 t d c = paM a n f 0 (t + 1) (d + 1) (bitC c (d + 1)) := by
    intro f
    rw [paM_0]
    rcases nx_sg (a := a) (n := n) (t := t) with ⟨h1, h2, h3⟩ | ⟨h1, h2, h3⟩
    · rw [h3, if_pos h40, if_neg (by omega)]
    · omega
  unfold bktS
  by_cases e1 : (S (t + 1)).2.2 = -9
  · rw [if_neg (by omega)]
    obtain ⟨r1, r2, g1, c1, r3, r4, r5⟩ := q1.1 e1
    have n1' := n1 e1
    have sb1 : sameB d c c1 := ⟨r4.1, r4.2.1, fun b h1 h2 => (r4.2.2 b h1 (by omega)).trans (b4 b h1 (by omega) (by omega))⟩
    by_cases e2 : isCmp (nxS a n (S (t + 1)).2.1)
    · rw [if_pos e2]
      rcases nx_sg (a := a) (n := n) (t := (S (t + 1)).2.1) with ⟨h1, h2, h3⟩ | ⟨h1, h2, h3⟩
      · obtain ⟨d1, d2, d3, d4⟩ := bits_s (c := c1) ⟨r4.1, r4.2.1⟩ (show 1 ≤ d + 1 ∧ d + 1 ≤ 5 by omega)
        have q2 := hS ((S (t + 1)).2.1 + 1) (bitS c1 (d + 1)) (by omega) (by omega) d1 d2
        have n2 := hN ((S (t + 1)).2.1 + 1) (by omega) (by omega)
        have z0 : bitT c1 (d + 1) = 0 := (r4.2.2 (d + 1) (by omega) (Int.le_refl _)).trans b3
        have st2 : ∀ f, paM a n (f + (g1 + 2)) 0 t d c = paM a n f 0 ((S (t + 1)).2.1 + 1) (d + 1) (bitS c1 (d + 1)) := by
          intro f
          rw [show f + (g1 + 2) = (f + 1 + g1) + 1 by omega, st, r5, paM_1, h3]
          rw [h2] at e2
          rw [if_neg (fun q => by omega), if_neg (fun q => by omega), if_pos ⟨e2, by omega, z0⟩]
        by_cases e3 : (S ((S (t + 1)).2.1 + 1)).2.2 = -9
        · rw [if_neg (by omega)]
          obtain ⟨s1, s2, g2, c3, s3, s4, s5⟩ := q2.1 e3
          have sb3 : sameB d c c3 := ⟨s4.1, s4.2.1, fun b h1 h2 => ((s4.2.2 b h1 (by omega)).trans (d4 b h1 (by omega) (by omega))).trans (sb1.2.2 b h1 h2)⟩
          have o1 : bitT c3 (d + 1) = 1 := (s4.2.2 (d + 1) (by omega) (Int.le_refl _)).trans d3
          refine R_close (g := g1 + 2 + g2) hd ht.1 (by omega) (by omega) sb3 (n2 e3) (fun _ => by omega) (fun f => ?_)
          rw [show f + (g1 + 2 + g2) = (f + g2) + (g1 + 2) by omega, st2, s5]
        · rw [if_pos e3]
          obtain ⟨s1, s2, g2, s3, s4⟩ := q2.2 e3
          refine ⟨fun q => absurd q e3, fun _ => ⟨by dsimp only; omega, by dsimp only; omega, g1 + 2 + g2, by dsimp only; omega, fun f => ?_⟩⟩
          rw [show f + (g1 + 2 + g2) = (f + g2) + (g1 + 2) by omega, st2, s4]
      · rw [h2] at e2
        exact absurd e2 (by decide)
    · rw [if_neg e2]
      refine R_close (g := g1 + 1) hd ht.1 (by omega) (by omega) sb1 n1' (fun q => absurd q e2) (fun f => ?_)
      rw [show f + (g1 + 1) = (f + g1) + 1 by omega, st, r5]
  · rw [if_pos e1]
    obtain ⟨r1, r2, g1, r3, r4⟩ := q1.2 e1
    refine ⟨fun q => absurd q e1, fun _ => ⟨by dsimp only; omega, by dsimp only; omega, g1 + 1, by dsimp only; omega, fun f => ?_⟩⟩
    rw [show f + (g1 + 1) = (f + g1) + 1 by omega, st, r4]
theorem R_unit {a lt : Int → Int} {n d : Int} {S : Int → Int × Int × Int} {ok : Prop} [Decidable ok] (hok : ok ↔ d < 5) (hd : 0 ≤ d ∧ d ≤ 5) (hS : ok → RA a n (d + 1) S) (hN : ok → ∀ t, 0 ≤ t → t ≤ n → NE a n isOp (S t)) : RA a n d (unitS a n lt S ok) := by
  intro t c h0 h1 c0 c1
  unfold unitS
  rcases nx_sg (a := a) (n := n) (t := t) with ⟨h1, h2, h3⟩ | ⟨h1, h2, h3⟩
  · rw [h2]
    by_cases e1 : a t = 40
    · rw [if_pos e1]
      by_cases e2 : ok
      · rw [if_pos e2]
        exact R_bkt ⟨hd.1, hok.mp e2⟩ (hS e2) (hN e2) ⟨h0, h1⟩ e1 ⟨c0, c1⟩
      · rw [if_neg e2]
        have : ¬ d < 5 := fun q => e2 (hok.mpr q)
        refine ⟨fun q => by dsimp only at q; omega, fun _ => ⟨by dsimp only; omega, by dsimp only; omega, 1, by dsimp only; omega, fun f => ?_⟩⟩
        rw [paM_0, h3, if_pos e1, if_pos (by omega)]
    · rw [if_neg e1]
      by_cases e2 : isDig (a t)
      · rw [if_pos e2]
        have r := dgR_gt h1 (by rw [h3]; exact e2)
        refine ⟨fun _ => ⟨by dsimp only; rw [num_dg]; omega, by dsimp only; rw [num_dg]; omega, 1, c, by dsimp only; rw [num_dg]; omega, sameB.rf ⟨c0, c1⟩, fun f => ?_⟩, fun q => absurd rfl q⟩
        dsimp only
        rw [paM_0, h3, if_neg e1, if_neg (fun q => by omega), if_pos e2, num_dg]
      · rw [if_neg e2]
        by_cases e3 : isLet (a t)
        · rw [if_pos e3]
          refine ⟨fun _ => ⟨by dsimp only; omega, by dsimp only; omega, 1, c, by dsimp only; omega, sameB.rf ⟨c0, c1⟩, fun f => ?_⟩, fun q => absurd rfl q⟩
          rw [paM_0, h3, if_neg e1, if_pos e3]
        · rw [if_neg e3]
          refine ⟨fun q => by dsimp only at q; omega, fun _ => ⟨by dsimp only; omega, by dsimp only; omega, 1, by dsimp only; omega, fun f => ?_⟩⟩
          rw [paM_0, h3, if_neg e1, if_neg e3, if_neg e2]
  · rw [h2, if_neg (by decide), if_neg (by decide), if_neg (by decide)]
    refine ⟨fun q => by dsimp only at q; omega, fun _ => ⟨by dsimp only; omega, by dsimp only; omega, 1, by dsimp only; omega, fun f => ?_⟩⟩
    rw [paM_0, h3, if_neg (by decide), if_neg (by decide), if_neg (by decide)]
theorem RU_v {a : Int → Int} {n t d c v w : Int} {r : Int × Int} (h : RU a n t d c (v, r)) : RU a n t d c (w, r) := h
theorem R_termL {a : Int → Int} {n d : Int} {U : Int → Int × Int × Int} (hd : 0 ≤ d ∧ d ≤ 5) (hU : RA a n d U) : ∀ (k : Nat) (r : Int × Int × Int) (t c : Int), 0 ≤ t → 0 ≤ c → c < 64 → RU a n t d c r → (r.2.2 = -9 → n - r.2.1 < k) → RU a n t d c (termL a n U k r) ∧ NE a n (fun x => x = 42 ∨ x = 47) (termL a n U k r)
  | 0, r, t, c, h0, c0, c1, hr, hk => by
    refine ⟨hr, fun q => ?_⟩
    have := hk q
    have := (hr.1 q).2.1
    omega
  | k + 1, r, t, c, h0, c0, c1, hr, hk => by
    have u : termL a n U (k + 1) r = if r.2.2 ≠ -9 then r else if nxS a n r.2.1 = 42 ∨ nxS a n r.2.1 = 47 then termL a n U k (hldS (if nxS a n r.2.1 = 42 then r.1 * (U (r.2.1 + 1)).1 else dvdS r.1 (U (r.2.1 + 1)).1), (U (r.2.1 + 1)).2) else r := rfl
    rw [u]
    by_cases e1 : r.2.2 = -9
    · rw [if_neg (by omega)]
      by_cases e2 : nxS a n r.2.1 = 42 ∨ nxS a n r.2.1 = 47
      · rw [if_pos e2]
        obtain ⟨r1, r2, g1, c2, r3, r4, r5⟩ := hr.1 e1
        have hk1 := hk e1
        rcases nx_sg (a := a) (n := n) (t := r.2.1) with ⟨h1, h2, h3⟩ | ⟨h1, h2, h3⟩
        · have q := hU (r.2.1 + 1) c2 (by omega) (by omega) r4.1 r4.2.1
          have st : ∀ f, paM a n (f + (g1 + 1)) 0 t d c = paM a n f 0 (r.2.1 + 1) d c2 := by
            intro f
            rw [h2] at e2
            rw [show f + (g1 + 1) = (f + 1) + g1 by omega, r5, paM_1, h3, if_neg (fun q => by omega), if_neg (fun q => by omega), if_neg (fun q => by omega), if_pos (by omega)]
          refine R_termL hd hU k _ t c h0 c0 c1 ⟨fun q1 => ?_, fun q1 => ?_⟩ (fun q1 => ?_)
          · obtain ⟨s1, s2, g2, c3, s3, s4, s5⟩ := q.1 q1
            refine ⟨by dsimp only; omega, s2, g1 + 1 + g2, c3, by dsimp only; omega, r4.tr s4, fun f => ?_⟩
            rw [show f + (g1 + 1 + g2) = (f + g2) + (g1 + 1) by omega, st, s5]
          · obtain ⟨s1, s2, g2, s3, s4⟩ := q.2 q1
            refine ⟨by dsimp only; omega, s2, g1 + 1 + g2, by dsimp only; omega, fun f => ?_⟩
            rw [show f + (g1 + 1 + g2) = (f + g2) + (g1 + 1) by omega, st, s4]
          · have := (q.1 q1).1
            dsimp only
            omega
        · rw [h2] at e2
          exact absurd e2 (by decide)
      · rw [if_neg e2]
        exact ⟨hr, fun _ => e2⟩
    · rw [if_pos e1]
      exact ⟨hr, fun q => absurd q e1⟩
theorem R_sumL {a : Int → Int} {n d : Int} {U : Int → Int × Int × Int} (hd : 0 ≤ d ∧ d ≤ 5) (hU : RA a n d U) (hE : ∀ t, 0 ≤ t → t ≤ n → NE a n (fun x => x = 42 ∨ x = 47) (U t)) : ∀ (k : Nat) (r : Int × Int × Int) (t c : Int), 0 ≤ t → 0 ≤ c → c < 64 → RU a n t d c r → NE a n (fun x => x = 42 ∨ x = 47) r → (r.2.2 = -9 → n - r.2.1 < k) → RU a n t d c (sumL a n U k r) ∧ NE a n isOp (sumL a n U k r)
  | 0, r, t, c, h0, c0, c1, hr, hne, hk => by
    refine ⟨hr, fun q => ?_⟩
    have := hk q
    have := (hr.1 q).2.1
    omega
  | k + 1, r, t, c, h0, c0, c1, hr, hne, hk => by
    have u : sumL a n U (k + 1) r = if r.2.2 ≠ -9 then r else if nxS a n r.2.1 = 43 ∨ nxS a n r.2.1 = 45 then sumL a n U k (hldS (if nxS a n r.2.1 = 43 then r.1 + (U (r.2.1 + 1)).1 else r.1 - (U (r.2.1 + 1)).1), (U (r.2.1 + 1)).2) else r := rfl
    rw [u]
    by_cases e1 : r.2.2 = -9
    · rw [if_neg (by omega)]
      by_cases e2 : nxS a n r.2.1 = 43 ∨ nxS a n r.2.1 = 45
      · rw [if_pos e2]
        obtain ⟨r1, r2, g1, c2, r3, r4, r5⟩ := hr.1 e1
        have hk1 := hk e1
        rcases nx_sg (a := a) (n := n) (t := r.2.1) with ⟨h1, h2, h3⟩ | ⟨h1, h2, h3⟩
        · have q := hU (r.2.1 + 1) c2 (by omega) (by omega) r4.1 r4.2.1
          have st : ∀ f, paM a n (f + (g1 + 1)) 0 t d c = paM a n f 0 (r.2.1 + 1) d c2 := by
            intro f
            rw [h2] at e2
            rw [show f + (g1 + 1) = (f + 1) + g1 by omega, r5, paM_1, h3, if_neg (fun q => by omega), if_neg (fun q => by omega), if_neg (fun q => by omega), if_pos (by omega)]
          refine R_sumL hd hU hE k _ t c h0 c0 c1 ⟨fun q1 => ?_, fun q1 => ?_⟩ (hE (r.2.1 + 1) (by omega) (by omega)) (fun q1 => ?_)
          · obtain ⟨s1, s2, g2, c3, s3, s4, s5⟩ := q.1 q1
            refine ⟨by dsimp only; omega, s2, g1 + 1 + g2, c3, by dsimp only; omega, r4.tr s4, fun f => ?_⟩
            rw [show f + (g1 + 1 + g2) = (f + g2) + (g1 + 1) by omega, st, s5]
          · obtain ⟨s1, s2, g2, s3, s4⟩ := q.2 q1
            refine ⟨by dsimp only; omega, s2, g1 + 1 + g2, by dsimp only; omega, fun f => ?_⟩
            rw [show f + (g1 + 1 + g2) = (f + g2) + (g1 + 1) by omega, st, s4]
          · have := (q.1 q1).1
            dsimp only
            omega
        · rw [h2] at e2
          exact absurd e2 (by decide)
      · rw [if_neg e2]
        refine ⟨hr, fun q => ?_⟩
        have := hne q
        omega
    · rw [if_pos e1]
      exact ⟨hr, fun q => absurd q e1⟩
theorem R_pS (a lt : Int → Int) {n : Int} (hn : 0 ≤ n ∧ n ≤ 60) : ∀ k : Nat, k ≤ 5 → RA a n (5 - k) (pS a n lt (k + 1)) ∧ ∀ t, 0 ≤ t → t ≤ n → NE a n isOp (pS a n lt (k + 1) t) := by
  intro k
  induction k with
  | zero =>
    intro _
    have hu : RA a n 5 (unitS a n lt (pS a n lt 0) (1 ≤ 0)) := R_unit ⟨fun h => by omega, fun h => by omega⟩ (by omega) (fun h => by omega) (fun h => by omega)
    have ht : ∀ t c : Int, 0 ≤ t → t ≤ n → 0 ≤ c → c < 64 → _ := fun t c h0 h1 c0 c1 => R_termL (d := 5) (by omega) hu 60 _ t c h0 c0 c1 (hu t c h0 h1 c0 c1) (fun q => by have := ((hu t c h0 h1 c0 c1).1 q).1; omega)
    have hT : RA a n 5 (termS a n (unitS a n lt (pS a n lt 0) (1 ≤ 0))) := fun t c h0 h1 c0 c1 => (ht t c h0 h1 c0 c1).1
    have hE : ∀ t, 0 ≤ t → t ≤ n → NE a n (fun x => x = 42 ∨ x = 47) (termS a n (unitS a n lt (pS a n lt 0) (1 ≤ 0)) t) := fun t h0 h1 => (ht t 0 h0 h1 (by decide) (by decide)).2
    have hs : ∀ t c : Int, 0 ≤ t → t ≤ n → 0 ≤ c → c < 64 → _ := fun t c h0 h1 c0 c1 => R_sumL (d := 5) (by omega) hT hE 60 _ t c h0 c0 c1 (hT t c h0 h1 c0 c1) (hE t h0 h1) (fun q => by have := ((hT t c h0 h1 c0 c1).1 q).1; omega)
    exact ⟨fun t c h0 h1 c0 c1 => (hs t c h0 h1 c0 c1).1, fun t h0 h1 => (hs t 0 h0 h1 (by decide) (by decide)).2⟩
  | succ k ih =>
    intro hk
    obtain ⟨i1, i2⟩ := ih (by omega)
    have dk : (5 : Int) - ((k + 1 : Nat) : Int) + 1 = 5 - (k : Int) := by omega
    have hu : RA a n (5 - ((k + 1 : Nat) : Int)) (unitS a n lt (pS a n lt (k + 1)) (1 ≤ k + 1)) := R_unit ⟨fun h => by omega, fun h => by omega⟩ (by omega) (fun _ => by rw [dk]; exact i1) (fun _ => i2)
    have ht : ∀ t c : Int, 0 ≤ t → t ≤ n → 0 ≤ c → c < 64 → _ := fun t c h0 h1 c0 c1 => R_termL (d := 5 - ((k + 1 : Nat) : Int)) (by omega) hu 60 _ t c h0 c0 c1 (hu t c h0 h1 c0 c1) (fun q => by have := ((hu t c h0 h1 c0 c1).1 q).1; omega)
    have hT : RA a n (5 - ((k + 1 : Nat) : Int)) (termS a n (unitS a n lt (pS a n lt (k + 1)) (1 ≤ k + 1))) := fun t c h0 h1 c0 c1 => (ht t c h0 h1 c0 c1).1
    have hE : ∀ t, 0 ≤ t → t ≤ n → NE a n (fun x => x = 42 ∨ x = 47) (termS a n (unitS a n lt (pS a n lt (k + 1)) (1 ≤ k + 1)) t) := fun t h0 h1 => (ht t 0 h0 h1 (by decide) (by decide)).2
    have hs : ∀ t c : Int, 0 ≤ t → t ≤ n → 0 ≤ c → c < 64 → _ := fun t c h0 h1 c0 c1 => R_sumL (d := 5 - ((k + 1 : Nat) : Int)) (by omega) hT hE 60 _ t c h0 c0 c1 (hT t c h0 h1 c0 c1) (hE t h0 h1) (fun q => by have := ((hT t c h0 h1 c0 c1).1 q).1; omega)
    exact ⟨fun t c h0 h1 c0 c1 => (hs t c h0 h1 c0 c1).1, fun t h0 h1 => (hs t 0 h0 h1 (by decide) (by decide)).2⟩
/-- the fault that the class finds at last; -9 -/
def fauS (n : Int) (r : Int × Int × Int) : Int := if r.2.2 = -9 ∧ r.2.1 < n then r.2.1 else r.2.2
/-- the two find the same -/
theorem par_eq (a lt : Int → Int) {n : Int} (hn : 0 ≤ n ∧ n ≤ 60) (ha : ∀ t, 0 ≤ t → t < n → 0 ≤ a t) : paM a n 200 0 0 0 0 = if fauS n (pS a n lt 6 0) = -9 then (1, n) else (0, fauS n (pS a n lt 6 0)) := by
  obtain ⟨h1, h2⟩ := R_pS a lt hn 5 (Nat.le_refl _)
  have q : RU a n 0 0 0 (pS a n lt 6 0) := h1 0 0 (Int.le_refl _) hn.1 (Int.le_refl _) (by decide)
  have ne : NE a n isOp (pS a n lt 6 0) := h2 0 (Int.le_refl _) hn.1
  clear h1 h2
  unfold fauS
  by_cases e : (pS a n lt 6 0).2.2 = -9
  · obtain ⟨r1, r2, g, c2, r3, r4, r5⟩ := q.1 e
    have r6 := r5 (200 - g)
    rw [show 200 - g + g = 200 by omega] at r6
    obtain ⟨m, hm⟩ : ∃ m, 200 - g = m + 1 := ⟨199 - g, by omega⟩
    rw [r6, hm, paM_1]
    have ne2 := ne e
    rcases nx_sg (a := a) (n := n) (t := (pS a n lt 6 0).2.1) with ⟨k1, k2, k3⟩ | ⟨k1, k2, k3⟩
    · have ha1 := ha (pS a n lt 6 0).2.1 (by omega) k1
      rw [k2] at ne2
      rw [k3, if_neg (fun q => by omega), if_neg (fun q => by omega), if_neg (fun q => by omega), if_neg ne2, if_pos (⟨e, k1⟩ : (pS a n lt 6 0).2.2 = -9 ∧ (pS a n lt 6 0).2.1 < n), if_neg (by omega)]
    · rw [k3, if_neg (fun q => by omega), if_pos ⟨rfl, rfl⟩, if_neg (c := _ ∧ _) (fun q => by omega), if_pos e, show (pS a n lt 6 0).2.1 = n by omega]
  · obtain ⟨r1, r2, g, r3, r4⟩ := q.2 e
    have r5 := r4 (200 - g)
    rw [show 200 - g + g = 200 by omega] at r5
    rw [r5, if_neg (c := (pS a n lt 6 0).2.2 = -9 ∧ _) (fun q => e q.1), if_neg e]
