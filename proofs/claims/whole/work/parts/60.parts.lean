/-! fire: what burns together -/
def nxC (z : ZI) (s u d : Int) : Int := if Cl z s u = 0 then nxF z s u d else -9
def PLs (z : ZI) (s : Int) : Int → Int := LR (nxC z s) (fun _ => 0) (z 68 12).toNat (fun v => v) 1000
def cntS (z : ZI) (s c : Int) : Int := sumR (fun v => if PLs z s v = c ∧ Cl z s v = 0 then 1 else 0) (z 68 12).toNat
def holdS (z : ZI) (s most : Int) : Prop := ∀ v : Int, 0 ≤ v → v < z 68 12 → Cl z s v = 0 → cntS z s (PLs z s v) ≤ most
theorem besS_sym {c d : Int} (hc : 0 ≤ c ∧ c < 144) (hd : 0 ≤ d ∧ d < 4) (h : besS c d ≠ -9) : besS (besS c d) ((d + 2) % 4) = c := by
  have b0 : ∀ c, besS c 0 = if 11 ≤ c % 12 then -9 else c + 1 := fun _ => rfl
  have b1 : ∀ c, besS c 1 = if 11 ≤ c / 12 then -9 else c + 12 := fun _ => rfl
  have b2 : ∀ c, besS c 2 = if c % 12 ≤ 0 then -9 else c - 1 := fun _ => rfl
  have b3 : ∀ c, besS c 3 = if c / 12 ≤ 0 then -9 else c - 12 := fun _ => rfl
  rcases (show d = 0 ∨ d = 1 ∨ d = 2 ∨ d = 3 by omega) with q | q | q | q <;> subst q
  · rw [show ((0 : Int) + 2) % 4 = 2 by decide]
    rw [b0] at h ⊢
    by_cases e : 11 ≤ c % 12
    · rw [if_pos e] at h; exact absurd rfl h
    · rw [if_neg e, b2, if_neg (by omega)]
      omega
  · rw [show ((1 : Int) + 2) % 4 = 3 by decide]
    rw [b1] at h ⊢
    by_cases e : 11 ≤ c / 12
    · rw [if_pos e] at h; exact absurd rfl h
    · rw [if_neg e, b3, if_neg (by omega)]
      omega
  · rw [show ((2 : Int) + 2) % 4 = 0 by decide]
    rw [b2] at h ⊢
    by_cases e : c % 12 ≤ 0
    · rw [if_pos e] at h; exact absurd rfl h
    · rw [if_neg e, b0, if_neg (by omega)]
      omega
  · rw [show ((3 : Int) + 2) % 4 = 1 by decide]
    rw [b3] at h ⊢
    by_cases e : c / 12 ≤ 0
    · rw [if_pos e] at h; exact absurd rfl h
    · rw [if_neg e, b1, if_neg (by omega)]
      omega
theorem nxC_b {z : ZI} (hH : JH z) (s u d : Int) : nxC z s u d = -9 ∨ (0 ≤ nxC z s u d ∧ nxC z s u d < z 68 12) := by
  unfold nxC
  split
  · exact nxF_b hH s u d
  · exact Or.inl rfl
theorem nxC_hx {z : ZI} (hH : JH z) (s : Int) : ∀ u d : Int, 0 ≤ u → u < ((z 68 12).toNat : Int) → 0 ≤ d → d < 4 → nxC z s u d = -9 ∨ (0 ≤ nxC z s u d ∧ nxC z s u d < ((z 68 12).toNat : Int)) := fun u d _ _ _ _ => by
  have := nxC_b hH s u d
  have := hH.1
  omega
theorem nxC_sym {z : ZI} (hH : JH z) {s u d : Int} (hu : 0 ≤ u ∧ u < z 68 12) (hd : 0 ≤ d ∧ d < 4) (h : 0 ≤ nxC z s u d) : Cl z s u = 0 ∧ Cl z s (nxC z s u d) = 0 ∧ nxC z s (nxC z s u d) ((d + 2) % 4) = u := by
  unfold nxC at h ⊢
  by_cases c : Cl z s u = 0
  · rw [if_pos c] at h ⊢
    have q := hH.2.2.2.1 u hu.1 hu.2
    unfold nxF at h ⊢
    by_cases e : besS (z 71 u) d = -9
    · rw [if_pos e] at h; omega
    · rw [if_neg e] at h ⊢
      have r := chS_r hH s (besS (z 71 u) d)
      rcases r with r | ⟨r1, r2, r3, r4⟩
      · omega
      · have sy := besS_sym (c := z 71 u) (d := d) ⟨q.2.1, q.2.2.1⟩ hd e
        refine ⟨c, r4, ?_⟩
        rw [if_pos r4, r3, sy, if_neg (by omega)]
        have sr := srch_r (z 71) (z 71 u) (z 68 12).toNat 0 (Int.le_refl _)
        have su : srch (z 71) (z 71 u) (z 68 12).toNat 0 = u := by
          rcases sr with sr | sr
          · exact absurd rfl (srch_no (z 71) (z 71 u) (z 68 12).toNat 0 (Int.le_refl _) sr u hu.1 (by omega))
          · exact hH.2.2.2.2.1 _ u (by omega) (by omega) hu.1 hu.2 sr.2.2
        unfold chS
        rw [su, if_neg (by omega), if_pos c]
  · rw [if_neg c] at h; omega
/-- a set that nothing leaves or enters -/
def clsC (n : Nat) (nx : Int → Int → Int) (S : Int → Prop) : Prop := ∀ u d : Int, 0 ≤ u → u < n → 0 ≤ d → d < 4 → 0 ≤ nx u d → (S u ↔ S (nx u d))
section
variable {n : Nat} {nx : Int → Int → Int}
def sameS (n : Nat) (S : Int → Prop) (p : (Int → Int) × Int) : Prop := ∀ v : Int, 0 ≤ v → v < n → (S v ↔ S (p.1 v))
theorem rlx_S {S : Int → Prop} (hS : clsC n nx S) {u d : Int} (hu : 0 ≤ u ∧ u < n) (hd : 0 ≤ d ∧ d < 4) {p : (Int → Int) × Int} (h : sameS n S p) : sameS n S (rlx nx (fun _ => 0) u d p) := by
  unfold rlx
  by_cases c : 0 ≤ nx u d ∧ p.1 u + 0 < p.1 (nx u d)
  · rw [if_pos c]
    intro v v0 v1
    show S v ↔ S (fupd p.1 (nx u d) (p.1 u + 0) v)
    unfold fupd
    by_cases e : v = nx u d
    · rw [if_pos e, e, Int.add_zero, ← hS u d hu.1 hu.2 hd.1 hd.2 c.1]
      exact h u hu.1 hu.2
    · rw [if_neg e]; exact h v v0 v1
  · rw [if_neg c]; exact h
theorem sidR_S {S : Int → Prop} (hS : clsC n nx S) {u : Int} (hu : 0 ≤ u ∧ u < n) {p : (Int → Int) × Int} (h : sameS n S p) : ∀ d : Nat, d ≤ 4 → sameS n S (sidR nx (fun _ => 0) u d p)
  | 0, _ => h
  | d + 1, hd => rlx_S hS hu (by omega) (sidR_S hS hu h d (by omega))
theorem rndR_S {S : Int → Prop} (hS : clsC n nx S) {p : (Int → Int) × Int} (h : sameS n S p) : ∀ u : Nat, u ≤ n → sameS n S (rndR nx (fun _ => 0) u p)
  | 0, _ => h
  | u + 1, hu => sidR_S hS (by omega) (rndR_S hS h u (by omega)) 4 (Nat.le_refl _)
theorem LR_S {S : Int → Prop} (hS : clsC n nx S) : ∀ (r : Nat) (v : Int), 0 ≤ v → v < n → (S v ↔ S (LR nx (fun _ => 0) n (fun v => v) r v))
  | 0, v, _, _ => Iff.rfl
  | r + 1, v, v0, v1 => rndR_S hS (p := (LR nx (fun _ => 0) n (fun v => v) r, 0)) (LR_S hS r) n (Nat.le_refl _) v v0 v1
/-- labels are houses -/
theorem LR_0n (hnx : ∀ u d : Int, 0 ≤ u → u < n → 0 ≤ d → d < 4 → nx u d = -9 ∨ (0 ≤ nx u d ∧ nx u d < n)) (r : Nat) {v : Int} (v0 : 0 ≤ v) (v1 : v < n) : 0 ≤ LR nx (fun _ => 0) n (fun v => v) r v ∧ LR nx (fun _ => 0) n (fun v => v) r v ≤ v := by
  have a := (LR_S (n := n) (nx := nx) (S := fun x => 0 ≤ x ∧ x < n) (fun u d u0 u1 d0 d1 h => by
    have := hnx u d u0 u1 d0 d1
    constructor <;> intro _ <;> omega) r v v0 v1).mp ⟨v0, v1⟩
  refine ⟨a.1, ?_⟩
  have mono : ∀ r : Nat, LR nx (fun _ => 0) n (fun v => v) r v ≤ v := by
    intro r
    induction r with
    | zero => exact Int.le_refl _
    | succ r ih =>
      have := (rndR_lt (wt := fun _ => 0) hnx n (Nat.le_refl _) (LR nx (fun _ => 0) n (fun v => v) r, 0)).1 v
      exact Int.le_trans this ih
  exact mono r
/-- the rounds come to an end -/
theorem LR_ends (hnx : ∀ u d : Int, 0 ≤ u → u < n → 0 ≤ d → d < 4 → nx u d = -9 ∨ (0 ≤ nx u d ∧ nx u d < n)) (hn : n ≤ 30) : ∃ r : Nat, r ≤ 900 ∧ (rndR nx (fun _ => 0) n (LR nx (fun _ => 0) n (fun v => v) r, 0)).2 = 0 := by
  apply Classical.byContradiction
  intro hno
  have key : ∀ r : Nat, r ≤ 901 → sumR (fun v => LR nx (fun _ => 0) n (fun v => v) r v) n ≤ 900 - r := by
    intro r
    induction r with
    | zero =>
      intro _
      have a := sumR_mono (f := fun v => LR nx (fun _ => 0) n (fun v => v) 0 v) (g := fun _ => 30) n (fun j hj => by
        show (j : Int) ≤ 30
        omega)
      have b := sumR_k 30 n
      omega
    | succ r ih =>
      intro hr
      have i := ih (by omega)
      rcases rnd_fl (wt := fun _ => 0) (L := LR nx (fun _ => 0) n (fun v => v) r) hnx with q | ⟨-, v, v0, v1, v2⟩
      · exact absurd ⟨r, by omega, q⟩ hno
      · have lt : sumR (fun v => LR nx (fun _ => 0) n (fun v => v) (r + 1) v) n + 1 ≤ sumR (fun v => LR nx (fun _ => 0) n (fun v => v) r v) n := by
          have up := sumR_up (f := fun j => if j = v.toNat then LR nx (fun _ => 0) n (fun v => v) (r + 1) v else LR nx (fun _ => 0) n (fun v => v) r j) (g := fun j => LR nx (fun _ => 0) n (fun v => v) r j) (k := v.toNat) n (by omega) (fun j _ hne => if_neg hne)
          have mo := sumR_mono (f := fun j : Nat => LR nx (fun _ => 0) n (fun v => v) (r + 1) j) (g := fun j => if j = v.toNat then LR nx (fun _ => 0) n (fun v => v) (r + 1) v else LR nx (fun _ => 0) n (fun v => v) r j) n (fun j hj => by
            by_cases e : j = v.toNat
            · rw [if_pos e, show (j : Int) = v by omega]
              exact Int.le_refl _
            · rw [if_neg e]
              exact (rndR_lt (wt := fun _ => 0) hnx n (Nat.le_refl _) (LR nx (fun _ => 0) n (fun v => v) r, 0)).1 j)
          have e1 : (if v.toNat = v.toNat then LR nx (fun _ => 0) n (fun v => v) (r + 1) v else LR nx (fun _ => 0) n (fun v => v) r v.toNat) = LR nx (fun _ => 0) n (fun v => v) (r + 1) v := if_pos rfl
          rw [e1, show ((v.toNat : Nat) : Int) = v by omega] at up
          have e2 : LR nx (fun _ => 0) n (fun v => v) (r + 1) v = (rndR nx (fun _ => 0) n (LR nx (fun _ => 0) n (fun v => v) r, 0)).1 v := rfl
          omega
        omega
  have a := key 901 (Nat.le_refl _)
  have b := sumR_nn (f := fun v => LR nx (fun _ => 0) n (fun v => v) 901 v) n (fun j hj => (LR_0n hnx 901 (by omega) (by omega)).1)
  omega
end
theorem PLs_end {z : ZI} (hH : JH z) (s : Int) : (rndR (nxC z s) (fun _ => 0) (z 68 12).toNat (PLs z s, 0)).2 = 0 := by
  have h30 := hH.2.1
  obtain ⟨r, r1, r2⟩ := LR_ends (nxC_hx hH s) (by omega)
  have e := LR_fix (nxC_hx hH s) (fun v => v) r2 (1000 - r)
  rw [show r + (1000 - r) = 1000 by omega] at e
  have e : PLs z s = LR (nxC z s) (fun _ => 0) (z 68 12).toNat (fun v => v) r := e
  rw [e]
  exact r2
theorem PLs_r {z : ZI} (hH : JH z) (s : Int) {v : Int} (v0 : 0 ≤ v) (v1 : v < z 68 12) : 0 ≤ PLs z s v ∧ PLs z s v < z 68 12 := by
  have := LR_0n (nxC_hx hH s) 1000 v0 (show v < ((z 68 12).toNat : Int) by omega)
  have e : PLs z s v = LR (nxC z s) (fun _ => 0) (z 68 12).toNat (fun v => v) 1000 v := rfl
  omega
/-- along a side the label is the same -/
theorem PLs_e {z : ZI} (hH : JH z) {s u d : Int} (hu : 0 ≤ u ∧ u < z 68 12) (hd : 0 ≤ d ∧ d < 4) (h : 0 ≤ nxC z s u d) : PLs z s (nxC z s u d) = PLs z s u := by
  have en := PLs_end hH s
  have fx := rnd_0 (wt := fun _ => 0) (nxC_hx hH s) en
  have le : ∀ u d : Int, 0 ≤ u → u < z 68 12 → 0 ≤ d → d < 4 → 0 ≤ nxC z s u d → PLs z s (nxC z s u d) ≤ PLs z s u := by
    intro u d u0 u1 d0 d1 h
    have := rndR_up (wt := fun _ => 0) (nxC_hx hH s) (PLs z s, 0) (u := u.toNat) (d := d.toNat) (by omega) (by omega) (by rw [show ((u.toNat : Nat) : Int) = u by omega, show ((d.toNat : Nat) : Int) = d by omega]; exact h)
    rw [fx, show ((u.toNat : Nat) : Int) = u by omega, show ((d.toNat : Nat) : Int) = d by omega] at this
    have t : PLs z s (nxC z s u d) ≤ PLs z s u + 0 := this
    omega
  have sy := nxC_sym hH hu hd h
  have nb := nxC_b hH s u d
  have a := le u d hu.1 hu.2 hd.1 hd.2 h
  have b := le (nxC z s u d) ((d + 2) % 4) h (by omega) (by omega) (by omega) (by rw [sy.2.2]; exact hu.1)
  rw [sy.2.2] at b
  omega
theorem PLs_S {z : ZI} {s : Int} {S : Int → Prop} (hS : clsC (z 68 12).toNat (nxC z s) S) {v : Int} (v0 : 0 ≤ v) (v1 : v < z 68 12) : S v ↔ S (PLs z s v) := LR_S hS 1000 v v0 (by omega)
theorem Cl_all {z : ZI} (hX : JX z) {s h : Int} (e : Cl z (jshl 1 (z 68 70) - 1) h = 0) : Cl z s h = 0 := by
  have e1 := hX.2.1
  have e2 := hX.2.2.1
  have r := srch_r (z 116) h (z 68 70).toNat 0 (Int.le_refl _)
  unfold Cl at e ⊢
  by_cases q : srch (z 116) h (z 68 70).toNat 0 ≠ -9
  · have b := bit_all (n := z 68 70) (k := srch (z 116) h (z 68 70).toNat 0) ⟨e1, by omega⟩ (by omega)
    rw [if_pos ⟨q, b⟩] at e
    omega
  · rw [if_neg (fun t => q t.1)]
/-- with more lanes no more burns -/
theorem hold_mono {z : ZI} (hH : JH z) (hX : JX z) {s most : Int} (h : holdS z s most) : holdS z (jshl 1 (z 68 70) - 1) most := by
  intro v v0 v1 vc
  have vc2 := Cl_all hX (s := s) vc
  refine Int.le_trans ?_ (h v v0 v1 vc2)
  refine sumR_mono _ (fun j hj => ?_)
  show (if PLs z (jshl 1 (z 68 70) - 1) j = PLs z (jshl 1 (z 68 70) - 1) v ∧ Cl z (jshl 1 (z 68 70) - 1) j = 0 then 1 else 0) ≤ (if PLs z s j = PLs z s v ∧ Cl z s j = 0 then (1 : Int) else 0)
  by_cases q : PLs z (jshl 1 (z 68 70) - 1) j = PLs z (jshl 1 (z 68 70) - 1) v ∧ Cl z (jshl 1 (z 68 70) - 1) j = 0
  · have cl : clsC (z 68 12).toNat (nxC z (jshl 1 (z 68 70) - 1)) (fun x => Cl z s x = 0 ∧ PLs z s x = PLs z s v) := by
      intro u d u0 u1 d0 d1 hh
      have sy := nxC_sym hH ⟨u0, by omega⟩ ⟨d0, d1⟩ hh
      have c1 := Cl_all hX (s := s) sy.1
      have c2 := Cl_all hX (s := s) sy.2.1
      have en : nxC z s u d = nxC z (jshl 1 (z 68 70) - 1) u d := by
        have a : nxC z s u d = nxF z s u d := if_pos c1
        have b : nxC z (jshl 1 (z 68 70) - 1) u d = nxF z (jshl 1 (z 68 70) - 1) u d := if_pos sy.1
        rw [b] at hh c2 ⊢
        rw [a]
        unfold nxF at hh c2 ⊢
        by_cases e : besS (z 71 u) d = -9
        · rw [if_pos e, if_pos e]
        · rw [if_neg e] at hh c2
          rw [if_neg e, if_neg e]
          unfold chS at hh c2 ⊢
          by_cases e2 : srch (z 71) (besS (z 71 u) d) (z 68 12).toNat 0 = -9
          · rw [if_pos e2, if_pos e2]
          · rw [if_neg e2] at hh c2
            rw [if_neg e2, if_neg e2]
            by_cases e3 : Cl z (jshl 1 (z 68 70) - 1) (srch (z 71) (besS (z 71 u) d) (z 68 12).toNat 0) = 0
            · rw [if_pos e3] at c2
              rw [if_pos e3, if_pos c2]
            · rw [if_neg e3] at hh
              omega
      have pe := PLs_e hH (s := s) (u := u) (d := d) ⟨u0, by omega⟩ ⟨d0, d1⟩ (by rw [en]; exact hh)
      rw [en] at pe
      show (Cl z s u = 0 ∧ PLs z s u = PLs z s v) ↔ (Cl z s (nxC z (jshl 1 (z 68 70) - 1) u d) = 0 ∧ PLs z s (nxC z (jshl 1 (z 68 70) - 1) u d) = PLs z s v)
      rw [pe]
      exact ⟨fun t => ⟨c2, t.2⟩, fun t => ⟨c1, t.2⟩⟩
    have a := (PLs_S cl v0 v1).mp ⟨vc2, rfl⟩
    rw [← q.1] at a
    have b := (PLs_S cl (v := (j : Int)) (by omega) (by omega)).mpr a
    rw [if_pos q, if_pos ⟨b.2, b.1⟩]
    exact Int.le_refl _
  · rw [if_neg q]
    split <;> omega
