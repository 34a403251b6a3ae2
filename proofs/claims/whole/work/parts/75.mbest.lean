/-! wells: the reference finds the best way -/
theorem costR_sum (bl bg nd go yi de : Int → Int) (nh : Nat) : ∀ n : Nat, costR bl bg nd go yi de nh n = 1000 * sumR (fun h => if srvH bl bg nd go yi de nh h < 0 then 1 else 0) n + sumR (fun h => if srvH bl bg nd go yi de nh h < 0 then 0 else srvH bl bg nd go yi de nh h) n
  | 0 => rfl
  | n + 1 => by
    have i := costR_sum bl bg nd go yi de nh n
    have u : costR bl bg nd go yi de nh (n + 1) = costR bl bg nd go yi de nh n + (if srvH bl bg nd go yi de nh n < 0 then 1000 else srvH bl bg nd go yi de nh n) := rfl
    rw [u, i, sumR_s, sumR_s]
    by_cases c : srvH bl bg nd go yi de nh n < 0
    · rw [if_pos c, if_pos c, if_pos c]; omega
    · rw [if_neg c, if_neg c, if_neg c]; omega
theorem costW_bg {bl nd go yi de : Int → Int} {nh : Nat} {v v2 : Int} (e : ∀ h : Int, 0 ≤ h → h < nh → hrW v (bl h) = hrW v2 (bl h)) : costW bl nd go yi de nh v = costW bl nd go yi de nh v2 := by
  have sv : ∀ h : Int, 0 ≤ h → h < nh → srvH bl (hrW v) nd go yi de nh h = srvH bl (hrW v2) nd go yi de nh h := by
    intro h h0 h1
    unfold srvH srvW
    rw [e h h0 h1]
    have mem := lineR_mem go nd (go h) nh
    rw [dayR_bg (fun x hx => e x ((mem x).mp hx).1 ((mem x).mp hx).2.1)]
  have key : ∀ n : Nat, n ≤ nh → costR bl (hrW v) nd go yi de nh n = costR bl (hrW v2) nd go yi de nh n := by
    intro n
    induction n with
    | zero => intro _; rfl
    | succ n ih =>
      intro hn
      unfold costR
      rw [ih (by omega), sv n (by omega) (by omega)]
  exact key nh (Nat.le_refl _)
section
variable {y : ZI} {nh nw : Nat} {bl nd go yi de : Int → Int}
theorem m_empty {b : Int} (h30 : nh ≤ 30) (e68 : y 68 12 = nh) (e72 : ∀ h : Int, 0 ≤ h → h < nh → y 72 h = bl h) : ∃ t, F_X11_isEmpty y b = some (t, y) ∧ (t = 0 ∨ t = 1) ∧ (t = 1 ↔ ∀ h : Int, 0 ≤ h → h < nh → bl h ≠ b) := by
  have l : ∀ (n k fu : Nat), k + n = nh → n < fu → (∀ h : Int, 0 ≤ h → h < k → bl h ≠ b) → ∃ t, X11_isEmpty_L2 fu y b k = some (t, y) ∧ (t = 0 ∨ t = 1) ∧ (t = 1 ↔ ∀ h : Int, 0 ≤ h → h < nh → bl h ≠ b) := by
    intro n
    induction n with
    | zero =>
      intro k fu hk hf h
      obtain ⟨fu, rfl⟩ : ∃ g, fu = g + 1 := ⟨fu - 1, by omega⟩
      obtain rfl : k = nh := by omega
      refine ⟨1, ?_, Or.inr rfl, ⟨fun _ => h, fun _ => rfl⟩⟩
      show X11_isEmpty_L2b (X11_isEmpty_L2 fu) _ _ _ = _
      unfold X11_isEmpty_L2b
      rw [e68, if_pos (Int.le_refl _)]
    | succ n ih =>
      intro k fu hk hf h
      obtain ⟨fu, rfl⟩ : ∃ g, fu = g + 1 := ⟨fu - 1, by omega⟩
      have e0 : X11_isEmpty_L2 (fu + 1) y b k = X11_isEmpty_L2b (X11_isEmpty_L2 fu) y b k := rfl
      have q := e72 k (by omega) (by omega)
      rw [e0]
      unfold X11_isEmpty_L2b
      rw [e68, if_neg (by omega), Zgd_t (by omega), q]
      by_cases c : bl k = b
      · rw [if_pos c]
        exact ⟨0, rfl, Or.inl rfl, ⟨fun e => by omega, fun e => absurd c (e k (by omega) (by omega))⟩⟩
      · rw [if_neg c, Zgd_t (by omega), show (k : Int) + 1 = ((k + 1 : Nat) : Int) by omega]
        exact ih (k + 1) fu (by omega) (by omega) (fun x x0 x1 => by
          by_cases e : x = k
          · rw [e]; exact c
          · exact h x x0 (by omega))
  exact l nh 0 Zfuel (by omega) (by unfold Zfuel; omega) (fun h h0 h1 => by omega)
theorem m_still_L (h30 : nh ≤ 30) (e68 : y 68 12 = nh) (e72 : ∀ h : Int, 0 ≤ h → h < nh → y 72 h = bl h) : ∀ (n k fu : Nat) (g : Nat), k + n = 4 → n < fu → g < 16 → (∀ b : Int, 0 ≤ b → b ≤ 3 → (hasB g b ↔ (b < k ∧ ∀ h : Int, 0 ≤ h → h < nh → bl h ≠ b))) → ∃ g2 : Nat, g2 < 16 ∧ X11_findBest_L31 fu y (mkM g : Int) k = X11_findBest_b66 y (mkM g2 : Int) ∧ (∀ b : Int, 0 ≤ b → b ≤ 3 → (hasB g2 b ↔ ∀ h : Int, 0 ≤ h → h < nh → bl h ≠ b)) := by
  intro n
  induction n with
  | zero =>
    intro k fu g hk hf g16 h
    obtain ⟨fu, rfl⟩ : ∃ g, fu = g + 1 := ⟨fu - 1, by omega⟩
    obtain rfl : k = 4 := by omega
    refine ⟨g, g16, ?_, fun b b0 b1 => (h b b0 b1).trans ⟨fun e => e.2, fun e => ⟨by omega, e⟩⟩⟩
    show X11_findBest_L31b (X11_findBest_L31 fu) _ _ _ = _
    unfold X11_findBest_L31b
    rw [if_pos (by decide)]
  | succ n ih =>
    intro k fu g hk hf g16 h
    obtain ⟨fu, rfl⟩ : ∃ g, fu = g + 1 := ⟨fu - 1, by omega⟩
    have e0 : X11_findBest_L31 (fu + 1) y (mkM g : Int) k = X11_findBest_L31b (X11_findBest_L31 fu) y (mkM g : Int) k := rfl
    obtain ⟨t, a1, a2, a3⟩ := m_empty (y := y) (b := (k : Int)) h30 e68 e72
    rw [e0]
    unfold X11_findBest_L31b X11_findBest_b58
    rw [if_neg (by omega), a1, Yb_some]
    by_cases c : t = 0
    · have j0 : jor (mkM g : Int) 0 = (mkM g : Int) := by
        have key : ∀ f : Fin 16, jor (mkM f.val : Int) 0 = (mkM f.val : Int) := by decide +kernel
        exact key ⟨g, g16⟩
      rw [if_pos c, Zgd_t (by omega), j0, show (k : Int) + 1 = ((k + 1 : Nat) : Int) by omega]
      refine ih (k + 1) fu g (by omega) (by omega) g16 (fun b b0 b1 => (h b b0 b1).trans ⟨fun e => ⟨by omega, e.2⟩, fun e => ⟨?_, e.2⟩⟩)
      apply Classical.byContradiction
      intro w
      have : b = k := by omega
      rw [this] at e
      have := a3.mpr e.2
      omega
    · obtain ⟨k1, k2, k3⟩ := mkM_add (f := g) (b := (k : Int)) g16 (by omega)
      rw [show 3 * (3 - (k : Int)) = 9 - 3 * (k : Int) by omega] at k1
      rw [if_neg c, Zgd_t (by omega), Zgd_t (by omega), Zgd_t (by omega), k1, show (k : Int) + 1 = ((k + 1 : Nat) : Int) by omega]
      refine ih (k + 1) fu (addB g k) (by omega) (by omega) k2 (fun b b0 b1 => ?_)
      rw [k3 b b0 b1, h b b0 b1]
      constructor
      · rintro (e | e)
        · exact ⟨by omega, e.2⟩
        · rw [e]
          exact ⟨by omega, a3.mp (a2.resolve_left c)⟩
      · rintro ⟨e1, e2⟩
        by_cases e : b = k
        · exact Or.inr e
        · exact Or.inl ⟨by omega, e2⟩
theorem m_hours_L {still way : Int} {k68 : ZI → Int → Int → Option (Unit × ZI)} (hw : 0 ≤ way ∧ way < 4096) : ∀ (n k fu : Nat) (T : Int → Int), k + n = 4 → n < fu → (∀ b : Int, 0 ≤ b → b < k → T b = hrW way b) → ∃ T2, X11_findBest_L86 k68 fu (Zro y 103 T) still way k = X11_findBest_b117 k68 (Zro y 103 T2) still way ∧ ∀ b : Int, 0 ≤ b → b ≤ 3 → T2 b = hrW way b := by
  intro n
  induction n with
  | zero =>
    intro k fu T hk hf h
    obtain ⟨fu, rfl⟩ : ∃ g, fu = g + 1 := ⟨fu - 1, by omega⟩
    obtain rfl : k = 4 := by omega
    refine ⟨T, ?_, fun b b0 b1 => h b b0 (by omega)⟩
    show X11_findBest_L86b k68 (X11_findBest_L86 k68 fu) _ _ _ _ = _
    unfold X11_findBest_L86b
    rw [if_pos (by decide)]
  | succ n ih =>
    intro k fu T hk hf h
    obtain ⟨fu, rfl⟩ : ∃ g, fu = g + 1 := ⟨fu - 1, by omega⟩
    have e0 : X11_findBest_L86 k68 (fu + 1) (Zro y 103 T) still way k = X11_findBest_L86b k68 (X11_findBest_L86 k68 fu) (Zro y 103 T) still way k := rfl
    have eb := hrW_b hw (b := (k : Int)) (by omega)
    have r := hrW_r hw.1 (k : Int)
    rw [e0]
    unfold X11_findBest_L86b
    rw [if_neg (by omega), Zgd_t (by omega), Zgd_t (by omega), eb, Zgd_t (by omega), Zgd_t (by omega), Zl_eq, Zro_u, Zgd_t (by omega), show (k : Int) + 1 = ((k + 1 : Nat) : Int) by omega]
    refine ih (k + 1) fu _ (by omega) (by omega) (fun b b0 b1 => ?_)
    unfold fupd
    by_cases e : b = k
    · rw [if_pos e, e]
    · rw [if_neg e]; exact h b b0 (by omega)
theorem m_copy4_L {still way : Int} {k68 : ZI → Int → Int → Option (Unit × ZI)} {f : Int → Int} (h103 : ∀ b : Int, 0 ≤ b → b ≤ 3 → y 103 b = f b) : ∀ (n k fu : Nat) (T : Int → Int), k + n = 4 → n < fu → (∀ b : Int, 0 ≤ b → b < k → T b = f b) → ∃ T2, X11_findBest_L234 k68 fu (Zro y 104 T) still way k = X11_findBest_b260 k68 (Zro y 104 T2) still way ∧ ∀ b : Int, 0 ≤ b → b ≤ 3 → T2 b = f b := by
  intro n
  induction n with
  | zero =>
    intro k fu T hk hf h
    obtain ⟨fu, rfl⟩ : ∃ g, fu = g + 1 := ⟨fu - 1, by omega⟩
    obtain rfl : k = 4 := by omega
    refine ⟨T, ?_, fun b b0 b1 => h b b0 (by omega)⟩
    show X11_findBest_L234b k68 (X11_findBest_L234 k68 fu) _ _ _ _ = _
    unfold X11_findBest_L234b
    rw [if_pos (by decide)]
  | succ n ih =>
    intro k fu T hk hf h
    obtain ⟨fu, rfl⟩ : ∃ g, fu = g + 1 := ⟨fu - 1, by omega⟩
    have e0 : X11_findBest_L234 k68 (fu + 1) (Zro y 104 T) still way k = X11_findBest_L234b k68 (X11_findBest_L234 k68 fu) (Zro y 104 T) still way k := rfl
    rw [e0]
    unfold X11_findBest_L234b
    rw [if_neg (by omega), Zgd_t (by omega), Zgd_t (by omega), Zro_k (k := 103) (by decide), h103 k (by omega) (by omega), Zl_eq, Zro_u, Zgd_t (by omega), show (k : Int) + 1 = ((k + 1 : Nat) : Int) by omega]
    refine ih (k + 1) fu _ (by omega) (by omega) (fun b b0 b1 => ?_)
    unfold fupd
    by_cases e : b = k
    · rw [if_pos e, e]
    · rw [if_neg e]; exact h b b0 (by omega)
theorem m_nots_L {still way : Int} {k68 : ZI → Int → Int → Option (Unit × ZI)} {S : Int → Int} (h30 : nh ≤ 30) (e68 : y 68 12 = nh) (e102 : ∀ h : Int, 0 ≤ h → h < nh → y 102 h = S h ∧ (S h = -9 ∨ (0 ≤ S h ∧ S h ≤ 23))) : ∀ (n k fu : Nat), k + n = nh → n < fu → X11_findBest_L133 k68 fu y still way (sumR (fun h => if S h < 0 then 1 else 0) k) (sumR (fun h => if S h < 0 then 0 else S h) k) k = X11_findBest_b192 k68 y still way (sumR (fun h => if S h < 0 then 1 else 0) nh) (sumR (fun h => if S h < 0 then 0 else S h) nh) := by
  intro n
  induction n with
  | zero =>
    intro k fu hk hf
    obtain ⟨fu, rfl⟩ : ∃ g, fu = g + 1 := ⟨fu - 1, by omega⟩
    obtain rfl : k = nh := by omega
    show X11_findBest_L133b k68 (X11_findBest_L133 k68 fu) _ _ _ _ _ _ = _
    unfold X11_findBest_L133b
    rw [e68, if_pos (Int.le_refl _)]
  | succ n ih =>
    intro k fu hk hf
    obtain ⟨fu, rfl⟩ : ∃ g, fu = g + 1 := ⟨fu - 1, by omega⟩
    have q := e102 k (by omega) (by omega)
    have b1 : 0 ≤ sumR (fun h => if S h < 0 then 1 else 0) k ∧ sumR (fun h => if S h < 0 then 1 else 0) k ≤ k := by
      have a := sumR_nn (f := fun h : Nat => if S h < 0 then (1 : Int) else 0) k (fun j hj => by
        show (0 : Int) ≤ if S j < 0 then 1 else 0
        split <;> omega)
      have b := sumR_mono (f := fun h : Nat => if S h < 0 then (1 : Int) else 0) (g := fun _ => 1) k (fun j hj => by
        show (if S j < 0 then (1 : Int) else 0) ≤ 1
        split <;> omega)
      have c := sumR_k 1 k
      omega
    have b2 : 0 ≤ sumR (fun h => if S h < 0 then 0 else S h) k ∧ sumR (fun h => if S h < 0 then 0 else S h) k ≤ 23 * k := by
      have a := sumR_nn (f := fun h : Nat => if S h < 0 then (0 : Int) else S h) k (fun j hj => by
        show (0 : Int) ≤ if S j < 0 then 0 else S j
        split <;> omega)
      have b := sumR_mono (f := fun h : Nat => if S h < 0 then (0 : Int) else S h) (g := fun _ => 23) k (fun j hj => by
        have := e102 j (by omega) (by omega)
        show (if S j < 0 then (0 : Int) else S j) ≤ 23
        split <;> omega)
      have c := sumR_k 23 k
      omega
    have i := ih (k + 1) fu (by omega) (by omega)
    rw [sumR_s, sumR_s] at i
    have e0 : X11_findBest_L133 k68 (fu + 1) y still way (sumR (fun h => if S h < 0 then 1 else 0) k) (sumR (fun h => if S h < 0 then 0 else S h) k) k = X11_findBest_L133b k68 (X11_findBest_L133 k68 fu) y still way (sumR (fun h => if S h < 0 then 1 else 0) k) (sumR (fun h => if S h < 0 then 0 else S h) k) k := rfl
    rw [e0]
    unfold X11_findBest_L133b X11_findBest_b158 X11_findBest_b183
    rw [e68, if_neg (by omega), Zgd_t (by omega), q.1]
    by_cases c : S k < 0
    · rw [if_pos c, if_pos c] at i
      rw [if_neg (by omega), Zgd_t (by omega), Zgd_t (by omega), if_neg (by omega), Zgd_t (by omega), Zgd_t (by omega), show (k : Int) + 1 = ((k + 1 : Nat) : Int) by omega]
      exact i
    · rw [if_neg c, if_neg c] at i
      rw [if_pos (by omega), Zgd_t (by omega), Zgd_t (by omega), if_pos (by omega), Zgd_t (by omega), Zgd_t (by omega), Zgd_t (by omega), show (k : Int) + 1 = ((k + 1 : Nat) : Int) by omega]
      exact i
end
def FrE (z z2 : ZI) : Prop := ∀ k i, (z2 k i = z k i) ∨ (101 ≤ k ∧ k ≤ 104) ∨ (k = 68 ∧ (i = 48 ∨ i = 49))
theorem FrE.rf (z : ZI) : FrE z z := fun _ _ => Or.inl rfl
theorem FrE.tr {z z2 z3 : ZI} (h : FrE z z2) (g : FrE z2 z3) : FrE z z3 := by
  intro k i
  rcases h k i with q | q
  · rcases g k i with r | r
    · exact Or.inl (r.trans q)
    · exact Or.inr r
  · exact Or.inr q
theorem FrE.k {z z2 : ZI} (h : FrE z z2) {k : Nat} (h1 : k ≠ 68) (h2 : ¬ (101 ≤ k ∧ k ≤ 104)) : z2 k = z k := by
  funext i
  rcases h k i with q | q | q
  · exact q
  · exact absurd q h2
  · exact absurd q.1 h1
theorem FrE.l {z z2 : ZI} (h : FrE z z2) {i : Int} (h1 : i ≠ 48) (h2 : i ≠ 49) : z2 68 i = z 68 i := by
  rcases h 68 i with q | q | q
  · exact q
  · omega
  · omega
theorem FrE_rows {z z2 : ZI} (h : ∀ k, ¬ (101 ≤ k ∧ k ≤ 104) → z2 k = z k) : FrE z z2 := by
  intro k i
  by_cases c : 101 ≤ k ∧ k ≤ 104
  · exact Or.inr (Or.inl c)
  · exact Or.inl (by rw [h k c])
theorem FrE_u {z : ZI} {i v : Int} (h : i = 48 ∨ i = 49) : FrE z (Zup z 68 i v) := by
  intro k j
  by_cases c : k = 68 ∧ j = i
  · exact Or.inr (Or.inr ⟨c.1, by rw [c.2]; exact h⟩)
  · exact Or.inl (if_neg c)
theorem DRn_E {y y2 : ZI} {n W : Nat} {bl nd go yi de : Int → Int} (f : FrE y y2) (h : DRn y n W bl nd go yi de) : DRn y2 n W bl nd go yi de := by
  unfold DRn at *
  rw [f.l (i := 12) (by decide) (by decide), f.l (i := 47) (by decide) (by decide), f.k (k := 99) (by decide) (by omega), f.k (k := 72) (by decide) (by omega), f.k (k := 96) (by decide) (by omega), f.k (k := 97) (by decide) (by omega), f.k (k := 105) (by decide) (by omega), f.k (k := 106) (by decide) (by omega)]
  exact h
/-- the best of the ways so far -/
def BIw (f : Int → Int) (k : Int) (y : ZI) : Prop := (k = 0 ∧ y 68 48 = 31 ∧ y 68 49 = 0) ∨ ∃ bw, minW f k bw ∧ y 68 48 = f bw / 1000 ∧ y 68 49 = f bw % 1000 ∧ ∀ b : Int, 0 ≤ b → b ≤ 3 → y 104 b = hrW bw b
section
variable {n W : Nat} {bl nd go yi de : Int → Int}
theorem m_ways_L {g : Nat} (hg : g < 16) (hgb : ∀ b : Int, 0 ≤ b → b ≤ 3 → (hasB g b ↔ ∀ h : Int, 0 ≤ h → h < n → bl h ≠ b)) (hgo : ∀ h : Int, 0 ≤ h → h < n → go h < W) {y0 : ZI} (hy0 : DRn y0 n W bl nd go yi de) : ∀ (m k fu : Nat) (y : ZI), k + m = 4096 → m < fu → FrE y0 y → BIw (costW bl nd go yi de n) k y → ∃ y2, X11_findBest_L68 fu y (mkM g : Int) k = some ((), y2) ∧ FrE y0 y2 ∧ BIw (costW bl nd go yi de n) 4096 y2 := by
  intro m
  induction m with
  | zero =>
    intro k fu y hk hf fr hb
    obtain ⟨fu, rfl⟩ : ∃ g, fu = g + 1 := ⟨fu - 1, by omega⟩
    obtain rfl : k = 4096 := by omega
    refine ⟨y, ?_, fr, hb⟩
    show X11_findBest_L68b (X11_findBest_L68 fu) _ _ _ = _
    unfold X11_findBest_L68b
    rw [if_pos (by decide)]
  | succ m ih =>
    intro k fu y hk hf fr hb
    obtain ⟨fu, rfl⟩ : ∃ g, fu = g + 1 := ⟨fu - 1, by omega⟩
    have hk2 : 0 ≤ (k : Int) ∧ (k : Int) < 4096 := by omega
    have e0 : X11_findBest_L68 (fu + 1) y (mkM g : Int) k = X11_findBest_L68b (X11_findBest_L68 fu) y (mkM g : Int) k := rfl
    have b260 : ∀ y', X11_findBest_b260 (X11_findBest_L68 fu) y' (mkM g : Int) k = X11_findBest_L68 fu y' (mkM g : Int) ((k + 1 : Nat) : Int) := by
      intro y'
      unfold X11_findBest_b260
      rw [Zgd_t (by omega), show (k : Int) + 1 = ((k + 1 : Nat) : Int) by omega]
    have kc : ((k + 1 : Nat) : Int) = (k : Int) + 1 := by omega
    rw [e0]
    unfold X11_findBest_L68b
    rw [if_neg (by omega)]
    by_cases c : jand k (mkM g : Int) = 0
    · have hy := DRn_E fr hy0
      obtain ⟨T, a1, a2⟩ := m_hours_L (y := y) (still := (mkM g : Int)) (k68 := X11_findBest_L68 fu) hk2 4 0 Zfuel (y 103) (by decide) (by unfold Zfuel; omega) (fun b b0 b1 => by omega)
      have a1 : X11_findBest_L86 (X11_findBest_L68 fu) Zfuel (Zro y 103 (y 103)) (mkM g : Int) k 0 = X11_findBest_b117 (X11_findBest_L68 fu) (Zro y 103 T) (mkM g : Int) k := a1
      rw [Zro_z] at a1
      have hyT : DRn (Zro y 103 T) n W bl nd go yi de := DRn_E (FrE_rows (fun q hq => Zro_k (by omega))) hy
      obtain ⟨H, S, d1, d2⟩ := m_draws (a1 := 103) (bg := hrW k) (by decide) (by decide) (fun b b0 b1 => by rw [Zro_s]; exact a2 b b0 b1) hyT hgo
      have sv : ∀ h : Int, 0 ≤ h → h < n → S h = -9 ∨ (0 ≤ S h ∧ S h ≤ 23) := by
        intro h h0 h1
        rw [d2 h h0 h1]
        unfold srvH
        by_cases q : nd h = 0
        · rw [if_pos q]
          have := hrW_r hk2.1 (bl h)
          omega
        · rw [if_neg q]
          by_cases q2 : go h < 0
          · rw [if_pos q2]; exact Or.inl rfl
          · rw [if_neg q2]
            exact dayR_v 20 _ _ _ (by decide) (fun _ => Or.inl rfl) h
      have nl := m_nots_L (y := Ztwo (Zro y 103 T) 101 102 H S) (still := (mkM g : Int)) (way := (k : Int)) (k68 := X11_findBest_L68 fu) (S := S) (nh := n) hy.1 hy.2.2.1 (fun h h0 h1 => ⟨by rw [Ztwo_b (by decide)], sv h h0 h1⟩) n 0 Zfuel (by omega) (by have := hy.1; unfold Zfuel; omega)
      have nl : X11_findBest_L133 (X11_findBest_L68 fu) Zfuel (Ztwo (Zro y 103 T) 101 102 H S) (mkM g : Int) k 0 0 0 = _ := nl
      have cs := costR_sum bl (hrW k) nd go yi de n n
      have cw : costW bl nd go yi de n k = costR bl (hrW k) nd go yi de n n := rfl
      have s1 : sumR (fun h => if S h < 0 then 1 else 0) n = sumR (fun h => if srvH bl (hrW k) nd go yi de n h < 0 then 1 else 0) n := sumR_cg n (fun j hj => by rw [d2 j (by omega) (by omega)])
      have s2 : sumR (fun h => if S h < 0 then 0 else S h) n = sumR (fun h => if srvH bl (hrW k) nd go yi de n h < 0 then 0 else srvH bl (hrW k) nd go yi de n h) n := sumR_cg n (fun j hj => by rw [d2 j (by omega) (by omega)])
      have n30 := hy.1
      have nb : 0 ≤ sumR (fun h => if S h < 0 then 1 else 0) n ∧ sumR (fun h => if S h < 0 then 1 else 0) n ≤ n := by
        have a := sumR_nn (f := fun h : Nat => if S h < 0 then (1 : Int) else 0) n (fun j hj => by
          show (0 : Int) ≤ if S j < 0 then 1 else 0
          split <;> omega)
        have b := sumR_mono (f := fun h : Nat => if S h < 0 then (1 : Int) else 0) (g := fun _ => 1) n (fun j hj => by
          show (if S j < 0 then (1 : Int) else 0) ≤ 1
          split <;> omega)
        have c := sumR_k 1 n
        omega
      have sb : 0 ≤ sumR (fun h => if S h < 0 then 0 else S h) n ∧ sumR (fun h => if S h < 0 then 0 else S h) n ≤ 23 * n := by
        have a := sumR_nn (f := fun h : Nat => if S h < 0 then (0 : Int) else S h) n (fun j hj => by
          show (0 : Int) ≤ if S j < 0 then 0 else S j
          split <;> omega)
        have b := sumR_mono (f := fun h : Nat => if S h < 0 then (0 : Int) else S h) (g := fun _ => 23) n (fun j hj => by
          have := sv j (by omega) (by omega)
          show (if S j < 0 then (0 : Int) else S j) ≤ 23
          split <;> omega)
        have c := sumR_k 23 n
        omega
      rw [← s1, ← s2, ← cw] at cs
      have frS : FrE y0 (Ztwo (Zro y 103 T) 101 102 H S) := fr.tr (FrE_rows (fun q hq => by rw [Ztwo_k (by omega) (by omega), Zro_k (by omega)]))
      have e103 : ∀ b : Int, 0 ≤ b → b ≤ 3 → (Ztwo (Zro y 103 T) 101 102 H S) 103 b = hrW k b := fun b b0 b1 => by
        rw [Ztwo_k (by decide) (by decide), Zro_s]
        exact a2 b b0 b1
      have e48 : ∀ i, (Ztwo (Zro y 103 T) 101 102 H S) 68 i = y 68 i := fun i => rfl
      have e104 : (Ztwo (Zro y 103 T) 101 102 H S) 104 = y 104 := rfl
      rw [if_pos c, a1]
      unfold X11_findBest_b117
      rw [d1, Yb_some, nl]
      generalize hN : sumR (fun h => if S h < 0 then 1 else 0) n = N at *
      generalize hM : sumR (fun h => if S h < 0 then 0 else S h) n = M at *
      generalize hY : Ztwo (Zro y 103 T) 101 102 H S = Y at *
      have upd : (∀ bw, minW (costW bl nd go yi de n) k bw → costW bl nd go yi de n k < costW bl nd go yi de n bw) → (k = 0 ∨ ∃ bw, minW (costW bl nd go yi de n) k bw) → ∃ y2, X11_findBest_b220 (X11_findBest_L68 fu) Y (mkM g : Int) k N M = some ((), y2) ∧ FrE y0 y2 ∧ BIw (costW bl nd go yi de n) 4096 y2 := by
        intro hlt hex
        obtain ⟨T2, t1, t2⟩ := m_copy4_L (y := Zup (Zup Y 68 48 N) 68 49 M) (still := (mkM g : Int)) (way := (k : Int)) (k68 := X11_findBest_L68 fu) (f := hrW k) (fun b b0 b1 => by rw [Zup_k (by decide), Zup_k (by decide)]; exact e103 b b0 b1) 4 0 Zfuel (Y 104) (by decide) (by unfold Zfuel; omega) (fun b b0 b1 => by omega)
        have ez : Zro (Zup (Zup Y 68 48 N) 68 49 M) 104 (Y 104) = Zup (Zup Y 68 48 N) 68 49 M := Zro_z (Zup (Zup Y 68 48 N) 68 49 M) 104
        rw [ez] at t1
        have t1 : X11_findBest_L234 (X11_findBest_L68 fu) Zfuel (Zup (Zup Y 68 48 N) 68 49 M) (mkM g : Int) k 0 = _ := t1
        unfold X11_findBest_b220
        rw [Zl_eq, Zl_eq, t1, b260]
        refine ih (k + 1) fu _ (by omega) (by omega) (((frS.tr (FrE_u (Or.inl rfl))).tr (FrE_u (Or.inr rfl))).tr (FrE_rows (fun q hq => Zro_k (by omega)))) (Or.inr ⟨k, ?_, ?_, ?_, fun b b0 b1 => ?_⟩)
        · refine ⟨by omega, by omega, fun v v0 v1 => ?_, fun v v0 v1 => ?_⟩
          · by_cases e : v = k
            · rw [e]; exact Int.le_refl _
            · rcases hex with q | ⟨bw, q⟩
              · omega
              · have x1 := hlt bw q
                have x2 := q.2.2.1 v v0 (by omega)
                omega
          · rcases hex with q | ⟨bw, q⟩
            · omega
            · have x1 := hlt bw q
              have x2 := q.2.2.1 v v0 v1
              omega
        · rw [Zro_k (by decide), Zup_i (by decide), Zup_s]
          omega
        · rw [Zro_k (by decide), Zup_s]
          omega
        · rw [Zro_s]
          exact t2 b b0 b1
      have keep : (∃ bw, minW (costW bl nd go yi de n) k bw ∧ y 68 48 = costW bl nd go yi de n bw / 1000 ∧ y 68 49 = costW bl nd go yi de n bw % 1000 ∧ (∀ b : Int, 0 ≤ b → b ≤ 3 → y 104 b = hrW bw b) ∧ costW bl nd go yi de n bw ≤ costW bl nd go yi de n k) → ∃ y2, X11_findBest_b260 (X11_findBest_L68 fu) Y (mkM g : Int) k = some ((), y2) ∧ FrE y0 y2 ∧ BIw (costW bl nd go yi de n) 4096 y2 := by
        rintro ⟨bw, q1, q2, q3, q4, q5⟩
        rw [b260]
        refine ih (k + 1) fu Y (by omega) (by omega) frS (Or.inr ⟨bw, ⟨q1.1, by have := q1.2.1; omega, fun v v0 v1 => ?_, q1.2.2.2⟩, by rw [e48]; exact q2, by rw [e48]; exact q3, by rw [e104]; exact q4⟩)
        by_cases e : v = k
        · rw [e]; exact q5
        · exact q1.2.2.1 v v0 (by omega)
      unfold X11_findBest_b192
      rw [e48, e48]
      rcases hb with ⟨h1, h2, h3⟩ | ⟨bw, h1, h2, h3, h4⟩
      · rw [h2, h3, if_neg (by omega), if_neg (by omega)]
        exact upd (fun bw q => by have := q.1; have := q.2.1; omega) (Or.inl (by omega))
      · have uq : ∀ b2, minW (costW bl nd go yi de n) k b2 → costW bl nd go yi de n b2 = costW bl nd go yi de n bw := fun b2 q => by
          have x1 := q.2.2.1 bw h1.1 h1.2.1
          have x2 := h1.2.2.1 b2 q.1 q.2.1
          omega
        by_cases c1 : y 68 48 < N
        · rw [if_pos c1]
          exact keep ⟨bw, h1, h2, h3, h4, by omega⟩
        · rw [if_neg c1]
          by_cases c2 : N = y 68 48
          · rw [if_pos c2]
            by_cases c3 : M < y 68 49
            · rw [if_pos c3]
              exact upd (fun b2 q => by rw [uq b2 q]; omega) (Or.inr ⟨bw, h1⟩)
            · rw [if_neg c3]
              exact keep ⟨bw, h1, h2, h3, h4, by omega⟩
          · rw [if_neg c2]
            exact upd (fun b2 q => by rw [uq b2 q]; omega) (Or.inr ⟨bw, h1⟩)
    · rw [if_neg c, b260]
      have hc := mkM_cpl hg
      obtain ⟨v1, v2, v3, v4⟩ := cutW (w := (k : Int)) hk2 (f := 15 - g) (by omega)
      have vo := cut_other (w := (k : Int)) hk2 hc.1
      have vne : jand k (mkM (15 - g) : Int) ≠ k := fun e => by
        rw [e] at vo
        exact c vo
      have vc : costW bl nd go yi de n (jand k (mkM (15 - g) : Int)) = costW bl nd go yi de n k := costW_bg (fun h h0 h1 => by
        have q := hy0.2.2.2.2.1 h h0 h1
        exact v4 (bl h) q.2.2.1 q.2.2.2 ((hc.2 (bl h) q.2.2.1 q.2.2.2).mpr (fun e => (hgb (bl h) q.2.2.1 q.2.2.2).mp e h h0 h1 rfl)))
      refine ih (k + 1) fu y (by omega) (by omega) fr ?_
      rcases hb with ⟨h1, h2, h3⟩ | ⟨bw, h1, h2, h3, h4⟩
      · omega
      · refine Or.inr ⟨bw, ⟨h1.1, by have := h1.2.1; omega, fun v v0 v1' => ?_, h1.2.2.2⟩, h2, h3, h4⟩
        by_cases e : v = k
        · rw [e, ← vc]
          exact h1.2.2.1 _ v1 (by omega)
        · exact h1.2.2.1 v v0 (by omega)
end
