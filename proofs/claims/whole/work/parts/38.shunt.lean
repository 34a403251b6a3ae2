/-! texts: the reference's working out, in words of stacks; it comes to what the class reads -/
def rkS (b : Int) : Int := if b = 40 then 0 else if b = 42 ∨ b = 47 then 3 else if b = 43 ∨ b = 45 then 2 else 1
def opvS (b x y : Int) : Int := hldS (if b = 43 then x + y else if b = 45 then x - y else if b = 42 then x * y else if b = 47 then dvdS x y else if b = 60 then (if x < y then 1 else 0) else if b = 62 then (if y < x then 1 else 0) else (if x = y then 1 else 0))
def wkL (l : Int) : List Int → List Int → Option (List Int × List Int)
  | [], vs => some ([], vs)
  | b :: ws, vs => if rkS b < l then some (b :: ws, vs) else
    match vs with
    | y :: x :: vs => wkL l ws (opvS b x y :: vs)
    | _ => none
def endV : Option (List Int × List Int) → Option Int
  | some (_, [v]) => some v
  | _ => none
def clsV : Option (List Int × List Int) → Option (List Int × List Int)
  | some (_ :: w, v) => some (w, v)
  | _ => none
def wM (a : Int → Int) (n : Int) (fa : Int → Int) : Nat → Int → List Int → List Int → Option Int
  | 0, _, _, _ => none
  | f + 1, t, ws, vs =>
    if n ≤ t then endV (wkL 1 ws vs)
    else if isLet (a t) then wM a n fa f (t + 1) ws (fa (a t) :: vs)
    else if isDig (a t) then (if isDig (nxS a n (numR a n 4 t 0).2) then none else wM a n fa f (numR a n 4 t 0).2 ws ((numR a n 4 t 0).1 :: vs))
    else if a t = 41 then (clsV (wkL 1 ws vs)).bind fun r => wM a n fa f (t + 1) r.1 r.2
    else if a t = 40 then wM a n fa f (t + 1) (40 :: ws) vs
    else (wkL (rkS (a t)) ws vs).bind fun r => wM a n fa f (t + 1) (a t :: r.1) r.2
def TR (lev : Int) : List Int → Prop
  | [] => True
  | b :: _ => rkS b < lev
theorem rkS_r (b : Int) : 0 ≤ rkS b ∧ rkS b ≤ 3 := by
  unfold rkS
  repeat' split
  all_goals omega
theorem rk_cmp {b : Int} (h : isCmp b) : rkS b = 1 := by
  unfold rkS
  rw [if_neg (by omega), if_neg (by omega), if_neg (by omega)]
theorem rk_mul {b : Int} (h : b = 42 ∨ b = 47) : rkS b = 3 := by
  unfold rkS
  rw [if_neg (by omega), if_pos h]
theorem rk_add {b : Int} (h : b = 43 ∨ b = 45) : rkS b = 2 := by
  unfold rkS
  rw [if_neg (by omega), if_neg (by omega), if_pos h]
theorem op_mul {b x y : Int} (h : b = 42 ∨ b = 47) : hldS (if b = 42 then x * y else dvdS x y) = opvS b x y := by
  unfold opvS
  rw [if_neg (show ¬ b = 43 by omega), if_neg (show ¬ b = 45 by omega)]
  by_cases e3 : b = 42
  · rw [if_pos e3, if_pos e3]
  · rw [if_neg e3, if_neg e3, if_pos (by omega)]
theorem op_add {b x y : Int} (h : b = 43 ∨ b = 45) : hldS (if b = 43 then x + y else x - y) = opvS b x y := by
  unfold opvS
  by_cases e3 : b = 43
  · rw [if_pos e3, if_pos e3]
  · rw [if_neg e3, if_neg e3, if_pos (by omega)]
theorem nd_1 {a : Int → Int} {n t : Int} (h : isCmp (nxS a n t) ∨ nxS a n t = 41 ∨ isOp (nxS a n t)) : ¬ isDig (nxS a n t) := by omega
theorem nd_2 {a : Int → Int} {n t : Int} (hn : t < n) (h : isOp (a t)) : ¬ isDig (nxS a n t) := by
  rcases nx_sg (a := a) (n := n) (t := t) with ⟨h1, h2, h3⟩ | ⟨h1, h2, h3⟩
  · rw [h2]; omega
  · omega
theorem TR.mono {l m : Int} {ws : List Int} (h : TR l ws) (hl : l ≤ m) : TR m ws := by
  cases ws with
  | nil => trivial
  | cons b ws =>
    have h : rkS b < l := h
    show rkS b < m
    omega
theorem TR_4 (ws : List Int) : TR 4 ws := by
  cases ws with
  | nil => trivial
  | cons b ws =>
    have := rkS_r b
    show rkS b < 4
    omega
theorem wkL_top {l : Int} {ws vs : List Int} (h : TR l ws) : wkL l ws vs = some (ws, vs) := by
  cases ws with
  | nil => rfl
  | cons b ws => exact if_pos h
theorem wkL_op {l b x y : Int} {ws vs : List Int} (h : l ≤ rkS b) : wkL l (b :: ws) (y :: x :: vs) = wkL l ws (opvS b x y :: vs) := if_neg (by omega)
theorem opvS_c {s x y : Int} (h : isCmp s) : opvS s x y = cmpS s x y := by
  unfold opvS cmpS hldS
  rcases h with h | h | h <;> subst h
  · simp only [if_neg (show ¬ (60 : Int) = 43 by decide), if_neg (show ¬ (60 : Int) = 45 by decide), if_neg (show ¬ (60 : Int) = 42 by decide), if_neg (show ¬ (60 : Int) = 47 by decide), if_true]
    split <;> rfl
  · simp only [if_neg (show ¬ (61 : Int) = 43 by decide), if_neg (show ¬ (61 : Int) = 45 by decide), if_neg (show ¬ (61 : Int) = 42 by decide), if_neg (show ¬ (61 : Int) = 47 by decide), if_neg (show ¬ (61 : Int) = 60 by decide), if_neg (show ¬ (61 : Int) = 62 by decide), if_true]
    split <;> rfl
  · simp only [if_neg (show ¬ (62 : Int) = 43 by decide), if_neg (show ¬ (62 : Int) = 45 by decide), if_neg (show ¬ (62 : Int) = 42 by decide), if_neg (show ¬ (62 : Int) = 47 by decide), if_neg (show ¬ (62 : Int) = 60 by decide), if_neg (show ¬ (62 : Int) = 61 by decide), if_true]
    split <;> rfl
section
variable {a : Int → Int} {n : Int} {fa : Int → Int}
theorem wM_end {f : Nat} {t : Int} {ws vs : List Int} (h : n ≤ t) : wM a n fa (f + 1) t ws vs = endV (wkL 1 ws vs) := by
  rw [wM.eq_2, if_pos h]
theorem wM_let {f : Nat} {t : Int} {ws vs : List Int} (h : t < n) (h1 : isLet (a t)) : wM a n fa (f + 1) t ws vs = wM a n fa f (t + 1) ws (fa (a t) :: vs) := by
  rw [wM.eq_2, if_neg (by omega), if_pos h1]
theorem wM_dig {f : Nat} {t : Int} {ws vs : List Int} (h : t < n) (h1 : isDig (a t)) (h2 : ¬ isDig (nxS a n (numR a n 4 t 0).2)) : wM a n fa (f + 1) t ws vs = wM a n fa f (numR a n 4 t 0).2 ws ((numR a n 4 t 0).1 :: vs) := by
  rw [wM.eq_2, if_neg (by omega), if_neg (by omega), if_pos h1, if_neg h2]
theorem wM_close {f : Nat} {t b : Int} {ws vs w v : List Int} (h : t < n) (h1 : a t = 41) (h2 : wkL 1 ws vs = some (b :: w, v)) : wM a n fa (f + 1) t ws vs = wM a n fa f (t + 1) w v := by
  rw [wM.eq_2, if_neg (by omega), if_neg (by omega), if_neg (by omega), if_pos h1, h2]
  rfl
theorem wM_open {f : Nat} {t : Int} {ws vs : List Int} (h : t < n) (h1 : a t = 40) : wM a n fa (f + 1) t ws vs = wM a n fa f (t + 1) (40 :: ws) vs := by
  rw [wM.eq_2, if_neg (by omega), if_neg (by omega), if_neg (by omega), if_neg (by omega), if_pos h1]
theorem wM_op {f : Nat} {t : Int} {ws vs w v : List Int} (h : t < n) (h1 : isCmp (a t) ∨ isOp (a t)) (h2 : wkL (rkS (a t)) ws vs = some (w, v)) : wM a n fa (f + 1) t ws vs = wM a n fa f (t + 1) (a t :: w) v := by
  rw [wM.eq_2, if_neg (by omega), if_neg (by omega), if_neg (by omega), if_neg (by omega), if_neg (by omega), h2]
  rfl
end
def RW (a : Int → Int) (n : Int) (fa : Int → Int) (lev t : Int) (r : Int × Int × Int) : Prop :=
  r.2.2 = -9 → t < r.2.1 ∧ r.2.1 ≤ n ∧ (¬ isDig (nxS a n r.2.1) → ∃ (g : Nat) (pw pv : List Int), (g : Int) ≤ r.2.1 - t ∧
    (∀ f ws vs, TR lev ws → wM a n fa (f + g) t ws vs = wM a n fa f r.2.1 (pw ++ ws) (pv ++ vs)) ∧
    ∀ l ws vs, l ≤ lev → TR lev ws → wkL l (pw ++ ws) (pv ++ vs) = wkL l ws (r.1 :: vs))
def RWA (a : Int → Int) (n : Int) (fa : Int → Int) (lev : Int) (S : Int → Int × Int × Int) : Prop := ∀ t, 0 ≤ t → t ≤ n → RW a n fa lev t (S t)
section
variable {a : Int → Int} {n : Int} {fa : Int → Int}
theorem RW.mono {l m t : Int} {r : Int × Int × Int} (h : RW a n fa m t r) (hl : l ≤ m) : RW a n fa l t r := by
  intro e
  obtain ⟨h1, h2, h3⟩ := h e
  refine ⟨h1, h2, fun nd => ?_⟩
  obtain ⟨g, pw, pv, g1, g2, g3⟩ := h3 nd
  exact ⟨g, pw, pv, g1, fun f ws vs q => g2 f ws vs (q.mono hl), fun k ws vs q1 q2 => g3 k ws vs (by omega) (q2.mono hl)⟩
theorem W_close {t v t1 : Int} (ht : 0 ≤ t ∧ t < t1) (hc : nxS a n t1 = 41 → ∃ g : Nat, (g : Int) ≤ t1 - t ∧ ∀ ws vs, ∃ w2 v2, (∀ f, wM a n fa (f + g) t ws vs = wM a n fa f t1 w2 v2) ∧ wkL 1 w2 v2 = some (40 :: ws, v :: vs)) : RW a n fa 4 t (closeS a n v t1) := by
  unfold closeS
  by_cases e : nxS a n t1 = 41
  · rw [if_pos e]
    obtain ⟨g, g1, g2⟩ := hc e
    rcases nx_sg (a := a) (n := n) (t := t1) with ⟨h1, h2, h3⟩ | ⟨h1, h2, h3⟩
    · intro _
      refine ⟨by dsimp only; omega, by dsimp only; omega, fun _ => ⟨g + 1, [], [v], by dsimp only; omega, fun f ws vs _ => ?_, fun l ws vs _ _ => rfl⟩⟩
      obtain ⟨w2, v2, k1, k2⟩ := g2 ws vs
      rw [show f + (g + 1) = (f + 1) + g by omega, k1, wM_close h1 (by omega) k2]
      rfl
    · omega
  · rw [if_neg e]
    intro q
    dsimp only at q
    omega
theorem W_bkt {t : Int} {S : Int → Int × Int × Int} (hS : RWA a n fa 2 S) (ht : 0 ≤ t ∧ t < n) (h40 : a t = 40) : RW a n fa 4 t (bktS a n S t) := by
  have tr40 : ∀ ws, TR 2 (40 :: ws) := fun ws => (by decide : rkS 40 < 2)
  have tp40 : ∀ ws vs, wkL 1 (40 :: ws) vs = some (40 :: ws, vs) := fun ws vs => wkL_top (by show rkS 40 < 1; decide)
  unfold bktS
  by_cases e1 : (S (t + 1)).2.2 = -9
  · rw [if_neg (by omega)]
    obtain ⟨r1, r2, r3⟩ := hS (t + 1) (by omega) (by omega) e1
    by_cases e2 : isCmp (nxS a n (S (t + 1)).2.1)
    · rw [if_pos e2]
      obtain ⟨g1, pw1, pv1, p1, p2, p3⟩ := r3 (nd_1 (Or.inl e2))
      rcases nx_sg (a := a) (n := n) (t := (S (t + 1)).2.1) with ⟨h1, h2, h3⟩ | ⟨h1, h2, h3⟩
      · by_cases e3 : (S ((S (t + 1)).2.1 + 1)).2.2 = -9
        · rw [if_neg (by omega)]
          obtain ⟨s1, s2, s3⟩ := hS ((S (t + 1)).2.1 + 1) (by omega) (by omega) e3
          rw [h2] at e2 ⊢
          generalize S ((S (t + 1)).2.1 + 1) = R2 at *
          generalize S (t + 1) = R1 at *
          have rk : rkS (a R1.2.1) = 1 := rk_cmp e2
          refine W_close ⟨ht.1, by omega⟩ (fun q => ?_)
          obtain ⟨g2, pw2, pv2, q1, q2, q3⟩ := s3 (nd_1 (Or.inr (Or.inl q)))
          refine ⟨g2 + 1 + (g1 + 1), by omega, fun ws vs => ⟨pw2 ++ (a R1.2.1 :: 40 :: ws), pv2 ++ (R1.1 :: vs), fun f => ?_, ?_⟩⟩
          · rw [show f + (g2 + 1 + (g1 + 1)) = (f + (g2 + 1) + g1) + 1 by omega, wM_open ht.2 h40, p2 _ _ _ (tr40 ws), show f + (g2 + 1) = (f + g2) + 1 by omega, wM_op (w := 40 :: ws) (v := R1.1 :: vs) h1 (Or.inl e2) (by rw [rk, p3 1 _ _ (by decide) (tr40 ws), tp40]), q2 _ _ _ (by show rkS (a R1.2.1) < 2; omega)]
          · rw [q3 1 _ _ (by decide) (by show rkS (a R1.2.1) < 2; omega), wkL_op (by omega), tp40, opvS_c e2]
        · rw [if_pos e3]
          intro q
          exact absurd q e3
      · rw [h2] at e2
        exact absurd e2 (by decide)
    · rw [if_neg e2]
      refine W_close ⟨ht.1, by omega⟩ (fun q => ?_)
      obtain ⟨g1, pw1, pv1, p1, p2, p3⟩ := r3 (nd_1 (Or.inr (Or.inl q)))
      refine ⟨g1 + 1, by omega, fun ws vs => ⟨pw1 ++ 40 :: ws, pv1 ++ vs, fun f => ?_, ?_⟩⟩
      · rw [show f + (g1 + 1) = (f + g1) + 1 by omega, wM_open ht.2 h40, p2 _ _ _ (tr40 ws)]
      · rw [p3 1 _ _ (by decide) (tr40 ws), tp40]
  · rw [if_pos e1]
    intro q
    exact absurd q e1
theorem W_unit {lt : Int → Int} {S : Int → Int × Int × Int} {ok : Prop} [Decidable ok] (hF : ∀ b, isLet b → lt b = fa b) (hS : ok → RWA a n fa 2 S) : RWA a n fa 4 (unitS a n lt S ok) := by
  intro t h0 h1
  unfold unitS
  rcases nx_sg (a := a) (n := n) (t := t) with ⟨h1, h2, h3⟩ | ⟨h1, h2, h3⟩
  · rw [h2]
    by_cases e1 : a t = 40
    · rw [if_pos e1]
      by_cases e2 : ok
      · rw [if_pos e2]
        exact W_bkt (hS e2) ⟨h0, h1⟩ e1
      · rw [if_neg e2]
        intro q
        dsimp only at q
        omega
    · rw [if_neg e1]
      by_cases e2 : isDig (a t)
      · rw [if_pos e2]
        have r := dgR_gt (a := a) (t := t) (by omega) (by rw [h3]; exact e2)
        intro _
        refine ⟨by dsimp only; rw [num_dg]; omega, by dsimp only; rw [num_dg]; omega, fun nd => ⟨1, [], [(numR a n 4 t 0).1], by dsimp only; rw [num_dg]; omega, fun f ws vs _ => ?_, fun _ _ _ _ _ => rfl⟩⟩
        rw [wM_dig h1 e2 nd]
        rfl
      · rw [if_neg e2]
        by_cases e3 : isLet (a t)
        · rw [if_pos e3]
          intro _
          refine ⟨by dsimp only; omega, by dsimp only; omega, fun nd => ⟨1, [], [lt (a t)], by dsimp only; omega, fun f ws vs _ => ?_, fun _ _ _ _ _ => rfl⟩⟩
          rw [wM_let h1 e3, hF _ e3]
          rfl
        · rw [if_neg e3]
          intro q
          dsimp only at q
          omega
  · rw [h2, if_neg (by decide), if_neg (by decide), if_neg (by decide)]
    intro q
    dsimp only at q
    omega
theorem W_step {lev sk t v : Int} {r u : Int × Int × Int} (hl : 1 ≤ lev ∧ lev ≤ 3) (h0 : 0 ≤ t) (he : r.2.2 = -9) (hr : RW a n fa lev t r) (hn : r.2.1 < n) (hs : isOp (a r.2.1)) (hk : rkS (a r.2.1) = lev) (hu : RW a n fa sk (r.2.1 + 1) u) (hsk : lev < sk) (hv : v = opvS (a r.2.1) r.1 u.1) : RW a n fa lev t (v, u.2) := by
  intro q1
  dsimp only at q1 ⊢
  obtain ⟨r1, r2, r3⟩ := hr he
  obtain ⟨s1, s2, s3⟩ := hu q1
  refine ⟨by omega, s2, fun nd => ?_⟩
  obtain ⟨g1, pw1, pv1, p1, p2, p3⟩ := r3 (nd_2 hn hs)
  obtain ⟨g2, pw2, pv2, q1, q2, q3⟩ := s3 nd
  have tr : ∀ ws, TR sk (a r.2.1 :: ws) := fun ws => (by omega : rkS (a r.2.1) < sk)
  refine ⟨g2 + 1 + g1, pw2 ++ [a r.2.1], pv2 ++ [r.1], by omega, fun f ws vs ht => ?_, fun l ws vs hl2 ht => ?_⟩
  · rw [show f + (g2 + 1 + g1) = (f + g2 + 1) + g1 by omega, p2 _ _ _ ht, wM_op (w := ws) (v := r.1 :: vs) hn (Or.inr hs) (by rw [hk, p3 _ _ _ (Int.le_refl _) ht, wkL_top ht]), q2 _ _ _ (tr ws), List.append_assoc, List.append_assoc]
    rfl
  · rw [List.append_assoc, List.append_assoc]
    show wkL l (pw2 ++ a r.2.1 :: ws) (pv2 ++ r.1 :: vs) = _
    rw [q3 l _ _ (by omega) (tr ws), wkL_op (by omega), hv]
theorem W_termL {U : Int → Int × Int × Int} (hU : RWA a n fa 4 U) : ∀ (k : Nat) (r : Int × Int × Int) (t : Int), 0 ≤ t → RW a n fa 3 t r → RW a n fa 3 t (termL a n U k r)
  | 0, r, t, h0, hr => hr
  | k + 1, r, t, h0, hr => by
    have u : termL a n U (k + 1) r = if r.2.2 ≠ -9 then r else if nxS a n r.2.1 = 42 ∨ nxS a n r.2.1 = 47 then termL a n U k (hldS (if nxS a n r.2.1 = 42 then r.1 * (U (r.2.1 + 1)).1 else dvdS r.1 (U (r.2.1 + 1)).1), (U (r.2.1 + 1)).2) else r := rfl
    rw [u]
    by_cases e1 : r.2.2 = -9
    · rw [if_neg (by omega)]
      by_cases e2 : nxS a n r.2.1 = 42 ∨ nxS a n r.2.1 = 47
      · rw [if_pos e2]
        obtain ⟨r1, r2, -⟩ := hr e1
        rcases nx_sg (a := a) (n := n) (t := r.2.1) with ⟨h1, h2, h3⟩ | ⟨h1, h2, h3⟩
        · rw [h2] at e2 ⊢
          exact W_termL hU k _ t h0 (W_step (sk := 4) (by decide) h0 e1 hr h1 (by omega) (rk_mul e2) (hU _ (by omega) (by omega)) (by decide) (op_mul e2))
        · rw [h2] at e2
          exact absurd e2 (by decide)
      · rw [if_neg e2]
        exact hr
    · rw [if_pos e1]
      exact hr
theorem W_sumL {U : Int → Int × Int × Int} (hU : RWA a n fa 3 U) : ∀ (k : Nat) (r : Int × Int × Int) (t : Int), 0 ≤ t → RW a n fa 2 t r → RW a n fa 2 t (sumL a n U k r)
  | 0, r, t, h0, hr => hr
  | k + 1, r, t, h0, hr => by
    have u : sumL a n U (k + 1) r = if r.2.2 ≠ -9 then r else if nxS a n r.2.1 = 43 ∨ nxS a n r.2.1 = 45 then sumL a n U k (hldS (if nxS a n r.2.1 = 43 then r.1 + (U (r.2.1 + 1)).1 else r.1 - (U (r.2.1 + 1)).1), (U (r.2.1 + 1)).2) else r := rfl
    rw [u]
    by_cases e1 : r.2.2 = -9
    · rw [if_neg (by omega)]
      by_cases e2 : nxS a n r.2.1 = 43 ∨ nxS a n r.2.1 = 45
      · rw [if_pos e2]
        obtain ⟨r1, r2, -⟩ := hr e1
        rcases nx_sg (a := a) (n := n) (t := r.2.1) with ⟨h1, h2, h3⟩ | ⟨h1, h2, h3⟩
        · rw [h2] at e2 ⊢
          exact W_sumL hU k _ t h0 (W_step (sk := 3) (by decide) h0 e1 hr h1 (by omega) (rk_add e2) (hU _ (by omega) (by omega)) (by decide) (op_add e2))
        · rw [h2] at e2
          exact absurd e2 (by decide)
      · rw [if_neg e2]
        exact hr
    · rw [if_pos e1]
      exact hr
theorem W_pS {lt : Int → Int} (hF : ∀ b, isLet b → lt b = fa b) : ∀ k : Nat, RWA a n fa 2 (pS a n lt k)
  | 0 => by
    intro t h0 h1 q
    have q : t = -9 := q
    omega
  | k + 1 => by
    have hu : RWA a n fa 4 (unitS a n lt (pS a n lt k) (1 ≤ k)) := W_unit hF (fun _ => W_pS hF k)
    have ht : RWA a n fa 3 (termS a n (unitS a n lt (pS a n lt k) (1 ≤ k))) := fun t h0 h1 => W_termL hu 60 _ t h0 ((hu t h0 h1).mono (by decide))
    exact fun t h0 h1 => W_sumL ht 60 _ t h0 ((ht t h0 h1).mono (by decide))
/-- a sound text comes to the same -/
theorem w_all {lt : Int → Int} (hn : 0 ≤ n ∧ n ≤ 60) (hF : ∀ b, isLet b → lt b = fa b) (hg : fauS n (pS a n lt 6 0) = -9) : wM a n fa 200 0 [] [] = some (pS a n lt 6 0).1 := by
  have h := W_pS (n := n) (a := a) hF 6 0 (Int.le_refl _) hn.1
  generalize pS a n lt 6 0 = r at *
  unfold fauS at hg
  by_cases e : r.2.2 = -9
  · obtain ⟨r1, r2, r3⟩ := h e
    by_cases e2 : r.2.1 < n
    · rw [if_pos ⟨e, e2⟩] at hg
      omega
    · obtain ⟨g, pw, pv, g1, g2, g3⟩ := r3 (by unfold nxS; rw [if_neg e2]; decide)
      obtain ⟨m, hm⟩ : ∃ m, 200 - g = m + 1 := ⟨199 - g, by omega⟩
      have en : n ≤ r.2.1 := Int.not_lt.mp e2
      rw [show 200 = (200 - g) + g by omega, g2 _ [] [] (show TR 2 [] from trivial), hm, wM_end en, g3 1 [] [] (by decide) (show TR 2 [] from trivial)]
      rfl
  · rw [if_neg (fun q => e q.1)] at hg
    exact absurd hg e
end
