/-! texts: the class' reader, in words of the bytes -/
def Zaf (z : ZI) (t e : Int) : ZI := fun k i => if k = 30 ∧ i = 3 then t else if k = 30 ∧ i = 4 then e else z k i
theorem Zaf_3 (z : ZI) (t e t' : Int) : Zup (Zaf z t e) 30 3 t' = Zaf z t' e := by
  funext k i
  unfold Zup Zaf
  by_cases h : k = 30 ∧ i = 3
  · rw [if_pos h, if_pos h]
  · rw [if_neg h, if_neg h, if_neg h]
theorem Zaf_4 (z : ZI) (t e e' : Int) : Zup (Zaf z t e) 30 4 e' = Zaf z t e' := by
  funext k i
  unfold Zup Zaf
  by_cases h : k = 30 ∧ i = 3
  · rw [if_neg (by omega), if_pos h, if_pos h]
  · by_cases h2 : k = 30 ∧ i = 4
    · rw [if_pos h2, if_neg h, if_pos h2]
    · rw [if_neg h2, if_neg h, if_neg h2, if_neg h, if_neg h2]
theorem Zaf_z (z : ZI) : Zaf z (z 30 3) (z 30 4) = z := by
  funext k i
  unfold Zaf
  by_cases h : k = 30 ∧ i = 3
  · rw [if_pos h, h.1, h.2]
  · by_cases h2 : k = 30 ∧ i = 4
    · rw [if_neg h, if_pos h2, h2.1, h2.2]
    · rw [if_neg h, if_neg h2]
def nxS (a : Int → Int) (n t : Int) : Int := if t < n then a t else 0
def hldS (v : Int) : Int := max (-1000000000) (min 1000000000 v)
def dvdS (x y : Int) : Int := if y = 0 then 0 else x.tdiv y
def cmpS (s x y : Int) : Int := if s = 60 then (if x < y then 1 else 0) else if s = 61 then (if x = y then 1 else 0) else (if y < x then 1 else 0)
def numR (a : Int → Int) (n : Int) : Nat → Int → Int → Int × Int
  | 0, t, v => (v, t)
  | k + 1, t, v => if isDig (nxS a n t) then numR a n k (t + 1) (10 * v + nxS a n t - 48) else (v, t)
def closeS (a : Int → Int) (n v t : Int) : Int × Int × Int := if nxS a n t = 41 then (v, t + 1, -9) else (0, t, t)
def bktS (a : Int → Int) (n : Int) (S : Int → Int × Int × Int) (t : Int) : Int × Int × Int :=
  if (S (t + 1)).2.2 ≠ -9 then (0, (S (t + 1)).2)
  else if isCmp (nxS a n (S (t + 1)).2.1) then
    (if (S ((S (t + 1)).2.1 + 1)).2.2 ≠ -9 then (0, (S ((S (t + 1)).2.1 + 1)).2)
    else closeS a n (cmpS (nxS a n (S (t + 1)).2.1) (S (t + 1)).1 (S ((S (t + 1)).2.1 + 1)).1) (S ((S (t + 1)).2.1 + 1)).2.1)
  else closeS a n (S (t + 1)).1 (S (t + 1)).2.1
def unitS (a : Int → Int) (n : Int) (lt : Int → Int) (S : Int → Int × Int × Int) (ok : Prop) [Decidable ok] (t : Int) : Int × Int × Int :=
  if nxS a n t = 40 then (if ok then bktS a n S t else (0, t, t))
  else if isDig (nxS a n t) then ((numR a n 4 t 0).1, (numR a n 4 t 0).2, -9)
  else if isLet (nxS a n t) then (lt (nxS a n t), t + 1, -9)
  else (0, t, t)
def termL (a : Int → Int) (n : Int) (U : Int → Int × Int × Int) : Nat → Int × Int × Int → Int × Int × Int
  | 0, r => r
  | k + 1, r => if r.2.2 ≠ -9 then r else if nxS a n r.2.1 = 42 ∨ nxS a n r.2.1 = 47 then termL a n U k (hldS (if nxS a n r.2.1 = 42 then r.1 * (U (r.2.1 + 1)).1 else dvdS r.1 (U (r.2.1 + 1)).1), (U (r.2.1 + 1)).2) else r
def termS (a : Int → Int) (n : Int) (U : Int → Int × Int × Int) (t : Int) : Int × Int × Int := termL a n U 60 (U t)
def sumL (a : Int → Int) (n : Int) (Tm : Int → Int × Int × Int) : Nat → Int × Int × Int → Int × Int × Int
  | 0, r => r
  | k + 1, r => if r.2.2 ≠ -9 then r else if nxS a n r.2.1 = 43 ∨ nxS a n r.2.1 = 45 then sumL a n Tm k (hldS (if nxS a n r.2.1 = 43 then r.1 + (Tm (r.2.1 + 1)).1 else r.1 - (Tm (r.2.1 + 1)).1), (Tm (r.2.1 + 1)).2) else r
def sumS (a : Int → Int) (n : Int) (Tm : Int → Int × Int × Int) (t : Int) : Int × Int × Int := sumL a n Tm 60 (Tm t)
/-- a sum with so many levels of brackets (k of them) -/
def pS (a : Int → Int) (n : Int) (lt : Int → Int) : Nat → Int → Int × Int × Int
  | 0, t => (0, t, t)
  | k + 1, t => sumS a n (termS a n (unitS a n lt (pS a n lt k) (1 ≤ k))) t
/-- an outcome that can be: read so far, ahead of the end -/
def okT (n t : Int) (r : Int × Int × Int) : Prop := InR r.1 ∧ t ≤ r.2.1 ∧ r.2.1 ≤ n ∧ (r.2.2 = -9 ∨ (0 ≤ r.2.2 ∧ r.2.2 ≤ n))
theorem jand_sgn8 {b : Int} (h : 0 ≤ b ∧ b ≤ 255) : jand (sgn8 b) 255 = b := by
  have key : ∀ b : Fin 256, jand (sgn8 (b.val : Int)) 255 = (b.val : Int) := by decide +kernel
  have := key ⟨b.toNat, by omega⟩
  rwa [show ((b.toNat : Nat) : Int) = b by omega] at this
/-- the text stands in the reader -/
def TX (z : ZI) (a : Int → Int) (n : Int) : Prop := z 30 2 = n ∧ 0 ≤ n ∧ n ≤ 60 ∧ ∀ t, 0 ≤ t → t < n → 0 ≤ a t ∧ a t ≤ 255 ∧ z 32 t = sgn8 (a t)
theorem nxS_r {z : ZI} {a : Int → Int} {n : Int} (hT : TX z a n) {t : Int} (h0 : 0 ≤ t) : 0 ≤ nxS a n t ∧ nxS a n t ≤ 255 := by
  unfold nxS
  split
  · have := hT.2.2.2 t h0 (by assumption); omega
  · omega
theorem nxS_lt {a : Int → Int} {n t : Int} (h : nxS a n t ≠ 0) : t < n := by
  unfold nxS at h
  apply Classical.byContradiction
  intro q
  rw [if_neg q] at h
  exact h rfl
theorem x_next {z : ZI} {a : Int → Int} {n t e : Int} (hT : TX z a n) (ht : 0 ≤ t ∧ t ≤ n) : F_X6_next (Zaf z t e) = some (nxS a n t, Zaf z t e) := by
  obtain ⟨h1, h2, h3, h4⟩ := hT
  have e1 : (Zaf z t e) 30 2 = n := h1
  have e2 : (Zaf z t e) 30 3 = t := rfl
  have e3 : (Zaf z t e) 32 = z 32 := rfl
  unfold F_X6_next X6_next_b28 nxS
  rw [e1, e2, e3]
  by_cases h : n ≤ t
  · rw [if_pos h, if_neg (by omega)]
  · have q := h4 t ht.1 (by omega)
    rw [if_neg h, Zgd_t (by omega), if_pos (by omega), q.2.2, jand_sgn8 ⟨q.1, q.2.1⟩]
theorem x_sound {z : ZI} {t e : Int} : F_X6_sound (Zaf z t e) = some (bi (e = -9), Zaf z t e) := by
  have e1 : (Zaf z t e) 30 4 = e := rfl
  unfold F_X6_sound X6_sound_b14
  rw [e1]
  grind [Zgd_i, bi]
theorem x_fail {z : ZI} {t e : Int} : F_X6_failHere (Zaf z t e) = some (0, Zaf z t t) := by
  unfold F_X6_failHere
  rw [Zl_eq, show (Zaf z t e) 30 3 = t from rfl, Zaf_4]
theorem jl2i_id {x : Int} (h : InR x) : jl2i x = x := by
  unfold jl2i
  have : (i64 x).toInt32 = i32 x := by
    rw [← i32_l h, Int32.toInt32_toInt64]
  rw [this]
  exact i32_toInt h
theorem hldS_r (v : Int) : -1000000000 ≤ hldS v ∧ hldS v ≤ 1000000000 := by
  unfold hldS
  omega
theorem x_held {z : ZI} {v : Int} : F_X6_held z v = some (hldS v, z) := by
  unfold F_X6_held
  rw [jl2i_id (by omega)]
  rfl
theorem x_dig (z : ZI) (x : Int) : F_X6_isDigit z x = some (bi (isDig x), z) := by
  unfold F_X6_isDigit X6_isDigit_b16 X6_isDigit_b17
  grind [Zgd_i, bi]
theorem x_cmp {z : ZI} {s x y : Int} (hs : isCmp s) : F_X6_compared z s x y = some (cmpS s x y, z) := by
  unfold F_X6_compared X6_compared_b48 X6_compared_b58 cmpS
  grind
theorem x_div {z : ZI} {x y : Int} (hx : InR x) (hy : InR y) : F_X6_divided z x y = some (dvdS x y, z) := by
  have h1 := Int.natAbs_tdiv_le_natAbs x y
  have h2 : InL (x.tdiv y) := by omega
  unfold F_X6_divided X6_divided_b13 dvdS jcmp
  grind [Zgd_i]
theorem numR_r {z : ZI} {a : Int → Int} {n : Int} (hT : TX z a n) : ∀ (k : Nat) (t v : Int), 0 ≤ t → t ≤ n → t ≤ (numR a n k t v).2 ∧ (numR a n k t v).2 ≤ n
  | 0, t, v, h0, h1 => ⟨Int.le_refl _, h1⟩
  | k + 1, t, v, h0, h1 => by
    have u : numR a n (k + 1) t v = if isDig (nxS a n t) then numR a n k (t + 1) (10 * v + nxS a n t - 48) else (v, t) := rfl
    rw [u]
    by_cases h : isDig (nxS a n t)
    · rw [if_pos h]
      have hl : t < n := nxS_lt (a := a) (by omega)
      have := numR_r hT k (t + 1) (10 * v + nxS a n t - 48) (by omega) (by omega)
      omega
    · rw [if_neg h]
      exact ⟨Int.le_refl _, h1⟩
theorem numR_v (a : Int → Int) (n : Int) : ∀ (k : Nat) (t v M : Int), 0 ≤ v → v ≤ M → 0 ≤ M → k ≤ 4 → 0 ≤ (numR a n k t v).1 ∧ (numR a n k t v).1 ≤ (10000 * M + 9999)
  | 0, t, v, M, h0, h1, h2, _ => by
    show 0 ≤ v ∧ v ≤ _
    omega
  | 1, t, v, M, h0, h1, h2, _ => by
    simp only [numR]
    split
    · show 0 ≤ 10 * v + nxS a n t - 48 ∧ 10 * v + nxS a n t - 48 ≤ _
      omega
    · show 0 ≤ v ∧ v ≤ _
      omega
  | 2, t, v, M, h0, h1, h2, _ => by
    simp only [numR]
    repeat' split
    all_goals (dsimp only; omega)
  | 3, t, v, M, h0, h1, h2, _ => by
    simp only [numR]
    repeat' split
    all_goals (dsimp only; omega)
  | 4, t, v, M, h0, h1, h2, _ => by
    simp only [numR]
    repeat' split
    all_goals (dsimp only; omega)
  | k + 5, t, v, M, h0, h1, h2, h3 => by omega
theorem x_num_L {z : ZI} {a : Int → Int} {n e : Int} (hT : TX z a n) : ∀ (m k f : Nat) (t v : Int), k + m = 4 → m < f → 0 ≤ t → t ≤ n → 0 ≤ v → v ≤ 9999 → (k = 0 → v = 0) → (k = 1 → v ≤ 9) → (k = 2 → v ≤ 99) → (k = 3 → v ≤ 999) → X6_readNumber_L4 f (Zaf z t e) v k = some ((numR a n m t v).1, Zaf z (numR a n m t v).2 e) := by
  intro m
  induction m with
  | zero =>
    intro k f t v hk hf h0 h1 h2 h3 _ _ _ _
    obtain ⟨f, rfl⟩ : ∃ g, f = g + 1 := ⟨f - 1, by omega⟩
    show X6_readNumber_L4b (X6_readNumber_L4 f) _ v k = _
    unfold X6_readNumber_L4b X6_readNumber_b48
    rw [if_pos (by omega)]
    rfl
  | succ m ih =>
    intro k f t v hk hf h0 h1 h2 h3 g0 g1 g2 g3
    obtain ⟨f, rfl⟩ : ∃ g, f = g + 1 := ⟨f - 1, by omega⟩
    have hn := x_next (e := e) hT ⟨h0, h1⟩
    have u : numR a n (m + 1) t v = if isDig (nxS a n t) then numR a n m (t + 1) (10 * v + nxS a n t - 48) else (v, t) := rfl
    show X6_readNumber_L4b (X6_readNumber_L4 f) _ v k = _
    unfold X6_readNumber_L4b X6_readNumber_b48
    rw [if_neg (by omega), hn, Yb_some, x_dig, Yb_some, u]
    by_cases h : isDig (nxS a n t)
    · have hl : t < n := nxS_lt (a := a) (by omega)
      have n60 := hT.2.2.1
      have i := ih (k + 1) f (t + 1) (10 * v + nxS a n t - 48) (by omega) (by omega) (by omega) (by omega) (by omega) (by omega) (by omega) (by omega) (by omega) (by omega)
      rw [if_pos h, bi_t h, if_neg (by decide), Zgd_t (by omega), hn, Yb_some, Zgd_t (by omega), Zgd_t (by omega), show (Zaf z t e) 30 3 = t from rfl, Zgd_t (by omega), Zl_eq, Zaf_3, Zgd_t (by omega)]
      exact i
    · rw [if_neg h, bi_f h, if_pos rfl]
theorem x_num {z : ZI} {a : Int → Int} {n t e : Int} (hT : TX z a n) (ht : 0 ≤ t ∧ t ≤ n) : F_X6_readNumber (Zaf z t e) = some ((numR a n 4 t 0).1, Zaf z (numR a n 4 t 0).2 e) :=
  x_num_L hT 4 0 Zfuel t 0 rfl (by unfold Zfuel; omega) ht.1 ht.2 (by decide) (by decide) (fun _ => rfl) (by omega) (by omega) (by omega)
theorem mul_InL {x y : Int} (hx : InR x) (hy : InR y) : InL (x * y) := by
  have h1 : (x * y).natAbs = x.natAbs * y.natAbs := Int.natAbs_mul x y
  have h2 : x.natAbs * y.natAbs ≤ 2147483648 * 2147483648 := Nat.mul_le_mul (by omega) (by omega)
  omega
