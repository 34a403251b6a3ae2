/-! texts: the class reads a text that it copies -/
theorem Zaf_mk (y : ZI) (t e : Int) : Zup (Zup y 30 3 t) 30 4 e = Zaf y t e := by
  funext k i
  unfold Zup Zaf
  by_cases h : k = 30 ∧ i = 3
  · rw [if_neg (by omega), if_pos h, if_pos h]
  · by_cases h2 : k = 30 ∧ i = 4
    · rw [if_pos h2, if_neg h, if_pos h2]
    · rw [if_neg h2, if_neg h, if_neg h, if_neg h2]
/-- where the text stands -/
def Zrd (z : ZI) (k0 : Nat) (s len : Int) : ZI := Zup (Zcp z k0 32 s 0 len) 30 2 len
theorem Zrd_31 (z : ZI) (k0 : Nat) (s len : Int) : Zrd z k0 s len 31 = z 31 := rfl
theorem TX_rd {z : ZI} {k0 : Nat} {s len : Int} {a : Int → Int} (hl : 0 ≤ len ∧ len ≤ 60) (ha : ∀ t, 0 ≤ t → t < len → 0 ≤ a t ∧ a t ≤ 255 ∧ z k0 (s + t) = sgn8 (a t)) : TX (Zrd z k0 s len) a len := by
  refine ⟨Zup_s, hl.1, hl.2, fun t h1 h2 => ?_⟩
  have q := ha t h1 h2
  have e : (Zrd z k0 s len) 32 t = z k0 (s + t) := by
    unfold Zrd
    rw [Zup_k (by decide)]
    unfold Zcp
    rw [if_pos ⟨rfl, h1, by omega⟩, show t - 0 = t by omega]
  rw [e]
  exact q
theorem x_read {z : ZI} {k0 n0 : Nat} {s len : Int} {a : Int → Int} (hk : YcpOk z k0 n0 60 s 0 len) (hL : LT z) (hl : 0 ≤ len ∧ len ≤ 60) (ha : ∀ t, 0 ≤ t → t < len → 0 ≤ a t ∧ a t ≤ 255 ∧ z k0 (s + t) = sgn8 (a t)) :
    F_X6_read k0 n0 z s len = some ((pS a len (ltZ z) 6 0).1, Zaf (Zrd z k0 s len) (pS a len (ltZ z) 6 0).2.1 (fauS len (pS a len (ltZ z) 6 0))) := by
  have hT := TX_rd (z := z) (k0 := k0) (s := s) hl ha
  have hL2 : LT (Zrd z k0 s len) := hL
  have e : Zrs 6 (Zaf (Zrd z k0 s len) 0 (-9)) 0 = some ((pS a len (ltZ z) 6 0).1, Zaf (Zrd z k0 s len) (pS a len (ltZ z) 6 0).2.1 (pS a len (ltZ z) 6 0).2.2) := x_Zrs hT hL2 5 (Nat.le_refl _) 0 (Int.le_refl _) hl.1
  have hn : (Zaf (Zrd z k0 s len) (pS a len (ltZ z) 6 0).2.1 (pS a len (ltZ z) 6 0).2.2) 30 2 = len := Zup_s (z := Zcp z k0 32 s 0 len) (k := 30) (i := 2) (v := len)
  unfold F_X6_read X6_read_b60
  rw [Zgd_t hk, Zl_eq, Zl_eq, Zl_eq, Zl_eq, Zaf_mk]
  show Yb (Zrs 6 (Zaf (Zrd z k0 s len) 0 (-9)) 0) _ = _
  rw [e, Yb_some, x_sound, Yb_some, hn, show (Zaf (Zrd z k0 s len) (pS a len (ltZ z) 6 0).2.1 (pS a len (ltZ z) 6 0).2.2) 30 3 = (pS a len (ltZ z) 6 0).2.1 from rfl]
  unfold fauS
  by_cases h : (pS a len (ltZ z) 6 0).2.2 = -9
  · rw [bi_t h, if_neg (by decide)]
    by_cases h2 : len ≤ (pS a len (ltZ z) 6 0).2.1
    · rw [if_pos h2, if_neg (by omega)]
    · rw [if_neg h2, if_pos ⟨h, by omega⟩, Zl_eq, Zaf_4]
  · rw [bi_f h, if_pos rfl, if_neg (fun q => h q.1)]
theorem fauS_ok {n : Int} {r : Int × Int × Int} (h : okT n 0 r) : fauS n r = -9 ∨ (0 ≤ fauS n r ∧ fauS n r ≤ n) := by
  obtain ⟨-, h1, h2, h3⟩ := h
  unfold fauS
  split <;> omega
