/-! texts: the bytes of a feed -/
theorem bv_m (b : BitVec 64) (n : Nat) (hn : n ≤ 56) : ((b.sshiftRight n &&& 255#64).signExtend 32).toInt = ((b.extractLsb' n 8).toNat : Int) := by
  have m : ∀ i : Nat, i < 32 → (255#64).getLsbD i = decide (i < 8) := by decide
  have e1 : (b.sshiftRight n &&& 255#64).signExtend 32 = (b.extractLsb' n 8).setWidth 32 := by
    apply BitVec.eq_of_getLsbD_eq
    intro i hi
    have q := m i hi
    rw [BitVec.getLsbD_signExtend, BitVec.getLsbD_and, BitVec.getLsbD_sshiftRight, BitVec.getLsbD_setWidth, BitVec.getLsbD_extractLsb', q]
    by_cases h8 : i < 8
    · have : i < 64 := by omega
      have h2 : n + i < 64 := by omega
      have h3 : ¬ 64 ≤ i := by omega
      simp [h8, hi, this, h2, h3]
    · have : i < 64 := by omega
      simp [h8, hi, this]
  rw [e1, BitVec.toInt_eq_toNat_cond, BitVec.toNat_setWidth]
  have := (b.extractLsb' n 8).isLt
  omega
theorem bv_x (b : BitVec 64) (n : Nat) (hn : n ≤ 56) : ((((b >>> n).signExtend 32).signExtend 8).signExtend 32).toInt = (b.extractLsb' n 8).toInt := by
  have e1 : ((b >>> n).signExtend 32).signExtend 8 = b.extractLsb' n 8 := by
    apply BitVec.eq_of_getLsbD_eq
    intro i hi
    have h1 : i < 32 := by omega
    have h2 : i < 64 := by omega
    rw [BitVec.getLsbD_signExtend, BitVec.getLsbD_signExtend, BitVec.getLsbD_ushiftRight, BitVec.getLsbD_extractLsb']
    simp [hi, h1, h2]
  rw [e1, BitVec.toInt_signExtend_of_le (by decide)]
theorem i64_self' (v : Int64) : i64 v.toInt = v := Int64.ofInt_toInt v
theorem byt_m (x : Int) (s : Int) (n : Nat) (hn : n ≤ 56) (hs : (((i32 s).toInt64 &&& 63).toBitVec.smod 64).toNat = n) : jl2i (jandL (jshrL x s) 255) = (((i64 x).toBitVec.extractLsb' n 8).toNat : Int) := by
  unfold jl2i jandL jshrL
  rw [i64_self', i64_self', ← bv_m _ _ hn, ← hs]
  rfl
theorem byt_x (x : Int) (s : Int) (n : Nat) (hn : n ≤ 56) (hs : (((i32 s).toInt64.toUInt64 &&& Int64.toUInt64 63).toBitVec.umod 64).toNat = n) : ji2b (jl2i (jushrL x s)) = ((i64 x).toBitVec.extractLsb' n 8).toInt := by
  unfold ji2b jl2i jushrL
  rw [i64_self', i32_self, ← bv_x _ _ hn, ← hs]
  rfl
/-- the byte k of x -/
theorem byt (x : Int) (k : Nat) (hk : k < 8) : 0 ≤ jl2i (jandL (jshrL x (8 * k)) 255) ∧ jl2i (jandL (jshrL x (8 * k)) 255) ≤ 255 ∧ ji2b (jl2i (jushrL x (8 * k))) = sgn8 (jl2i (jandL (jshrL x (8 * k)) 255)) := by
  have hm : ∀ k : Nat, k < 8 → (((i32 (8 * (k : Int))).toInt64 &&& 63).toBitVec.smod 64).toNat = 8 * k := by decide +kernel
  have hx : ∀ k : Nat, k < 8 → (((i32 (8 * (k : Int))).toInt64.toUInt64 &&& Int64.toUInt64 63).toBitVec.umod 64).toNat = 8 * k := by decide +kernel
  rw [byt_m x (8 * (k : Int)) (8 * k) (by omega) (hm k hk), byt_x x (8 * (k : Int)) (8 * k) (by omega) (hx k hk), BitVec.toInt_eq_toNat_cond]
  have := ((i64 x).toBitVec.extractLsb' (8 * k) 8).isLt
  unfold sgn8
  split <;> split <;> omega
