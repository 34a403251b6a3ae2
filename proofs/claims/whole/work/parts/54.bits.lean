/-! the least sets -/
def bmR (s : Int) : Nat → Int
  | 0 => 0
  | k + 1 => bmR s k + bitT s k
def bc1 (x : Int) : Int := x - jand (jushr x 1) 1431655765
def bc2 (y : Int) : Int := jand y 858993459 + jand (jushr y 2) 858993459
def bc3 (y : Int) : Int := y + jushr y 4
def bc4 (y : Int) : Int := jand y 252645135 + jushr (jand y 252645135) 8
def bc5 (y : Int) : Int := y + jushr y 16
theorem bc_all : ∀ s : Fin 1024, InR (bc1 (s.val : Int)) ∧ InR (bc2 (bc1 (s.val : Int))) ∧ InR (bc3 (bc2 (bc1 (s.val : Int)))) ∧ InR (bc4 (bc3 (bc2 (bc1 (s.val : Int))))) ∧ InR (bc5 (bc4 (bc3 (bc2 (bc1 (s.val : Int)))))) ∧ jand (bc5 (bc4 (bc3 (bc2 (bc1 (s.val : Int)))))) 63 = bmR (s.val : Int) 31 ∧ 0 ≤ bmR (s.val : Int) 31 := by decide +kernel
theorem x_bits {z : ZI} {s : Int} (h : 0 ≤ s ∧ s < 1024) : F_J6_bitCount_0f7a4 z s = some (bmR s 31, z) := by
  obtain ⟨k1, k2, k3, k4, k5, k6, -⟩ := bc_all ⟨s.toNat, by omega⟩
  have e : ((s.toNat : Nat) : Int) = s := by omega
  dsimp only at k1 k2 k3 k4 k5 k6
  rw [e] at k1 k2 k3 k4 k5 k6
  have u : F_J6_bitCount_0f7a4 z s = Zgd (InR (bc1 s)) (Zgd (InR (bc2 (bc1 s))) (Zgd (InR (bc3 (bc2 (bc1 s)))) (Zgd (InR (bc4 (bc3 (bc2 (bc1 s))))) (Zgd (InR (bc5 (bc4 (bc3 (bc2 (bc1 s)))))) (some (jand (bc5 (bc4 (bc3 (bc2 (bc1 s))))) 63, z)))))) := rfl
  rw [u, Zgd_t k1, Zgd_t k2, Zgd_t k3, Zgd_t k4, Zgd_t k5, k6]
theorem bit_01 {s : Int} {k : Nat} (h : 0 ≤ s ∧ s < 1024) (hk : k < 31) : 0 ≤ bitT s k ∧ bitT s k ≤ 1 := by
  have key : ∀ s : Fin 1024, ∀ k : Fin 31, 0 ≤ bitT (s.val : Int) (k.val : Int) ∧ bitT (s.val : Int) (k.val : Int) ≤ 1 := by decide +kernel
  have := key ⟨s.toNat, by omega⟩ ⟨k, hk⟩
  rwa [show ((s.toNat : Nat) : Int) = s by omega] at this
theorem bmR_b {s : Int} (h : 0 ≤ s ∧ s < 1024) : ∀ k : Nat, k ≤ 31 → 0 ≤ bmR s k ∧ bmR s k ≤ k
  | 0, _ => ⟨Int.le_refl _, Int.le_refl _⟩
  | k + 1, hk => by
    have i := bmR_b h k (by omega)
    have b := bit_01 (k := k) h (by omega)
    have u : bmR s (k + 1) = bmR s k + bitT s k := rfl
    omega
theorem m_bits {z : ZI} {s : Int} (h : 0 ≤ s ∧ s < 1024) : F_X11_bits z s = some (bmR s 31, z) := by
  have l : ∀ (n k fu : Nat), k + n = 31 → n < fu → X11_bits_L4 fu z s (bmR s k) k = some (bmR s 31, z) := by
    intro n
    induction n with
    | zero =>
      intro k fu hk hf
      obtain ⟨fu, rfl⟩ : ∃ g, fu = g + 1 := ⟨fu - 1, by omega⟩
      obtain rfl : k = 31 := by omega
      show X11_bits_L4b (X11_bits_L4 fu) _ _ _ _ = _
      unfold X11_bits_L4b
      rw [if_pos (by decide)]
    | succ n ih =>
      intro k fu hk hf
      obtain ⟨fu, rfl⟩ : ∃ g, fu = g + 1 := ⟨fu - 1, by omega⟩
      have b := bit_01 (k := k) h (by omega)
      have c := bmR_b h k (by omega)
      have e : jand (jshr s k) 1 = bitT s k := rfl
      have i := ih (k + 1) fu (by omega) (by omega)
      show X11_bits_L4b (X11_bits_L4 fu) _ _ _ _ = _
      unfold X11_bits_L4b
      rw [if_neg (by omega), e, Zgd_t (by omega), Zgd_t (by omega), show (k : Int) + 1 = ((k + 1 : Nat) : Int) by omega]
      exact i
  exact l 31 0 Zfuel (by decide) (by unfold Zfuel; omega)
theorem bm_all {n : Int} (h : 0 ≤ n ∧ n ≤ 10) : bmR (jshl 1 n - 1) 31 = n := by
  have key : ∀ n : Fin 11, bmR (jshl 1 (n.val : Int) - 1) 31 = (n.val : Int) := by decide +kernel
  have := key ⟨n.toNat, by omega⟩
  rwa [show ((n.toNat : Nat) : Int) = n by omega] at this
theorem bit_all {n k : Int} (h : 0 ≤ n ∧ n ≤ 10) (hk : 0 ≤ k ∧ k < n) : bitT (jshl 1 n - 1) k = 1 := by
  have key : ∀ n : Fin 11, ∀ k : Fin 10, k.val < n.val → bitT (jshl 1 (n.val : Int) - 1) (k.val : Int) = 1 := by decide +kernel
  have := key ⟨n.toNat, by omega⟩ ⟨k.toNat, by omega⟩ (by show k.toNat < n.toNat; omega)
  rwa [show ((n.toNat : Nat) : Int) = n by omega, show ((k.toNat : Nat) : Int) = k by omega] at this
