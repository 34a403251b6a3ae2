/-! the start keeps the invariant -/
theorem zS_14 {c : Int} (a : 0 ≤ c) (b : c < 144) : zS 14 c = -9 := by simp [zS, zS1, Zfi, Zup, a, b]
theorem zS_5 {c : Int} (a : 0 ≤ c) (b : c < 144) : zS 5 c = -9 := by simp [zS, zS1, Zfi, Zup, a, b]
theorem zS_3 {c : Int} (a : 0 ≤ c) (b : c < 144) : zS 3 c = 50 := by simp [zS, zS1, Zfi, Zup, a, b]
theorem zS_70 {c : Int} (a : 0 ≤ c) (b : c < 144) : zS 70 c = 50 := by simp [zS, zS1, Zfi, Zup, a, b]
theorem zS_55 {c : Int} (a : 0 ≤ c) (b : c < 30) : zS 55 c = -9 := by simp [zS, zS1, Zfi, Zup, a, b]
theorem zS_45 {c : Int} (a : 0 ≤ c) (b : c < 4) : zS 45 c = 6 := by simp [zS, zS1, Zfi, Zup, a, b]
theorem zS_98 {c : Int} (a : 0 ≤ c) (b : c < 4) : zS 98 c = 6 := by simp [zS, zS1, Zfi, Zup, a, b]
theorem zS_0 {k : Nat} {j : Int} (h1 : k ≠ 14) (h2 : k ≠ 5) (h3 : k ≠ 3) (h4 : k ≠ 70) (h5 : k ≠ 55) (h6 : k ≠ 45) (h7 : k ≠ 98) (h8 : k ≠ 30) : zS k j = 0 := by simp [zS, zS1, Zfi, Zup, h1, h2, h3, h4, h5, h6, h7, h8]
theorem N_zS : JN 0 zS := by
  intro i a b
  have e1 : zS 1 i = 0 := zS_0 (by decide) (by decide) (by decide) (by decide) (by decide) (by decide) (by decide) (by decide)
  have e2 : zS 69 i = 0 := zS_0 (by decide) (by decide) (by decide) (by decide) (by decide) (by decide) (by decide) (by decide)
  rw [e1, e2]
  exact ⟨rfl, Int.le_refl _, Int.le_refl _⟩
theorem Zok_zS : Zok zS := by
  have r0 : InR 0 := ⟨by decide, by decide⟩
  have l0 : InL 0 := ⟨by decide, by decide⟩
  have hz : Zok (fun _ _ => 0) := ⟨fun _ _ _ => r0, fun _ _ => l0⟩
  have fi : ∀ {z : ZI} {k : Nat} {i v : Int}, Zok z → InR v → Zok (Zfi z k i v) := fun {z k i v} h hv => by
    refine ⟨fun k' j hk => ?_, fun k' j => ?_⟩
    · unfold Zfi
      split
      · exact hv
      · exact h.1 k' j hk
    · unfold Zfi
      split
      · exact InR_L hv
      · exact h.2 k' j
  exact fi (fi (fi (fi (Zok_up (fi (fi (fi (Zok_up hz ⟨by decide, by decide⟩) ⟨by decide, by decide⟩) ⟨by decide, by decide⟩) ⟨by decide, by decide⟩) ⟨by decide, by decide⟩) ⟨by decide, by decide⟩) ⟨by decide, by decide⟩) ⟨by decide, by decide⟩) ⟨by decide, by decide⟩
theorem JD_zS : JD zS := ⟨rfl, by decide, by decide⟩
theorem JH_zS : JH zS := ⟨by decide, by decide, rfl, fun h a b => absurd (Int.lt_of_le_of_lt a b) (by decide), fun h g a b _ _ _ => absurd (Int.lt_of_le_of_lt a b) (by decide), fun c a b => zS_14 a b⟩
theorem JP_zS : JP zS := ⟨by decide, by decide, rfl, fun k a b => absurd (Int.lt_of_le_of_lt a b) (by decide)⟩
theorem JS_zS : JS zS := ⟨by decide, by decide, rfl, fun k a b => absurd (Int.lt_of_le_of_lt a b) (by decide), fun k a b => absurd (Int.lt_of_le_of_lt a b) (by decide), fun k b => absurd (Int.lt_of_le_of_lt (Int.natCast_nonneg k) b) (by decide), fun k l a q b => absurd (Int.lt_of_le_of_lt a (Int.lt_trans q b)) (by decide)⟩
theorem JL_zS : JL zS := fun c a b => by rw [show zS 3 c = 50 from zS_3 a b, show zS 70 c = 50 from zS_70 a b]; exact ⟨rfl, by decide, by decide⟩
theorem JT_zS : JT zS := ⟨rfl, by decide, by decide, fun k a b => absurd (Int.lt_of_le_of_lt a b) (by decide), fun c _ _ => by
    have e : zS 4 c = 0 := zS_0 (by decide) (by decide) (by decide) (by decide) (by decide) (by decide) (by decide) (by decide)
    rw [e]
    refine ⟨Int.le_refl _, fun w => ⟨fun h => absurd h.1 (by decide), fun h => ?_⟩⟩
    obtain ⟨k, a, b, _⟩ := h
    exact absurd (Int.lt_of_le_of_lt a b) (by decide)⟩
theorem JE_zS : JE zS := ⟨rfl, by decide, by decide, fun k a b => absurd (Int.lt_of_le_of_lt a b) (by decide), fun k l a b _ _ _ => absurd (Int.lt_of_le_of_lt a b) (by decide), fun c a b => zS_5 a b⟩
theorem JV_zS : JV zS := Or.inl rfl
theorem JA_zS : JA zS := ⟨rfl, by decide, by decide, fun k a b => absurd (Int.lt_of_le_of_lt a b) (by decide)⟩
theorem JU_zS : JU zS := ⟨rfl, by decide, by decide, fun k a b => absurd (Int.lt_of_le_of_lt a b) (by decide)⟩
theorem JC_zS : JC zS := ⟨rfl, by decide, by decide, fun k a b => absurd (Int.lt_of_le_of_lt a b) (by decide)⟩
theorem JK_zS : JK zS := ⟨rfl, by decide, by decide, fun k a b => absurd (Int.lt_of_le_of_lt a b) (by decide), fun k l a q b => absurd (Int.lt_of_le_of_lt a (Int.lt_trans q b)) (by decide)⟩
theorem JW_zS : JW zS := ⟨rfl, by decide, by decide, fun k a b => absurd (Int.lt_of_le_of_lt a b) (by decide), fun c a b => by rw [show zS 45 c = 6 from zS_45 a (by omega), show zS 98 c = 6 from zS_98 a (by omega)]; exact ⟨rfl, by decide, by decide⟩⟩
theorem JB_zS : JB zS := ⟨Or.inl ⟨rfl, rfl⟩, Or.inl rfl⟩
theorem JG_zS : JG zS := Or.inl rfl
theorem JX_zS : JX zS := ⟨rfl, by decide, by decide, fun k a b => absurd (Int.lt_of_le_of_lt a b) (by decide), fun k l a b _ _ _ => absurd (Int.lt_of_le_of_lt a b) (by decide), fun h a b => zS_55 a b⟩
theorem JQ_zS : JQ zS := ⟨rfl, by decide, by decide, fun k a b => absurd (Int.lt_of_le_of_lt a b) (by decide), fun k l a b _ _ _ => absurd (Int.lt_of_le_of_lt a b) (by decide)⟩
theorem JO_zS : JO zS := ⟨rfl, by decide, by decide, fun k a b => absurd (Int.lt_of_le_of_lt a b) (by decide)⟩
theorem K_zS : K zS := ⟨JD_zS, JH_zS, JP_zS, JS_zS, JL_zS, JT_zS, JE_zS, JV_zS, JA_zS, JU_zS, JC_zS, JK_zS, JW_zS, JB_zS, JG_zS, JX_zS, JQ_zS, JO_zS⟩
