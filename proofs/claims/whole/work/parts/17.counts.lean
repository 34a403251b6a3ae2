/-! counts of nights -/
def ctR (cb cd ca ct : Int → Int) (b d k : Int) : Nat → Int
  | 0 => -9
  | n + 1 => if cb n = b ∧ cd n ≤ d ∧ ct n ≤ k ∧ 0 ≤ ca n ∧ (ctR cb cd ca ct b d k n < 0 ∨ cd (ctR cb cd ca ct b d k n) ≤ cd n) then n else ctR cb cd ca ct b d k n
theorem ctR_s (cb cd ca ct : Int → Int) (b d k : Int) (n : Nat) : ctR cb cd ca ct b d k (n + 1) = if cb n = b ∧ cd n ≤ d ∧ ct n ≤ k ∧ 0 ≤ ca n ∧ (ctR cb cd ca ct b d k n < 0 ∨ cd (ctR cb cd ca ct b d k n) ≤ cd n) then (n : Int) else ctR cb cd ca ct b d k n := rfl
theorem ctR_b (cb cd ca ct : Int → Int) (b d k : Int) : ∀ n : Nat, ctR cb cd ca ct b d k n = -9 ∨ (0 ≤ ctR cb cd ca ct b d k n ∧ ctR cb cd ca ct b d k n < n ∧ 0 ≤ ca (ctR cb cd ca ct b d k n))
  | 0 => Or.inl rfl
  | n + 1 => by
    have := ctR_b cb cd ca ct b d k n
    rw [ctR_s]
    grind
def ctF (z : ZI) (b d k : Int) : Int := ctR (z 125) (z 126) (z 127) (z 128) b d k (z 68 79).toNat
def ctV (z : ZI) (b d k : Int) : Int := if ctF z b d k < 0 then -9 else z 127 (ctF z b d k)
theorem x_known_L {z : ZI} {b d q : Int} (hO : JO z) (h4 : 0 ≤ z 68 79 ∧ z 68 79 ≤ 40) (h5 : z 63 0 = z 68 79) : ∀ (n k f : Nat), k + n = (z 68 79).toNat → n < f → X1_known_L7 f z b d q (ctR (z 125) (z 126) (z 127) (z 128) b d q k) (k : Int) = X1_known_b106 z (ctF z b d q) := by
  intro n
  induction n with
  | zero =>
    intro k f hk hf
    obtain ⟨f, rfl⟩ : ∃ g, f = g + 1 := ⟨f - 1, by omega⟩
    show X1_known_L7b (X1_known_L7 f) z b d q (ctR (z 125) (z 126) (z 127) (z 128) b d q k) (k : Int) = _
    unfold X1_known_L7b X1_known_b64 X1_known_b65 X1_known_b96 X1_known_b100
    have hb := ctR_b (z 125) (z 126) (z 127) (z 128) b d q k; have hs := ctR_s (z 125) (z 126) (z 127) (z 128) b d q k; have hq := hO.2.2.2 k; have hr := hO.2.2.2 (ctR (z 125) (z 126) (z 127) (z 128) b d q k); have hf : k = (z 68 79).toNat → ctF z b d q = ctR (z 125) (z 126) (z 127) (z 128) b d q k := (fun h => by rw [h]; rfl)
    grind [Zgd_i]
  | succ n ih =>
    intro k f hk hf
    obtain ⟨f, rfl⟩ : ∃ g, f = g + 1 := ⟨f - 1, by omega⟩
    have e := ih (k + 1) f (by omega) (by omega)
    clear ih
    show X1_known_L7b (X1_known_L7 f) z b d q (ctR (z 125) (z 126) (z 127) (z 128) b d q k) (k : Int) = _
    unfold X1_known_L7b X1_known_b64 X1_known_b65 X1_known_b96 X1_known_b100
    have hb := ctR_b (z 125) (z 126) (z 127) (z 128) b d q k; have hs := ctR_s (z 125) (z 126) (z 127) (z 128) b d q k; have hq := hO.2.2.2 k; have hr := hO.2.2.2 (ctR (z 125) (z 126) (z 127) (z 128) b d q k); have hf : k = (z 68 79).toNat → ctF z b d q = ctR (z 125) (z 126) (z 127) (z 128) b d q k := (fun h => by rw [h]; rfl)
    grind [Zgd_i]
theorem x_known {z : ZI} {b d q : Int} (hO : JO z) : F_X1_known z b d q = some (ctV z b d q, z) := by
  have e := x_known_L (b := b) (d := d) (q := q) hO ⟨hO.2.1, hO.2.2.1⟩ hO.1 (z 68 79).toNat 0 Zfuel (by omega) (by have := hO.2.2.1; unfold Zfuel; omega)
  have z0 : ∀ a a2 a3 a4 : Int → Int, ctR a a2 a3 a4 b d q 0 = -9 := fun _ _ _ _ => rfl
  rw [z0] at e
  have hb := ctR_b (z 125) (z 126) (z 127) (z 128) b d q (z 68 79).toNat
  have hr := hO.2.2.2 (ctF z b d q)
  have n1 := hO.2.1
  have n2 := hO.2.2.1
  unfold F_X1_known
  rw [show (0 : Int) = ((0 : Nat) : Int) from rfl, e]
  unfold X1_known_b106 X1_known_b125
  unfold ctV ctF at *
  grind [Zgd_i]
theorem m_countOf_L {z : ZI} {b d q : Int} (hO : JO z) (h4 : 0 ≤ z 68 79 ∧ z 68 79 ≤ 40) : ∀ (n k f : Nat), k + n = (z 68 79).toNat → n < f → X11_countOf_L7 f z b d q (ctR (z 125) (z 126) (z 127) (z 128) b d q k) (k : Int) = X11_countOf_b94 z (ctF z b d q) := by
  intro n
  induction n with
  | zero =>
    intro k f hk hf
    obtain ⟨f, rfl⟩ : ∃ g, f = g + 1 := ⟨f - 1, by omega⟩
    show X11_countOf_L7b (X11_countOf_L7 f) z b d q (ctR (z 125) (z 126) (z 127) (z 128) b d q k) (k : Int) = _
    unfold X11_countOf_L7b X11_countOf_b84 X11_countOf_b88
    have hb := ctR_b (z 125) (z 126) (z 127) (z 128) b d q k; have hs := ctR_s (z 125) (z 126) (z 127) (z 128) b d q k; have hq := hO.2.2.2 k; have hf : k = (z 68 79).toNat → ctF z b d q = ctR (z 125) (z 126) (z 127) (z 128) b d q k := (fun h => by rw [h]; rfl)
    grind [Zgd_i]
  | succ n ih =>
    intro k f hk hf
    obtain ⟨f, rfl⟩ : ∃ g, f = g + 1 := ⟨f - 1, by omega⟩
    have e := ih (k + 1) f (by omega) (by omega)
    clear ih
    show X11_countOf_L7b (X11_countOf_L7 f) z b d q (ctR (z 125) (z 126) (z 127) (z 128) b d q k) (k : Int) = _
    unfold X11_countOf_L7b X11_countOf_b84 X11_countOf_b88
    have hb := ctR_b (z 125) (z 126) (z 127) (z 128) b d q k; have hs := ctR_s (z 125) (z 126) (z 127) (z 128) b d q k; have hq := hO.2.2.2 k; have hf : k = (z 68 79).toNat → ctF z b d q = ctR (z 125) (z 126) (z 127) (z 128) b d q k := (fun h => by rw [h]; rfl)
    grind [Zgd_i]
theorem m_countOf {z : ZI} {b d q : Int} (hO : JO z) : F_X11_countOf z b d q = some (ctV z b d q, z) := by
  have e := m_countOf_L (b := b) (d := d) (q := q) hO ⟨hO.2.1, hO.2.2.1⟩ (z 68 79).toNat 0 Zfuel (by omega) (by have := hO.2.2.1; unfold Zfuel; omega)
  have z0 : ∀ a a2 a3 a4 : Int → Int, ctR a a2 a3 a4 b d q 0 = -9 := fun _ _ _ _ => rfl
  rw [z0] at e
  have hb := ctR_b (z 125) (z 126) (z 127) (z 128) b d q (z 68 79).toNat
  have n1 := hO.2.1
  have n2 := hO.2.2.1
  unfold F_X11_countOf
  rw [show (0 : Int) = ((0 : Nat) : Int) from rfl, e]
  unfold X11_countOf_b94 X11_countOf_b111
  unfold ctV ctF at *
  grind [Zgd_i]
theorem ctV_b {z : ZI} {b d q : Int} (hO : JO z) : ctV z b d q = -9 ∨ (0 ≤ ctV z b d q ∧ ctV z b d q ≤ 9999) := by
  have hb := ctR_b (z 125) (z 126) (z 127) (z 128) b d q (z 68 79).toNat
  have n1 := hO.2.1
  have hr := hO.2.2.2 (ctF z b d q)
  unfold ctV ctF at *
  split
  · exact Or.inl rfl
  · rcases hb with h | h
    · omega
    · have := hr h.1 (by omega); omega
set_option maxHeartbeats 1000000 in
theorem t_count {n : Int} {z : ZI} (hK : K z) (hN : JN n z) (hn : n ≤ 1000) (b d v : Int) : Both (F_X10_count z b d v) (fun z1 => F_X11_count z1 b d v) (fun z2 => K z2 ∧ JN (n + 1) z2) := by
  have hR := hN.R hn
  have hl := links hK
  have hK0 := hK
  obtain ⟨hD, hH, hP, hS, hL, hT, hE, hV, hA, hU, hC, hK, hW, hB, hG, hX, hQ, hO⟩ := hK
  by_cases c1 : ¬ (0 ≤ b ∧ b ≤ 3)
  · refine Both_ref hK0 hN (w := -1) hn (by omega) ?_ ?_
    · unfold F_X10_count X10_count_b56 X10_count_b22
      grind (gen := 20) [Yb_some, Zgd_i, Zl_eq, bi, e_refuse, e_isBlock, F_X1_note]
    · show F_X11_count (zR z (-1)) b d v = _
      unfold F_X11_count X11_count_b56 X11_count_b27 X11_count_b62
      grind (gen := 20) [Yb_some, Zgd_i, Zl_eq, bi, zR_d, zR_k, e_no, e_isIn]
  by_cases c2 : d < 0 ∨ v < -1
  · refine Both_ref hK0 hN (w := -4) hn (by omega) ?_ ?_
    · unfold F_X10_count X10_count_b56 X10_count_b22
      grind (gen := 20) [Yb_some, Zgd_i, Zl_eq, bi, e_refuse, e_isBlock, F_X1_note]
    · show F_X11_count (zR z (-4)) b d v = _
      unfold F_X11_count X11_count_b56 X11_count_b27 X11_count_b62
      grind (gen := 20) [Yb_some, Zgd_i, Zl_eq, bi, zR_d, zR_k, e_no, e_isIn]
  by_cases c3 : z 68 11 < d ∨ 9999 < v ∨ z 68 79 = 40
  · refine Both_ref hK0 hN (w := -6) hn (by omega) ?_ ?_
    · unfold F_X10_count X10_count_b56 X10_count_b22
      grind (gen := 20) [Yb_some, Zgd_i, Zl_eq, bi, e_refuse, e_isBlock, F_X1_note]
    · show F_X11_count (zR z (-6)) b d v = _
      unfold F_X11_count X11_count_b56 X11_count_b27 X11_count_b62
      grind (gen := 20) [Yb_some, Zgd_i, Zl_eq, bi, zR_d, zR_k, e_no, e_isIn]
  refine ⟨z 68 79 + 1, (Zup (Zup (Zup (Zup (Zup z 64 (z 68 79) b) 65 (z 68 79) d) 66 (z 68 79) v) 67 (z 68 79) (z 68 11)) 63 0 (z 68 79 + 1)), (Zup (Zup (Zup (Zup (Zup (Zup (Zup (Zup (Zup (Zup z 64 (z 68 79) b) 65 (z 68 79) d) 66 (z 68 79) v) 67 (z 68 79) (z 68 11)) 63 0 (z 68 79 + 1)) 125 (z 68 79) b) 126 (z 68 79) d) 127 (z 68 79) v) 128 (z 68 79) (z 68 11)) 68 79 (z 68 79 + 1)), ?_, ?_, ?_, JN_up hN rfl rfl⟩
  · unfold F_X10_count X10_count_b56 X10_count_b22
    grind (gen := 30) [Yb_some, Zgd_i, Zl_eq, bi, Zup_d, e_isBlock, F_X1_note]
  · show F_X11_count _ b d v = _
    unfold F_X11_count X11_count_b56 X11_count_b27 X11_count_b62
    grind (gen := 30) [Yb_some, Zgd_i, Zl_eq, bi, Zup_d, e_isIn]
  · exact ⟨(JD_c rfl rfl hD), (JH_c rfl rfl rfl rfl rfl rfl rfl hH), (JP_c rfl rfl rfl rfl rfl rfl rfl rfl rfl rfl rfl rfl hP), (JS_c rfl rfl rfl rfl rfl rfl rfl rfl rfl rfl rfl hS), (JL_c rfl rfl hL), (JT_c rfl rfl rfl rfl rfl hT), (JE_c rfl rfl rfl rfl hE), (JV_c rfl rfl rfl rfl hV), (JA_c rfl rfl rfl rfl hA), (JU_c rfl rfl rfl rfl rfl rfl rfl rfl rfl rfl hU), (JC_c rfl rfl rfl rfl rfl rfl rfl rfl rfl rfl hC), (JK_c rfl rfl rfl rfl rfl rfl rfl rfl rfl hK), (JW_c rfl rfl rfl rfl rfl rfl rfl rfl rfl rfl hW), (JB_c rfl rfl rfl rfl rfl rfl rfl rfl rfl rfl rfl rfl rfl rfl rfl rfl rfl rfl rfl rfl hB), (JG_c rfl rfl rfl rfl rfl hG), (JX_c rfl rfl rfl rfl rfl hX), (JQ_c rfl rfl rfl rfl rfl hQ), JO_push hO (b := b) (d := d) (v := v) (by omega) (by omega) (by omega) (by omega) rfl rfl rfl (fun j => (Zup_ki : Zup z 64 (z 68 79) (b) 64 j = _)) (fun j => (Zup_ki : Zup z 125 (z 68 79) (b) 125 j = _)) (fun j => (Zup_ki : Zup z 65 (z 68 79) (d) 65 j = _)) (fun j => (Zup_ki : Zup z 126 (z 68 79) (d) 126 j = _)) (fun j => (Zup_ki : Zup z 66 (z 68 79) (v) 66 j = _)) (fun j => (Zup_ki : Zup z 127 (z 68 79) (v) 127 j = _)) (fun j => (Zup_ki : Zup z 67 (z 68 79) (z 68 11) 67 j = _)) (fun j => (Zup_ki : Zup z 128 (z 68 79) (z 68 11) 128 j = _))⟩
set_option maxHeartbeats 1000000 in
theorem t_counted {n : Int} {z : ZI} (hK : K z) (hN : JN n z) (hn : n ≤ 1000) (b d q : Int) : Both (F_X10_counted z b d q) (fun z1 => F_X11_counted z1 b d q) (fun z2 => K z2 ∧ JN (n + 1) z2) := by
  have hR := hN.R hn
  have hl := links hK
  have hK0 := hK
  obtain ⟨hD, hH, hP, hS, hL, hT, hE, hV, hA, hU, hC, hK, hW, hB, hG, hX, hQ, hO⟩ := hK
  by_cases c1 : ¬ (0 ≤ b ∧ b ≤ 3)
  · refine Both_ref hK0 hN (w := -1) hn (by omega) ?_ ?_
    · unfold F_X10_counted X10_counted_b42 X10_counted_b21
      grind (gen := 20) [Yb_some, Zgd_i, Zl_eq, bi, e_refuse, e_isBlock, x_known]
    · show F_X11_counted (zR z (-1)) b d q = _
      unfold F_X11_counted X11_counted_b45 X11_counted_b26 X11_counted_b51 X11_counted_b74
      grind (gen := 20) [Yb_some, Zgd_i, Zl_eq, bi, zR_d, zR_k, e_no, e_isIn, m_countOf]
  by_cases c2 : d < 0 ∨ q < 0
  · refine Both_ref hK0 hN (w := -4) hn (by omega) ?_ ?_
    · unfold F_X10_counted X10_counted_b42 X10_counted_b21
      grind (gen := 20) [Yb_some, Zgd_i, Zl_eq, bi, e_refuse, e_isBlock, x_known]
    · show F_X11_counted (zR z (-4)) b d q = _
      unfold F_X11_counted X11_counted_b45 X11_counted_b26 X11_counted_b51 X11_counted_b74
      grind (gen := 20) [Yb_some, Zgd_i, Zl_eq, bi, zR_d, zR_k, e_no, e_isIn, m_countOf]
  by_cases c3 : 999 < d ∨ 999 < q
  · refine Both_ref hK0 hN (w := -6) hn (by omega) ?_ ?_
    · unfold F_X10_counted X10_counted_b42 X10_counted_b21
      grind (gen := 20) [Yb_some, Zgd_i, Zl_eq, bi, e_refuse, e_isBlock, x_known]
    · show F_X11_counted (zR z (-6)) b d q = _
      unfold F_X11_counted X11_counted_b45 X11_counted_b26 X11_counted_b51 X11_counted_b74
      grind (gen := 20) [Yb_some, Zgd_i, Zl_eq, bi, zR_d, zR_k, e_no, e_isIn, m_countOf]
  refine ⟨ctV z b d q, z, z, ?_, ?_, hK0, JN_1 hN⟩
  · unfold F_X10_counted X10_counted_b42 X10_counted_b21
    grind (gen := 20) [Yb_some, Zgd_i, Zl_eq, bi, e_isBlock, x_known]
  · show F_X11_counted z b d q = _
    unfold F_X11_counted X11_counted_b45 X11_counted_b26 X11_counted_b51 X11_counted_b74
    grind (gen := 20) [Yb_some, Zgd_i, Zl_eq, bi, e_isIn, m_countOf]
set_option maxHeartbeats 1000000 in
theorem t_off {n : Int} {z : ZI} (hK : K z) (hN : JN n z) (hn : n ≤ 1000) (b d : Int) : Both (F_X10_off z b d) (fun z1 => F_X11_off z1 b d) (fun z2 => K z2 ∧ JN (n + 1) z2) := by
  have hR := hN.R hn
  have hl := links hK
  have hK0 := hK
  obtain ⟨hD, hH, hP, hS, hL, hT, hE, hV, hA, hU, hC, hK, hW, hB, hG, hX, hQ, hO⟩ := hK
  have hc := ctV_b (b := b) (d := d) (q := z 68 11) hO
  have hq : JO (zR z (-3)) := (JO_c rfl rfl rfl rfl rfl rfl rfl rfl rfl rfl rfl hO)
  have hq2 : ctV (zR z (-3)) b d (z 68 11) = ctV z b d (z 68 11) := rfl
  by_cases c1 : ¬ (0 ≤ b ∧ b ≤ 3)
  · refine Both_refB hK0 hN (w := -1) hn (by omega) ?_ ?_
    · unfold F_X10_off X10_off_b75
      grind (gen := 20) [Yb_some, Zgd_i, Zl_eq, bi, e_refuseBeyond, e_isBlock, e_checkRange, rng, x_known, x_hereInBlock]
    · show F_X11_off (zR z (-1)) b d = _
      unfold F_X11_off 
      grind (gen := 20) [Yb_some, Zgd_i, Zl_eq, bi, zR_d, zR_k, e_lower, e_isIn, e_out, rng, m_countOf]
  by_cases c2 : d < 0
  · refine Both_refB hK0 hN (w := -4) hn (by omega) ?_ ?_
    · unfold F_X10_off X10_off_b75
      grind (gen := 20) [Yb_some, Zgd_i, Zl_eq, bi, e_refuseBeyond, e_isBlock, e_checkRange, rng, x_known, x_hereInBlock]
    · show F_X11_off (zR z (-4)) b d = _
      unfold F_X11_off 
      grind (gen := 20) [Yb_some, Zgd_i, Zl_eq, bi, zR_d, zR_k, e_lower, e_isIn, e_out, rng, m_countOf]
  by_cases c3 : 999 < d
  · refine Both_refB hK0 hN (w := -6) hn (by omega) ?_ ?_
    · unfold F_X10_off X10_off_b75
      grind (gen := 20) [Yb_some, Zgd_i, Zl_eq, bi, e_refuseBeyond, e_isBlock, e_checkRange, rng, x_known, x_hereInBlock]
    · show F_X11_off (zR z (-6)) b d = _
      unfold F_X11_off 
      grind (gen := 20) [Yb_some, Zgd_i, Zl_eq, bi, zR_d, zR_k, e_lower, e_isIn, e_out, rng, m_countOf]
  by_cases c4 : ctV z b d (z 68 11) = -9
  · refine Both_refB hK0 hN (w := -3) hn (by omega) ?_ ?_
    · unfold F_X10_off X10_off_b75
      grind (gen := 20) [Yb_some, Zgd_i, Zl_eq, bi, e_refuseBeyond, e_isBlock, e_checkRange, rng, x_known, x_hereInBlock]
    · show F_X11_off (zR z (-3)) b d = _
      unfold F_X11_off 
      grind (gen := 20) [Yb_some, Zgd_i, Zl_eq, bi, zR_d, zR_k, e_lower, e_isIn, e_out, rng, m_countOf]
  have hbb := hereBR_b (z 73) (z 72) (stF z) b d (z 68 13).toNat
  have hb2 := x_hereInBlock (h := b) (d := d) hH hP hS
  have hb3 := m_off_L (b := b) (d := d) (v := ctV z b d (z 68 11)) (by omega) hH hP hS ⟨hP.1, hP.2.1⟩ hH.2.1 (z 68 13).toNat 0 Zfuel (by omega) (by have := hP.2.1; unfold Zfuel; omega)
  have z0 : ∀ (a a2 : Int → Int) (s : Int → Int → Int), hereBR a a2 s b d 0 = 0 := fun _ _ _ => rfl
  rw [z0] at hb3
  clear z0
  refine ⟨ctV z b d (z 68 11) - hereBR (z 73) (z 72) (stF z) b d (z 68 13).toNat, z, z, ?_, ?_, hK0, JN_1 hN⟩
  · unfold F_X10_off X10_off_b75
    grind (gen := 20) [Yb_some, Zgd_i, Zl_eq, bi, e_isBlock, e_checkRange, rng, x_known, x_hereInBlock]
  · show F_X11_off z b d = _
    unfold F_X11_off 
    grind (gen := 20) [Yb_some, Zgd_i, Zl_eq, bi, e_isIn, e_out, rng, m_countOf]
