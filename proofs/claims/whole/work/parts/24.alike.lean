def likeS (n x y f : Int) : Int := if 2 ≤ n ∧ n = min x y ∧ f ≤ 3 then 2 else if 0 < n then 1 else 0
theorem x_like {z : ZI} {h g : Int} (hH : JH z) (hP : JP z) (hS : JS z) (hd : 0 ≤ z 68 11 ∧ z 68 11 ≤ 999) (hh : 0 ≤ h ∧ h < z 68 12) (hg : 0 ≤ g ∧ g < z 68 12) (hne : h ≠ g) : F_X3_likeness z h g (z 68 11) = some (likeS (prR z h g (z 68 11) (z 68 13).toNat).1 (hereH z h (z 68 11)) (hereH z g (z 68 11)) (farS (z 71 h) (z 71 g)), Zar z 23 (rg (z 68 13) (prR z h g (z 68 11) (z 68 13).toNat).2 (z 23))) := by
  have e1 := x_pairUp (h := h) (oh := g) (d := z 68 11) hP hS hd
  have r1 := hH.2.2.2.1 h hh.1 hh.2
  have r2 := hH.2.2.2.1 g hg.1 hg.2
  have b30 := hH.2.1
  unfold F_X3_likeness X3_likeness_b57 X3_likeness_b79 X3_likeness_b89
  rw [if_neg hne, e1, Yb_some]
  generalize rg (z 68 13) (prR z h g (z 68 11) (z 68 13).toNat).2 (z 23) = F
  generalize (prR z h g (z 68 11) (z 68 13).toNat).1 = n
  have hPz : JP (Zar z 23 F) := (JP_c rfl rfl rfl rfl rfl rfl rfl rfl rfl rfl rfl rfl hP)
  have hSz : JS (Zar z 23 F) := (JS_c rfl rfl rfl rfl rfl rfl rfl rfl rfl rfl rfl hS)
  have q1 : F_X3_hereInHouse (Zar z 23 F) h (z 68 11) = some (hereH z h (z 68 11), Zar z 23 F) := x_hereInHouse hPz hSz
  have q2 : F_X3_hereInHouse (Zar z 23 F) g (z 68 11) = some (hereH z g (z 68 11), Zar z 23 F) := x_hereInHouse hPz hSz
  have l12 : (Zar z 23 F) 12 = z 12 := rfl
  rw [q1, Yb_some, q2, Yb_some, Zgd_t (by omega), Zgd_t (by omega), l12, r1.1, r2.1, x_apart (by omega) (by omega), Yb_some]
  unfold likeS
  clear hPz hSz q1 q2 hP hS hH e1 r1 r2
  generalize hereH z h (z 68 11) = x
  generalize hereH z g (z 68 11) = y
  generalize farS (z 71 h) (z 71 g) = f
  grind
set_option maxHeartbeats 1000000 in
theorem t_alike {n : Int} {z : ZI} (hK : K z) (hN : JN n z) (hn : n ≤ 1000) (a b : Int) : Both (F_X10_alike z a b) (fun z1 => F_X11_alike z1 a b) (fun z2 => K z2 ∧ JN (n + 1) z2) := by
  have hR := hN.R hn
  have hl := links hK
  have hK0 := hK
  obtain ⟨hD, hH, hP, hS, hL, hT, hE, hV, hA, hU, hC, hK, hW, hB, hG, hX, hQ, hO⟩ := hK
  have ht := twoS_r z a b
  have hx := x_two (a := a) (b := b) hC
  have hm1 := m_two (z := zR z (-1)) (a := a) (b := b) hC.2.2.1
  have hm3 := m_two (z := zR z (-3)) (a := a) (b := b) hC.2.2.1
  have hq1 : twoS (zR z (-1)) a b = twoS z a b := rfl
  have hq3 : twoS (zR z (-3)) a b = twoS z a b := rfl
  by_cases c1 : twoS z a b = -1
  · refine Both_ref hK0 hN (w := -1) hn (by omega) ?_ ?_
    · unfold F_X10_alike 
      grind (gen := 20) [Yb_some, Zgd_i, Zl_eq, bi, e_refuse, x_two]
    · show F_X11_alike (zR z (-1)) a b = _
      unfold F_X11_alike X11_alike_b96 X11_alike_b124 X11_alike_b134
      grind (gen := 20) [Yb_some, Zgd_i, Zl_eq, bi, zR_d, zR_k, e_no, m_two]
  by_cases c2 : twoS z a b = -3
  · refine Both_ref hK0 hN (w := -3) hn (by omega) ?_ ?_
    · unfold F_X10_alike 
      grind (gen := 20) [Yb_some, Zgd_i, Zl_eq, bi, e_refuse, x_two]
    · show F_X11_alike (zR z (-3)) a b = _
      unfold F_X11_alike X11_alike_b96 X11_alike_b124 X11_alike_b134
      grind (gen := 20) [Yb_some, Zgd_i, Zl_eq, bi, zR_d, zR_k, e_no, m_two]
  have h0 : twoS z a b = 0 ∧ 0 ≤ a ∧ a < z 68 34 ∧ 0 ≤ b ∧ b < z 68 34 := by omega
  have ra := hC.2.2.2 a h0.2.1 h0.2.2.1
  have rb := hC.2.2.2 b h0.2.2.2.1 h0.2.2.2.2
  have ec := m_two (z := z) (a := a) (b := b) hC.2.2.1
  by_cases hs : z 88 a = z 88 b
  · clear hm1 hm3 hq1 hq3
    refine ⟨2, z, z, ?_, ?_, hK0, JN_1 hN⟩
    · unfold F_X10_alike 
      unfold F_X0_houseOf F_X3_likeness
      grind (gen := 20) [Yb_some, Zgd_i]
    · show F_X11_alike z a b = _
      unfold F_X11_alike X11_alike_b96 X11_alike_b124 X11_alike_b134
      grind (gen := 20) [Yb_some, Zgd_i]
  · have hp := x_like (h := z 88 a) (g := z 88 b) hH hP hS ⟨hD.2.1, hD.2.2⟩ (by omega) (by omega) hs
    refine ⟨likeS (prR z (z 88 a) (z 88 b) (z 68 11) (z 68 13).toNat).1 (hereH z (z 88 a) (z 68 11)) (hereH z (z 88 b) (z 68 11)) (farS (z 71 (z 88 a)) (z 71 (z 88 b))), Zar z 23 (rg (z 68 13) (prR z (z 88 a) (z 88 b) (z 68 11) (z 68 13).toNat).2 (z 23)), Zar (Zar z 23 (rg (z 68 13) (prR z (z 88 a) (z 88 b) (z 68 11) (z 68 13).toNat).2 (z 23))) 94 (rg (z 68 13) (frF (prR z (z 88 a) (z 88 b) (z 68 11) (z 68 13).toNat).2) (z 94)), ?_, ?_, ?_, JN_up hN rfl rfl⟩
    · unfold F_X10_alike 
      unfold F_X0_houseOf
      clear ht hm1 hm3 hq1 hq3
      grind (gen := 20) [Yb_some, Zgd_i]
    · show F_X11_alike _ a b = _
      clear hp hx hm1 hm3 hq1 hq3
      generalize rg (z 68 13) (prR z (z 88 a) (z 88 b) (z 68 11) (z 68 13).toNat).2 (z 23) = F
      have hPz : JP (Zar z 23 F) := (JP_c rfl rfl rfl rfl rfl rfl rfl rfl rfl rfl rfl rfl hP)
      have hSz : JS (Zar z 23 F) := (JS_c rfl rfl rfl rfl rfl rfl rfl rfl rfl rfl rfl hS)
      have e : F_X11_pairsOf (Zar z 23 F) a b = some ((prR (Zar z 23 F) (z 88 a) (z 88 b) (z 68 11) (z 68 13).toNat).1, Zar (Zar z 23 F) 94 (rg (z 68 13) (frF (prR (Zar z 23 F) (z 88 a) (z 88 b) (z 68 11) (z 68 13).toNat).2) (z 94))) := m_pairsOf (z := Zar z 23 F) (c1 := a) (c2 := b) hPz hSz ⟨hD.2.1, hD.2.2⟩ ⟨h0.2.1, by omega⟩ ⟨h0.2.2.2.1, by omega⟩
      have e2 := m_two (z := Zar z 23 F) (a := a) (b := b) hC.2.2.1
      have e3 : twoS (Zar z 23 F) a b = 0 := h0.1
      rw [e3] at e2
      rw [prR_c (z := z) (z1 := Zar z 23 F) rfl rfl rfl rfl rfl] at e
      generalize rg (z 68 13) (frF (prR z (z 88 a) (z 88 b) (z 68 11) (z 68 13).toNat).2) (z 94) = G at *
      have hPy : JP (Zar (Zar z 23 F) 94 G) := (JP_c rfl rfl rfl rfl rfl rfl rfl rfl rfl rfl rfl rfl hP)
      have hSy : JS (Zar (Zar z 23 F) 94 G) := (JS_c rfl rfl rfl rfl rfl rfl rfl rfl rfl rfl rfl hS)
      have q1 : F_X11_hereOf (Zar (Zar z 23 F) 94 G) (z 88 a) (z 68 11) = some (hereH z (z 88 a) (z 68 11), Zar (Zar z 23 F) 94 G) := m_hereOf hPy hSy
      have q2 : F_X11_hereOf (Zar (Zar z 23 F) 94 G) (z 88 b) (z 68 11) = some (hereH z (z 88 b) (z 68 11), Zar (Zar z 23 F) 94 G) := m_hereOf hPy hSy
      have r1 := hH.2.2.2.1 (z 88 a) (by omega) (by omega)
      have r2 := hH.2.2.2.1 (z 88 b) (by omega) (by omega)
      have q3 := m_far (z := Zar (Zar z 23 F) 94 G) (a := z 71 (z 88 a)) (b := z 71 (z 88 b)) (by omega) (by omega)
      have l1 : (Zar z 23 F) 88 = z 88 := rfl
      have l2 : (Zar (Zar z 23 F) 94 G) 68 11 = z 68 11 := rfl
      have l3 : (Zar (Zar z 23 F) 94 G) 71 = z 71 := rfl
      unfold F_X11_alike X11_alike_b96 X11_alike_b124 X11_alike_b134
      rw [e2, Yb_some, if_pos rfl, Zgd_t (by omega), Zgd_t (by omega), l1, if_neg hs, e, Yb_some, l2, q1, Yb_some, l2, q2, Yb_some, l3, q3]
      unfold likeS
      clear hPz hSz hPy hSy e e2 e3 q1 q2 q3 l1 l2 l3 r1 r2 ec
      generalize hereH z (z 88 a) (z 68 11) = x
      generalize hereH z (z 88 b) (z 68 11) = y
      generalize farS (z 71 (z 88 a)) (z 71 (z 88 b)) = f
      generalize (prR z (z 88 a) (z 88 b) (z 68 11) (z 68 13).toNat).1 = nn
      have ha30 : IJ (z 88 a) 30 := by omega
      have hb30 : IJ (z 88 b) 30 := by omega
      simp only [Zgd_t ha30, Zgd_t hb30, Yb_some]
      clear ha30 hb30 ra rb
      grind
    · exact ⟨(JD_c rfl rfl hD), (JH_c rfl rfl rfl rfl rfl rfl rfl hH), (JP_c rfl rfl rfl rfl rfl rfl rfl rfl rfl rfl rfl rfl hP), (JS_c rfl rfl rfl rfl rfl rfl rfl rfl rfl rfl rfl hS), (JL_c rfl rfl hL), (JT_c rfl rfl rfl rfl rfl hT), (JE_c rfl rfl rfl rfl hE), (JV_c rfl rfl rfl rfl hV), (JA_c rfl rfl rfl rfl hA), (JU_c rfl rfl rfl rfl rfl rfl rfl rfl rfl rfl hU), (JC_c rfl rfl rfl rfl rfl rfl rfl rfl rfl rfl hC), (JK_c rfl rfl rfl rfl rfl rfl rfl rfl rfl hK), (JW_c rfl rfl rfl rfl rfl rfl rfl rfl rfl rfl hW), (JB_c rfl rfl rfl rfl rfl rfl rfl rfl rfl rfl rfl rfl rfl rfl rfl rfl rfl rfl rfl rfl hB), (JG_c rfl rfl rfl rfl rfl hG), (JX_c rfl rfl rfl rfl rfl hX), (JQ_c rfl rfl rfl rfl rfl hQ), (JO_c rfl rfl rfl rfl rfl rfl rfl rfl rfl rfl rfl hO)⟩
