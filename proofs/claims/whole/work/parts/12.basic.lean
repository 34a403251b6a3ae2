/-! the small methods -/
theorem JD_c {z z1 : ZI} (e0 : z1 0 0 = z 0 0) (e1 : z1 68 11 = z 68 11) (h : JD z) : JD z1 := by
  unfold JD at *
  simp only [e0, e1]
  exact h
theorem JH_c {z z1 : ZI} (e0 : z1 68 12 = z 68 12) (e1 : z1 11 0 = z 11 0) (e2 : z1 12 = z 12) (e3 : z1 71 = z 71) (e4 : z1 13 = z 13) (e5 : z1 72 = z 72) (e6 : z1 14 = z 14) (h : JH z) : JH z1 := by
  unfold JH at *
  simp only [e0, e1, e2, e3, e4, e5, e6]
  exact h
theorem JP_c {z z1 : ZI} (e0 : z1 68 13 = z 68 13) (e1 : z1 11 4 = z 11 4) (e2 : z1 15 = z 15) (e3 : z1 73 = z 73) (e4 : z1 68 12 = z 68 12) (e5 : z1 16 = z 16) (e6 : z1 74 = z 74) (e7 : z1 68 11 = z 68 11) (e8 : z1 17 = z 17) (e9 : z1 75 = z 75) (e10 : z1 18 = z 18) (e11 : z1 76 = z 76) (h : JP z) : JP z1 := by
  unfold JP at *
  simp only [e0, e1, e2, e3, e4, e5, e6, e7, e8, e9, e10, e11]
  exact h
theorem JS_c {z z1 : ZI} (e0 : z1 68 14 = z 68 14) (e1 : z1 11 10 = z 11 10) (e2 : z1 77 = z 77) (e3 : z1 68 13 = z 68 13) (e4 : z1 21 = z 21) (e5 : z1 78 = z 78) (e6 : z1 20 = z 20) (e7 : z1 79 = z 79) (e8 : z1 68 11 = z 68 11) (e9 : z1 19 = z 19) (e10 : z1 22 = z 22) (h : JS z) : JS z1 := by
  unfold JS at *
  simp only [e0, e1, e2, e3, e4, e5, e6, e7, e8, e9, e10]
  exact h
theorem JL_c {z z1 : ZI} (e0 : z1 3 = z 3) (e1 : z1 70 = z 70) (h : JL z) : JL z1 := by
  unfold JL at *
  simp only [e0, e1]
  exact h
theorem JT_c {z z1 : ZI} (e0 : z1 2 2 = z 2 2) (e1 : z1 68 61 = z 68 61) (e2 : z1 108 = z 108) (e3 : z1 109 = z 109) (e4 : z1 4 = z 4) (h : JT z) : JT z1 := by
  unfold JT at *
  simp only [e0, e1, e2, e3, e4]
  exact h
theorem JE_c {z z1 : ZI} (e0 : z1 2 4 = z 2 4) (e1 : z1 68 62 = z 68 62) (e2 : z1 110 = z 110) (e3 : z1 5 = z 5) (h : JE z) : JE z1 := by
  unfold JE at *
  simp only [e0, e1, e2, e3]
  exact h
theorem JV_c {z z1 : ZI} (e0 : z1 2 8 = z 2 8) (e1 : z1 6 = z 6) (e2 : z1 3 = z 3) (e3 : z1 7 = z 7) (h : JV z) : JV z1 := by
  unfold JV at *
  simp only [e0, e1, e2, e3]
  exact h
theorem JA_c {z z1 : ZI} (e0 : z1 24 1 = z 24 1) (e1 : z1 68 21 = z 68 21) (e2 : z1 80 = z 80) (e3 : z1 25 = z 25) (h : JA z) : JA z1 := by
  unfold JA at *
  simp only [e0, e1, e2, e3]
  exact h
theorem JU_c {z z1 : ZI} (e0 : z1 24 2 = z 24 2) (e1 : z1 68 22 = z 68 22) (e2 : z1 28 = z 28) (e3 : z1 83 = z 83) (e4 : z1 29 = z 29) (e5 : z1 84 = z 84) (e6 : z1 27 = z 27) (e7 : z1 82 = z 82) (e8 : z1 81 = z 81) (e9 : z1 26 = z 26) (h : JU z) : JU z1 := by
  unfold JU at *
  simp only [e0, e1, e2, e3, e4, e5, e6, e7, e8, e9]
  exact h
theorem JC_c {z z1 : ZI} (e0 : z1 33 0 = z 33 0) (e1 : z1 68 34 = z 68 34) (e2 : z1 34 = z 34) (e3 : z1 88 = z 88) (e4 : z1 68 12 = z 68 12) (e5 : z1 35 = z 35) (e6 : z1 89 = z 89) (e7 : z1 68 11 = z 68 11) (e8 : z1 36 = z 36) (e9 : z1 90 = z 90) (h : JC z) : JC z1 := by
  unfold JC at *
  simp only [e0, e1, e2, e3, e4, e5, e6, e7, e8, e9]
  exact h
theorem JK_c {z z1 : ZI} (e0 : z1 37 0 = z 37 0) (e1 : z1 68 35 = z 68 35) (e2 : z1 38 = z 38) (e3 : z1 91 = z 91) (e4 : z1 68 11 = z 68 11) (e5 : z1 39 = z 39) (e6 : z1 92 = z 92) (e7 : z1 40 = z 40) (e8 : z1 93 = z 93) (h : JK z) : JK z1 := by
  unfold JK at *
  simp only [e0, e1, e2, e3, e4, e5, e6, e7, e8]
  exact h
theorem JW_c {z z1 : ZI} (e0 : z1 41 0 = z 41 0) (e1 : z1 68 47 = z 68 47) (e2 : z1 42 = z 42) (e3 : z1 95 = z 95) (e4 : z1 43 = z 43) (e5 : z1 96 = z 96) (e6 : z1 44 = z 44) (e7 : z1 97 = z 97) (e8 : z1 45 = z 45) (e9 : z1 98 = z 98) (h : JW z) : JW z1 := by
  unfold JW at *
  simp only [e0, e1, e2, e3, e4, e5, e6, e7, e8, e9]
  exact h
theorem JB_c {z z1 : ZI} (e0 : z1 200 52 = z 200 52) (e1 : z1 200 53 = z 200 53) (e2 : z1 41 14 = z 41 14) (e3 : z1 41 15 = z 41 15) (e4 : z1 52 = z 52) (e5 : z1 72 = z 72) (e6 : z1 73 = z 73) (e7 : z1 68 13 = z 68 13) (e8 : z1 68 11 = z 68 11) (e9 : z1 95 = z 95) (e10 : z1 71 = z 71) (e11 : z1 68 47 = z 68 47) (e12 : z1 96 = z 96) (e13 : z1 97 = z 97) (e14 : z1 68 12 = z 68 12) (e15 : z1 76 = z 76) (e16 : z1 77 = z 77) (e17 : z1 79 = z 79) (e18 : z1 78 = z 78) (e19 : z1 68 14 = z 68 14) (h : JB z) : JB z1 := by
  have ec : cost z1 = cost z := by
    funext w
    unfold cost needF goesF hereH stF
    simp only [e0, e1, e2, e3, e4, e5, e6, e7, e8, e9, e10, e11, e12, e13, e14, e15, e16, e17, e18, e19]
  unfold JB at *
  simp only [e0, e1, e2, e3, e4, e5, e6, e7, e8, e9, e10, e11, e12, e13, e14, e15, e16, e17, e18, e19, ec]
  exact h
theorem JG_c {z z1 : ZI} (e0 : z1 68 53 = z 68 53) (e1 : z1 107 = z 107) (e2 : z1 104 = z 104) (e3 : z1 68 48 = z 68 48) (e4 : z1 68 49 = z 68 49) (h : JG z) : JG z1 := by
  unfold JG at *
  simp only [e0, e1, e2, e3, e4]
  exact h
theorem JX_c {z z1 : ZI} (e0 : z1 54 0 = z 54 0) (e1 : z1 68 70 = z 68 70) (e2 : z1 116 = z 116) (e3 : z1 68 12 = z 68 12) (e4 : z1 55 = z 55) (h : JX z) : JX z1 := by
  unfold JX at *
  simp only [e0, e1, e2, e3, e4]
  exact h
theorem JQ_c {z z1 : ZI} (e0 : z1 59 0 = z 59 0) (e1 : z1 68 78 = z 68 78) (e2 : z1 60 = z 60) (e3 : z1 122 = z 122) (e4 : z1 68 13 = z 68 13) (h : JQ z) : JQ z1 := by
  unfold JQ at *
  simp only [e0, e1, e2, e3, e4]
  exact h
theorem JO_c {z z1 : ZI} (e0 : z1 63 0 = z 63 0) (e1 : z1 68 79 = z 68 79) (e2 : z1 64 = z 64) (e3 : z1 125 = z 125) (e4 : z1 65 = z 65) (e5 : z1 126 = z 126) (e6 : z1 68 11 = z 68 11) (e7 : z1 66 = z 66) (e8 : z1 127 = z 127) (e9 : z1 67 = z 67) (e10 : z1 128 = z 128) (h : JO z) : JO z1 := by
  unfold JO at *
  simp only [e0, e1, e2, e3, e4, e5, e6, e7, e8, e9, e10]
  exact h

theorem e_checkRange (z : ZI) (n l m : Int) : F_X10_checkRange z n l m = some (rng n l m, z) := by
  unfold F_X10_checkRange X10_checkRange_b19
  grind [rng]
theorem e_out (z : ZI) (n l m : Int) : F_X11_out z n l m = some (rng n l m, z) := by
  unfold F_X11_out X11_out_b24 jcmp
  grind [rng]
theorem e_isCell (z : ZI) (x : Int) : F_X10_isCell z x = some (bi (0 ≤ x ∧ x < 144), z) := by
  unfold F_X10_isCell X10_isCell_b15 X10_isCell_b16
  grind [bi, Zgd_i]
theorem e_mCell (z : ZI) (x : Int) : F_X11_isCell z x = some (bi (0 ≤ x ∧ x < 144), z) := by
  unfold F_X11_isCell X11_isCell_b15 X11_isCell_b16
  grind [bi, Zgd_i]
theorem e_isBlock (z : ZI) (x : Int) : F_X10_isBlock z x = some (bi (0 ≤ x ∧ x ≤ 3), z) := by
  unfold F_X10_isBlock X10_isBlock_b13 X10_isBlock_b14
  grind [bi, Zgd_i]
theorem e_isWind (z : ZI) (x : Int) : F_X10_isWind z x = some (bi (0 ≤ x ∧ x ≤ 3), z) := by
  unfold F_X10_isWind X10_isWind_b13 X10_isWind_b14
  grind [bi, Zgd_i]
theorem e_isIn (z : ZI) (x l m : Int) : F_X11_isIn z x l m = some (bi (l ≤ x ∧ x ≤ m), z) := by
  unfold F_X11_isIn X11_isIn_b17 X11_isIn_b18 jcmp
  grind [bi, Zgd_i]
theorem e_hasHouse (z : ZI) (x : Int) : F_X3_hasHouse z x = some (bi (0 ≤ x ∧ x < z 11 0), z) := by
  unfold F_X3_hasHouse X3_hasHouse_b16 X3_hasHouse_b17
  grind [bi, Zgd_i]
theorem e_hasPerson (z : ZI) (x : Int) : F_X3_hasPerson z x = some (bi (0 ≤ x ∧ x < z 11 4), z) := by
  unfold F_X3_hasPerson X3_hasPerson_b16 X3_hasPerson_b17
  grind [bi, Zgd_i]
theorem e_hasCard (z : ZI) (x : Int) : F_X0_has z x = some (bi (0 ≤ x ∧ x < z 33 0), z) := by
  unfold F_X0_has X0_has_b16 X0_has_b17
  grind [bi, Zgd_i]
theorem e_isHouse (z : ZI) (x : Int) : F_X11_isHouse z x = some (bi (0 ≤ x ∧ x < z 68 12), z) := by
  unfold F_X11_isHouse X11_isHouse_b16 X11_isHouse_b17
  grind [bi, Zgd_i]
theorem e_isPerson (z : ZI) (x : Int) : F_X11_isPerson z x = some (bi (0 ≤ x ∧ x < z 68 13), z) := by
  unfold F_X11_isPerson X11_isPerson_b16 X11_isPerson_b17
  grind [bi, Zgd_i]
theorem e_isCard (z : ZI) (x : Int) : F_X11_isCard z x = some (bi (0 ≤ x ∧ x < z 68 34), z) := by
  unfold F_X11_isCard X11_isCard_b16 X11_isCard_b17
  grind [bi, Zgd_i]
/-! refusals -/
def JR (z : ZI) : Prop := ∀ i, 1 ≤ i → i ≤ 6 → z 1 i = z 69 i ∧ 0 ≤ z 69 i ∧ z 69 i ≤ 1000
theorem JN.R {n : Int} {z : ZI} (h : JN n z) (hn : n ≤ 1000) : JR z := fun i h1 h2 => by have := h i h1 h2; omega
theorem e_refuse {z : ZI} {w : Int} (hz : JR z) (hw : -6 ≤ w ∧ w ≤ -1) : F_X10_refuse z w = some (w, zR z w) := by
  have hc := hz (-w) (by omega) (by omega)
  unfold F_X10_refuse X10_refuse_b26
  grind [Zgd_i, Zl_eq, zR]
theorem e_no {z : ZI} {w : Int} (hz : JR z) (hw : -6 ≤ w ∧ w ≤ -1) : F_X11_no (zR z w) w = some (w, mR (zR z w) w) := by
  have hc := hz (-w) (by omega) (by omega)
  unfold F_X11_no
  grind [Zgd_i, Zl_eq, mR, zR_d]
theorem e_refuseBeyond {z : ZI} {w : Int} (hz : JR z) (hw : -6 ≤ w ∧ w ≤ -1) : F_X10_refuseBeyond z w = some (1000000000 - w, zR z w) := by
  unfold F_X10_refuseBeyond
  grind [Zgd_i, e_refuse, Yb_some]
theorem e_lower {z : ZI} {w : Int} (hz : JR z) (hw : -6 ≤ w ∧ w ≤ -1) : F_X11_lower (zR z w) w = some (1000000000 - w, mR (zR z w) w) := by
  have hc := hz (-w) (by omega) (by omega)
  unfold F_X11_lower
  grind [Zgd_i, Zl_eq, mR, zR_d]
theorem JN_ref {n : Int} {z : ZI} {w : Int} (h : JN n z) (hw : -6 ≤ w ∧ w ≤ -1) : JN (n + 1) (mR (zR z w) w) := by
  intro i h1 h2
  have := h i h1 h2
  grind [mR_d, zR_d]
theorem JN_up {n : Int} {z z' : ZI} (h : JN n z) (h1 : z' 1 = z 1) (h2 : z' 69 = z 69) : JN (n + 1) z' := by
  intro i a b
  have := h i a b
  rw [h1, h2]
  omega
/-- both answer alike, and then P -/
def Both (o : Option (Int × ZI)) (f : ZI → Option (Int × ZI)) (P : ZI → Prop) : Prop := ∃ r z1 z2, o = some (r, z1) ∧ f z1 = some (r, z2) ∧ P z2
theorem JN_1 {n : Int} {z : ZI} (h : JN n z) : JN (n + 1) z := JN_up h rfl rfl
theorem links {z : ZI} (h : K z) : z 0 0 = z 68 11 ∧ 0 ≤ z 68 11 ∧ z 68 11 ≤ 999 ∧ z 11 0 = z 68 12 ∧ 0 ≤ z 68 12 ∧ z 68 12 ≤ 30 ∧ z 11 4 = z 68 13 ∧ 0 ≤ z 68 13 ∧ z 68 13 ≤ 60 ∧ z 11 10 = z 68 14 ∧ 0 ≤ z 68 14 ∧ z 68 14 ≤ 150 ∧ z 2 2 = z 68 61 ∧ 0 ≤ z 68 61 ∧ z 68 61 ≤ 14 ∧ z 2 4 = z 68 62 ∧ 0 ≤ z 68 62 ∧ z 68 62 ≤ 10 ∧ z 24 1 = z 68 21 ∧ 0 ≤ z 68 21 ∧ z 68 21 ≤ 60 ∧ z 24 2 = z 68 22 ∧ 0 ≤ z 68 22 ∧ z 68 22 ≤ 30 ∧ z 33 0 = z 68 34 ∧ 0 ≤ z 68 34 ∧ z 68 34 ≤ 40 ∧ z 37 0 = z 68 35 ∧ 0 ≤ z 68 35 ∧ z 68 35 ≤ 60 ∧ z 41 0 = z 68 47 ∧ 0 ≤ z 68 47 ∧ z 68 47 ≤ 6 ∧ z 54 0 = z 68 70 ∧ 0 ≤ z 68 70 ∧ z 68 70 ≤ 8 ∧ z 59 0 = z 68 78 ∧ 0 ≤ z 68 78 ∧ z 68 78 ≤ 60 ∧ z 63 0 = z 68 79 ∧ 0 ≤ z 68 79 ∧ z 68 79 ≤ 40 := by
  obtain ⟨hD, hH, hP, hS, hL, hT, hE, hV, hA, hU, hC, hK, hW, hB, hG, hX, hQ, hO⟩ := h
  exact ⟨hD.1, hD.2.1, hD.2.2, hH.2.2.1, hH.1, hH.2.1, hP.2.2.1, hP.1, hP.2.1, hS.2.2.1, hS.1, hS.2.1, hT.1, hT.2.1, hT.2.2.1, hE.1, hE.2.1, hE.2.2.1, hA.1, hA.2.1, hA.2.2.1, hU.1, hU.2.1, hU.2.2.1, hC.1, hC.2.1, hC.2.2.1, hK.1, hK.2.1, hK.2.2.1, hW.1, hW.2.1, hW.2.2.1, hX.1, hX.2.1, hX.2.2.1, hQ.1, hQ.2.1, hQ.2.2.1, hO.1, hO.2.1, hO.2.2.1⟩
theorem K_ref {z : ZI} {w : Int} (h : K z) : K (mR (zR z w) w) := by
  obtain ⟨hD, hH, hP, hS, hL, hT, hE, hV, hA, hU, hC, hK, hW, hB, hG, hX, hQ, hO⟩ := h
  exact ⟨(JD_c rfl rfl hD), (JH_c rfl rfl rfl rfl rfl rfl rfl hH), (JP_c rfl rfl rfl rfl rfl rfl rfl rfl rfl rfl rfl rfl hP), (JS_c rfl rfl rfl rfl rfl rfl rfl rfl rfl rfl rfl hS), (JL_c rfl rfl hL), (JT_c rfl rfl rfl rfl rfl hT), (JE_c rfl rfl rfl rfl hE), (JV_c rfl rfl rfl rfl hV), (JA_c rfl rfl rfl rfl hA), (JU_c rfl rfl rfl rfl rfl rfl rfl rfl rfl rfl hU), (JC_c rfl rfl rfl rfl rfl rfl rfl rfl rfl rfl hC), (JK_c rfl rfl rfl rfl rfl rfl rfl rfl rfl hK), (JW_c rfl rfl rfl rfl rfl rfl rfl rfl rfl rfl hW), (JB_c rfl rfl rfl rfl rfl rfl rfl rfl rfl rfl rfl rfl rfl rfl rfl rfl rfl rfl rfl rfl hB), (JG_c rfl rfl rfl rfl rfl hG), (JX_c rfl rfl rfl rfl rfl hX), (JQ_c rfl rfl rfl rfl rfl hQ), (JO_c rfl rfl rfl rfl rfl rfl rfl rfl rfl rfl rfl hO)⟩
theorem Both_ref {n w : Int} {z : ZI} {o : Option (Int × ZI)} {f : ZI → Option (Int × ZI)} (hK : K z) (hN : JN n z) (hn : n ≤ 1000) (hw : -6 ≤ w ∧ w ≤ -1) (h1 : o = some (w, zR z w)) (h2 : f (zR z w) = some (w, mR (zR z w) w)) : Both o f (fun z2 => K z2 ∧ JN (n + 1) z2) :=
  ⟨w, _, _, h1, h2, K_ref hK, JN_ref hN hw⟩
theorem Both_refB {n w : Int} {z : ZI} {o : Option (Int × ZI)} {f : ZI → Option (Int × ZI)} (hK : K z) (hN : JN n z) (hn : n ≤ 1000) (hw : -6 ≤ w ∧ w ≤ -1) (h1 : o = some (1000000000 - w, zR z w)) (h2 : f (zR z w) = some (1000000000 - w, mR (zR z w) w)) : Both o f (fun z2 => K z2 ∧ JN (n + 1) z2) :=
  ⟨_, _, _, h1, h2, K_ref hK, JN_ref hN hw⟩
