/-! best's first call, in the law -/
theorem K_nk {z : ZI} (hK : K z) (h0 : z 41 14 = 0) : K (Znk (Znk z 52) 53) := by
  obtain ⟨hD, hH, hP, hS, hL, hT, hE, hV, hA, hU, hC, hK, hW, hB, hG, hX, hQ, hO⟩ := hK
  have hj : JB (Znk (Znk z 52) 53) := ⟨Or.inr ⟨rfl, rfl⟩, Or.inl h0⟩
  exact ⟨(JD_c rfl rfl hD), (JH_c rfl rfl rfl rfl rfl rfl rfl hH), (JP_c rfl rfl rfl rfl rfl rfl rfl rfl rfl rfl rfl rfl hP), (JS_c rfl rfl rfl rfl rfl rfl rfl rfl rfl rfl rfl hS), (JL_c rfl rfl hL), (JT_c rfl rfl rfl rfl rfl hT), (JE_c rfl rfl rfl rfl hE), (JV_c rfl rfl rfl rfl hV), (JA_c rfl rfl rfl rfl hA), (JU_c rfl rfl rfl rfl rfl rfl rfl rfl rfl rfl hU), (JC_c rfl rfl rfl rfl rfl rfl rfl rfl rfl rfl hC), (JK_c rfl rfl rfl rfl rfl rfl rfl rfl rfl hK), (JW_c rfl rfl rfl rfl rfl rfl rfl rfl rfl rfl hW), hj, (JG_c rfl rfl rfl rfl rfl hG), (JX_c rfl rfl rfl rfl rfl hX), (JQ_c rfl rfl rfl rfl rfl hQ), (JO_c rfl rfl rfl rfl rfl rfl rfl rfl rfl rfl rfl hO)⟩
theorem t_bestOut {n : Int} {z : ZI} (hK : K z) (hN : JN n z) (hn : n ≤ 1000) (x : Int) (hx : ¬ (0 ≤ x ∧ x ≤ 5)) : Both (F_X10_best z x) (fun z1 => F_X11_best z1 x) (fun z2 => K z2 ∧ JN (n + 1) z2) := by
  have hR := hN.R hn
  have hl := links hK
  have hK0 := hK
  obtain ⟨hD, hH, hP, hS, hL, hT, hE, hV, hA, hU, hC, hK, hW, hB, hG, hX, hQ, hO⟩ := hK
  by_cases c1 : ¬ (0 ≤ x ∧ x ≤ 5)
  · refine Both_ref hK0 hN (w := -2) hn (by omega) ?_ ?_
    · unfold F_X10_best X10_best_b9
      grind (gen := 20) [Yb_some, Zgd_i, Zl_eq, bi, e_refuse, e_refuse]
    · show F_X11_best (zR z (-2)) x = _
      unfold F_X11_best 
      grind (gen := 20) [Yb_some, Zgd_i, Zl_eq, bi, zR_d, zR_k, e_no, e_isIn]
  exact absurd hx c1
set_option maxRecDepth 100000 in
set_option maxHeartbeats 4000000 in
theorem law_LBF {p : Program} {l : Launch} {e : Env} {s : State} {m : MethodId} {below : List Frame} {meth : Method} {c : Code} {D : va_G} {cA : Nat → ClassId} {b L : Nat} {xs : Nat → Int32} (C : LC p s m c b L xs) : LBF p l e s m below meth c D cA b L := by
  intro Q n i z ad H locs cells slots ls hn hi hdj hzz hK hN h0 h200 hw hcs hl kk
  have S := C.1
  have hcs0 : cells ≤ room_1.cells ∧ slots ≤ room_1.slots := ⟨by omega, by omega⟩
  have hcs2 : cells + 2 ≤ room_1.cells ∧ slots + 8192 ≤ room_1.slots := hcs
  have hA : ∀ q, s.heap.size ≤ q → LA s q := fun q h => h
  by_cases hx : 0 ≤ xN xs i 1 ∧ xN xs i 1 ≤ 5
  · have hK' := K_nk hK h0
    have hN' : JN n (Znk (Znk z 52) 53) := fun i p q => hN i p q
    obtain ⟨y, bw, a1, a2, a3, a4⟩ := x_b34 hK' h0 ⟨rfl, rfl⟩
    have hK3 := K_known hK' h0 ⟨rfl, rfl⟩ a2 a3 a4
    have hN3 : JN n (Zup (Zup y 41 15 bw) 41 14 1) := fun i p q => JN_fb hN' a2 i p q
    have b1 := x_bst (x := xN xs i 1) hK3 rfl hx
    obtain ⟨z4, c1, c2, c3⟩ := m_bst (x := xN xs i 1) hK3 hN3 rfl hx
    have hF3 : X9_findBest_b34 (Znk (Znk z 52) 53) (z 0 0) = some ((), Zup (Zup y 41 15 bw) 41 14 1) := by
      have hD : z 0 0 = z 68 11 := (links hK).1
      rw [hD]
      exact a1
    generalize hz3 : Zup (Zup y 41 15 bw) 41 14 1 = z3 at hK3 hN3 b1 c1 hF3
    generalize bstOf z3 (xN xs i 1) = r at b1 c1
    refine lv_aload_n S.1 S.2.1 dL_law_889 rfl (lv_at hl 2 rfl) ?_
    refine Larg C hw.2.2.2 hl 1 (by decide) hi dL_law_890 dL_law_891 dL_law_892 ic_1 dL_law_893 dL_law_894 ?_
    have cb : CallB room_1 s #[Value.ref b] RL 103 yX10_best cX10_best 2 (some .int) (ZV yX10_best cX10_best 2 (some .int)) (Rm1 6) 2 8192 1 := callB_of 1 S.2.2.2.2 (ZV_in my_X10_best.1) rfl rfl rfl (S.2.2.2.2 _ my_X10_best.2.1) (S.2.2.2.2 _ ml_L_103) my_X10_best.2.2.1 ⟨by decide, by decide⟩
    have hf := ZA1_in hw hA
    refine va_calli (va_runV (C := yX10_best.cls) (As := [.int (i32 (xN xs i 1))]) (rest := []) S (cN_X10_best (l := l) (D := D) (cA := cA) (sz := H.size) hdj hzz (xN_r xs i 1) hx h0 h200 hF3 b1) ⟨cb, S.2.2.2.2 _ mi_X10_best.1, S.2.2.2.2 _ mi_X10_best.2⟩ ⟨blind1, Zrecv hw zd_0 zc_X10, down1 hw hA⟩ rfl rfl hl.1 rfl (lv_room (Nat.le_of_ble_eq_true rfl)) dL_law_895 hcs) hw.2.2.2 (fun q _ h => hf q h) (fun q h => hf q h) (fun r' u t H1 locs1 ht hvm hp hB hsz hk hS => ?_)
    obtain ⟨a2', zz⟩ := u
    obtain ⟨hr', hr, hz', hok3, hdj2, q1, q2, ha2⟩ := hp
    obtain ⟨hO, hin⟩ := hB
    dsimp only at hz' hdj2 ha2 hO hin
    subst hz'
    subst hr'
    have hO : va_P D ZCL (Zws cA a2' (Zc z3)) t.heap := hO
    rw [ht] at hO
    have hE2 : ZE D cA a2' (LA s) s := by
      rw [ha2]
      exact ZE_adk (by decide) (ZE_adk (by decide) hw.1)
    have hw2 : ZW D cA a2' (LA s) (Zc z3) s H1 locs1 := ⟨hE2, hO, Zd hdj2 (fun k hk => hf _ (hin k hk)), hS⟩
    have e0 : a2' 0 = ad 0 := by rw [ha2]; rfl
    have e68 : a2' 68 = ad 68 := by rw [ha2]; rfl
    have hl2 := hl
    rw [← e0, ← e68] at hl2
    refine lv_aload_n S.1 S.2.1 dL_law_898 rfl (lv_at hl2 1 rfl) ?_
    refine Larg C hw2.2.2.2 hl2 1 (by decide) hi dL_law_899 dL_law_900 dL_law_901 ic_1 dL_law_902 dL_law_903 ?_
    refine YcallVi (rest := [.int (i32 r)]) S hw2 (c_X11_best hdj2 hok3 (xN_r xs i 1) c1) my_X11_best mi_X11_best ml_L_106 zd_68 zc_X11 rfl ⟨by decide, by decide⟩ hcs hl.1 rfl rfl (Nat.le_of_ble_eq_true rfl) dL_law_904 (fun _ hz2 H locs hw => ?_)
    refine Yicmp_eq (tgt := 1413) S hr hr dL_law_907 (by decide) (fun _ => ?_) (fun h => absurd rfl h)
    exact kk a2' z4 H locs e0 e68 hdj2 hz2 c2 c3 hw
  · refine W.widen (k := cells + 2) (n := slots + 8192) (by omega) (by omega) ?_
    exact L_best C hn hi hdj hzz hK hN hw hcs2 (t_bestOut hK hN hn _ hx) hl (fun z2 H1 locs1 g1 g2 g3 g4 => kk ad z2 H1 locs1 rfl rfl hdj g1 g2 g3 g4)
