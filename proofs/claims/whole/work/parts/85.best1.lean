/-! best's first call: what findBest and best then meet -/
def adp (ad a2 : Nat → Nat) : Prop := ∃ q1 q2, a2 = adk (adk ad 52 q1) 53 q2
def Rm1 (h : Nat) : Room := { frames := h, cells := 2, slots := 8192, locals := 60 * h }
abbrev ZP1 (D : va_G) (cA : Nat → ClassId) (ad : Nat → Nat) (sz : Nat) (avs : List Value) (z : ZS) : Array Value → State → Prop := va_Pc avs (fun U => U.heap.size = sz ∧ ZE D cA ad (ZA1 ad sz) U ∧ va_P D ZCL (Zws cA ad z) U.heap)
abbrev ZB1 (D : va_G) (cA : Nat → ClassId) (ad : Nat → Nat) (sz : Nat) (u : (Nat → Nat) × ZS) (t : State) : Prop := ZO D cA u.1 u.2 t ∧ ∀ k, k < 129 → ZA1 ad sz (u.1 k)
abbrev ZQ1v (D : va_G) (cA : Nat → ClassId) (ad : Nat → Nat) (sz : Nat) (z1 : ZI) : Array Value → State → Outcome → State → Prop := va_Qv (fun u : (Nat → Nat) × ZS => u.2 = Zc z1 ∧ Zok z1 ∧ Zdj u.1 ∧ adp ad u.1) (ZB1 D cA ad sz) (ZA1 ad sz)
abbrev ZQ1i (D : va_G) (cA : Nat → ClassId) (ad : Nat → Nat) (sz : Nat) (r : Int) (z1 : ZI) : Array Value → State → Outcome → State → Prop := va_Qi (fun (r' : Int32) (u : (Nat → Nat) × ZS) => r' = i32 r ∧ InR r ∧ u.2 = Zc z1 ∧ Zok z1 ∧ Zdj u.1 ∧ adp ad u.1) (ZB1 D cA ad sz) (ZA1 ad sz)
theorem Zok_nk {z : ZI} {k0 : Nat} (h : Zok z) : Zok (Znk z k0) := by
  refine ⟨fun k j hk => ?_, fun k j => ?_⟩
  · unfold Znk
    split
    · exact ⟨by decide, by decide⟩
    · split
      · exact ⟨by decide, by decide⟩
      · exact h.1 k j hk
  · unfold Znk
    split
    · exact ⟨by decide, by decide⟩
    · split
      · exact ⟨by decide, by decide⟩
      · exact h.2 k j
theorem blind1 {D : va_G} {cA : Nat → ClassId} {ad : Nat → Nat} {sz : Nat} {avs : List Value} {z : ZS} : FrameBlind (ZP1 D cA ad sz avs z) := by
  intro a U g mk q
  obtain ⟨q0, q1, ⟨qK, qT⟩, qP⟩ := q
  exact ⟨q0, q1, ⟨va_K.moved (u := U) (U := U.calling g mk a) (Vm.Alike.refl U.vm) qK, ZT.call (U := U) (V := U.calling g mk a) qT rfl rfl⟩, qP⟩
theorem ZT.A {ad : Nat → Nat} {A B : Nat → Prop} {U : State} {H : Heap} (h : ZT ad A U H) (hAB : ∀ q, B q → A q) : ZT ad B U H := by
  obtain ⟨h1, h2, h3, h4, h5, h6⟩ := h
  exact ⟨h1, h2.narrow hAB, h3.narrow hAB, h4.narrow hAB, h5, h6.narrow hAB⟩
theorem down1 {D : va_G} {cA : Nat → ClassId} {ad : Nat → Nat} {A : Nat → Prop} {avs : List Value} {z : ZS} {s : State} {H : Heap} {locs : List Loc} (hw : ZW D cA ad A z s H locs) (hA : ∀ q, s.heap.size ≤ q → A q) : ∀ U : State, U.heap = H → s.WarmedH U.vm → ZP1 D cA ad H.size avs z avs.toArray U := by
  intro U hU hW
  refine ⟨rfl, by rw [hU], ⟨va_K.moved hW.alike hw.1.1, ZT.down hw.1.2 hW hU hw.2.2.2 ?_⟩, by rw [hU]; exact hw.2.1⟩
  intro q h
  rcases h with ⟨k, hk, rfl⟩ | h
  · exact (Zd_of hw.2.2.1).2 k hk
  · exact hA q (Nat.le_trans hw.2.2.2.1 h)
theorem ZA1_in {D : va_G} {cA : Nat → ClassId} {ad : Nat → Nat} {A : Nat → Prop} {z : ZS} {s : State} {H : Heap} {locs : List Loc} (hw : ZW D cA ad A z s H locs) (hA : ∀ q, s.heap.size ≤ q → A q) : ∀ q, ZA1 ad H.size q → A q := by
  intro q h
  rcases h with ⟨k, hk, rfl⟩ | h
  · exact (Zd_of hw.2.2.1).2 k hk
  · exact hA q (Nat.le_trans hw.2.2.2.1 h)
set_option maxRecDepth 100000 in
set_option maxHeartbeats 4000000 in
theorem cN_X9_findBest {l : Launch} {D : va_G} {cA : Nat → ClassId} {ad : Nat → Nat} {sz : Nat} (hdj : Zdj ad) {z z1 : ZI} {x2 : Int} (hzz : Zok z) (hx2 : InR x2) (h0 : z 41 14 = 0) (hn : z 200 52 = 0) (hF : X9_findBest_b34 (Znk (Znk z 52) 53) x2 = some ((), z1)) : Met l yX9_findBest (ZV yX9_findBest cX9_findBest 4 none) (Rm1 5) (ZP1 D cA ad sz [.ref (ad 41), .ref (ad 11), .int (i32 x2)] (Zc z)) (ZQ1v D cA ad sz z1) 2 8192 (ZA1 ad sz) := by
  refine Met.ofW (cc := cX9_findBest) (maxL := 4) (ret := none) (by decide) rfl ?_
  intro p e s m args below meth c s₁ B hml hv
  obtain ⟨rfl, rfl, hE, hP⟩ := hv
  have hts := atoms_spec (ws := ZV yX9_findBest cX9_findBest 4 none) B.pre
  have hown : s.vm.findClass yX9_findBest.cls = some m.cls := findClass_of_methodNamed B.named
  have hl := lv_entry [Value.ref (ad 41), .ref (ad 11), .int (i32 x2)] (n := 4) (Nat.le_of_ble_eq_true rfl)
  rw [lg_entry_eq]
  generalize (lg_sl [Value.ref (ad 41), .ref (ad 11), .int (i32 x2)] ++ List.replicate (4 - (lg_sl [Value.ref (ad 41), .ref (ad 11), .int (i32 x2)]).length) Slot.unset).toArray = ls at hl ⊢
  have hl : lv_has ls 4 [(0, .ref (ad 41)), (1, .ref (ad 11)), (2, .int (i32 x2))] := hl
  have S : CallFix p m c cX9_findBest 4 s [Value.ref (ad 41), .ref (ad 11), .int (i32 x2)].toArray Ztbl RX9 := ⟨B.exec, B.bytes, hml, hown, fun w hw => hts w (List.mem_cons_of_mem _ hw)⟩
  have hr := B.returns
  have hlk := B.notSynchronized
  have hA : ∀ q, s.heap.size ≤ q → ZA1 ad s.heap.size q := fun q h => Or.inr h
  have hw : ZW D cA ad (ZA1 ad s.heap.size) (Zc z) s s.heap [] := ⟨hE, hP, Zd hdj (fun k hk => Or.inl ⟨k, hk, rfl⟩), va_S.rf⟩
  show W p l e (Rm1 5) s m _ below meth c s.heap [] 0 0 _ _
  refine lv_aload_n S.1 S.2.1 dX9_findBest_0 rfl (lv_at hl 0 rfl) ?_
  refine gg_X9_58 S hw dX9_findBest_1 ?_
  refine Yif_eq (tgt := 8) S (hzz.1 41 14 (by decide)) dX9_findBest_4 (by decide) (fun _ => ?_) (fun c1 => absurd h0 c1)
  refine lv_aload_n S.1 S.2.1 dX9_findBest_8 rfl (lv_at hl 0 rfl) ?_
  refine gf_X9_48 S hw dX9_findBest_9 ?_
  refine Yalen4 S hw hzz zd_52 (by decide) (by show (0 : Int) ≤ z 200 52; omega) dX9_findBest_12 ?_
  refine Yif_ne (tgt := 34) S (hzz.1 _ _ (by decide)) dX9_findBest_13 (by decide) (fun c1 => absurd hn c1) (fun _ => ?_)
  refine lv_aload_n S.1 S.2.1 dX9_findBest_16 rfl (lv_at hl 0 rfl) ?_
  refine Lrow (index := 48) (k0 := 52) (j0 := 12) S hw hA ⟨by decide, by decide⟩ (by decide) (by decide) chk_52 zd_52 rfl once_52 (by decide) (Ztb 269 (by decide +kernel) rfl) rfl (by decide +kernel) dX9_findBest_17 dX9_findBest_20 dX9_findBest_22 (fun q1 H1 locs1 hdj1 hw1 => ?_)
  refine lv_aload_n S.1 S.2.1 dX9_findBest_25 rfl (lv_at hl 0 rfl) ?_
  refine Lrow (ad := adk ad 52 q1) (index := 51) (k0 := 53) (j0 := 13) S hw1 hA ⟨by decide, by decide⟩ (by decide) (by decide) chk_53 zd_53 rfl once_53 (by decide) (Ztb 270 (by decide +kernel) rfl) rfl (by decide +kernel) dX9_findBest_26 dX9_findBest_29 dX9_findBest_31 (fun q2 H2 locs2 hdj2 hw2 => ?_)
  obtain ⟨a2, ha2⟩ : ∃ a, a = adk (adk ad 52 q1) 53 q2 := ⟨_, rfl⟩
  have e41 : a2 41 = ad 41 := by rw [ha2]; rfl
  have e11 : a2 11 = ad 11 := by rw [ha2]; rfl
  rw [← ha2] at hdj2 hw2
  rw [← e41, ← e11] at hl
  have hin := (Zd_of hw2.2.2.1).2
  refine wn_X9_findBest_b34 (RR := ((), z1)) (R := Rm1 5) S hr hlk ⟨by decide, by decide⟩ hdj2 ⟨by decide, by decide⟩ (fun t g1 g2 g3 => ⟨⟨(a2, Zc z1), rfl, ⟨rfl, g1, hdj2, q1, q2, ha2⟩, g2, hin⟩, g3⟩) _ _ _ _ _ hF hw2 (Zok_nk (Zok_nk hzz)) hx2 hl
set_option maxRecDepth 100000 in
set_option maxHeartbeats 4000000 in
theorem cN_X10_best {l : Launch} {D : va_G} {cA : Nat → ClassId} {ad : Nat → Nat} {sz : Nat} (hdj : Zdj ad) {z z1 z3 : ZI} {x1 r : Int} (hzz : Zok z) (hx1 : InR x1) (hx : 0 ≤ x1 ∧ x1 ≤ 5) (h0 : z 41 14 = 0) (hn : z 200 52 = 0) (hF3 : X9_findBest_b34 (Znk (Znk z 52) 53) (z 0 0) = some ((), z3)) (hF : bstX z3 x1 = some (r, z1)) : Met l yX10_best (ZV yX10_best cX10_best 2 (some .int)) (Rm1 6) (ZP1 D cA ad sz [.ref (ad 0), .int (i32 x1)] (Zc z)) (ZQ1i D cA ad sz r z1) 2 8192 (ZA1 ad sz) := by
  refine Met.ofW (cc := cX10_best) (maxL := 2) (ret := some .int) (by decide) rfl ?_
  intro p e s m args below meth c s₁ B hml hv
  obtain ⟨rfl, rfl, hE, hP⟩ := hv
  have hts := atoms_spec (ws := ZV yX10_best cX10_best 2 (some .int)) B.pre
  have hown : s.vm.findClass yX10_best.cls = some m.cls := findClass_of_methodNamed B.named
  have hl := lv_entry [Value.ref (ad 0), .int (i32 x1)] (n := 2) (Nat.le_of_ble_eq_true rfl)
  rw [lg_entry_eq]
  generalize (lg_sl [Value.ref (ad 0), .int (i32 x1)] ++ List.replicate (2 - (lg_sl [Value.ref (ad 0), .int (i32 x1)]).length) Slot.unset).toArray = ls at hl ⊢
  have hl : lv_has ls 2 [(0, .ref (ad 0)), (1, .int (i32 x1))] := hl
  have S : CallFix p m c cX10_best 2 s [Value.ref (ad 0), .int (i32 x1)].toArray Ztbl RX10 := ⟨B.exec, B.bytes, hml, hown, fun w hw => hts w (List.mem_cons_of_mem _ hw)⟩
  have hr := B.returns
  have hlk := B.notSynchronized
  have hA : ∀ q, s.heap.size ≤ q → ZA1 ad s.heap.size q := fun q h => Or.inr h
  have hw : ZW D cA ad (ZA1 ad s.heap.size) (Zc z) s s.heap [] := ⟨hE, hP, Zd hdj (fun k hk => Or.inl ⟨k, hk, rfl⟩), va_S.rf⟩
  show W p l e (Rm1 6) s m _ below meth c s.heap [] 0 0 _ _
  refine lv_iload_n S.1 S.2.1 dX10_best_0 rfl (lv_at hl 1 rfl) ?_
  refine Yif_lt (tgt := 9) S hx1 dX10_best_1 (by decide) (fun c1 => absurd c1 (by omega)) (fun _ => ?_)
  refine lv_iload_n S.1 S.2.1 dX10_best_4 rfl (lv_at hl 1 rfl) ?_
  refine lv_iconst (v := i32 5) S.1 S.2.1 dX10_best_5 ic_5 ?_
  refine Yicmp_le (tgt := 16) S hx1 r_5 dX10_best_6 (by decide) (fun _ => ?_) (fun c1 => absurd hx.2 c1)
  refine lv_aload_n S.1 S.2.1 dX10_best_16 rfl (lv_at hl 0 rfl) ?_
  refine gf_X10_55 S hw dX10_best_17 ?_
  refine lv_aload_n S.1 S.2.1 dX10_best_20 rfl (lv_at hl 0 rfl) ?_
  refine gf_X10_27 S hw dX10_best_21 ?_
  refine lv_aload_n S.1 S.2.1 dX10_best_24 rfl (lv_at hl 0 rfl) ?_
  refine gg_X10_7 S hw dX10_best_25 ?_
  have cb : CallB (Rm1 6) s [Value.ref (ad 0), .int (i32 x1)].toArray RX10 226 yX9_findBest cX9_findBest 4 none (ZV yX9_findBest cX9_findBest 4 none) (Rm1 5) 2 8192 2 := callB_of 2 S.2.2.2.2 (ZV_in my_X9_findBest.1) rfl rfl rfl (S.2.2.2.2 _ my_X9_findBest.2.1) (S.2.2.2.2 _ ml_X10_226) my_X9_findBest.2.2.1 ⟨by decide, by decide⟩
  refine va_callv (va_runV (C := yX9_findBest.cls) (As := [.ref (ad 11), .int (i32 (z 0 0))]) (rest := []) S (cN_X9_findBest (l := l) (D := D) (cA := cA) (sz := s.heap.size) hdj hzz (hzz.1 0 0 (by decide)) h0 hn hF3) ⟨cb, S.2.2.2.2 _ mi_X9_findBest.1, S.2.2.2.2 _ mi_X9_findBest.2⟩ ⟨blind1, Zrecv hw zd_41 zc_X9, down1 hw hA⟩ rfl rfl hl.1 rfl (lv_room (Nat.le_of_ble_eq_true rfl)) dX10_best_28 ⟨by decide, by decide⟩) hw.2.2.2 (fun q _ h => h) (fun q h => h) (fun u t H1 locs1 ht hvm hp hB hsz hk hS => ?_)
  obtain ⟨a2, zz⟩ := u
  obtain ⟨hz3, hok3, hdj2, q1, q2, ha2⟩ := hp
  obtain ⟨hO, hin⟩ := hB
  dsimp only at hz3 hdj2 ha2 hO hin
  subst hz3
  have hO : va_P D ZCL (Zws cA a2 (Zc z3)) t.heap := hO
  rw [ht] at hO
  have hE2 : ZE D cA a2 (ZA1 ad s.heap.size) s := by
    rw [ha2]
    exact ZE_adk (by decide) (ZE_adk (by decide) hE)
  have hw2 : ZW D cA a2 (ZA1 ad s.heap.size) (Zc z3) s H1 locs1 := ⟨hE2, hO, Zd hdj2 hin, hS⟩
  have e0 : a2 0 = ad 0 := by rw [ha2]; rfl
  rw [← e0] at hl
  exact wn_X10_best_31 (RR := (r, z1)) (R := Rm1 6) S hr hlk ⟨by decide, by decide⟩ hdj2 ⟨by decide, by decide⟩ (fun t g1 g2 g3 g4 => ⟨⟨i32 r, (a2, Zc z1), rfl, ⟨rfl, g1, rfl, g2, hdj2, q1, q2, ha2⟩, g3, hin⟩, g4⟩) hx1 hF hw2 hok3 hl
