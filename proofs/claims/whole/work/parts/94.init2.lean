/-! the constructors that make objects -/
theorem Zz_zup {z : ZI} {n k0 : Nat} {i v : Int} (h : Zzero z n) (hk : k0 < n) (hn : n ≤ 129) : Zzero (Zup z k0 i v) n := by
  refine ⟨fun k j a b => ?_, fun k j a => ?_, fun j => ?_⟩
  · unfold Zup
    rw [if_neg (by omega)]
    exact h.1 k j a b
  · unfold Zup
    rw [if_neg (by omega)]
    exact h.2.1 k j a
  · unfold Zup
    rw [if_neg (by omega)]
    exact h.2.2 j
set_option maxRecDepth 100000 in
set_option maxHeartbeats 4000000 in
theorem c_X6_init {l : Launch} {D : va_G} {cA : Nat → ClassId} {ad : Nat → Nat} {A : Nat → Prop} {g : Nat → Bool} {z : ZI} (hz0 : Zzero z 31) (hg : ∀ k, 31 ≤ k → g k = false) : Met l yX6_init (ZV yX6_init cX6_init 1 none) (Rmi 2 2 68) (ZPi D cA ad A g 31 [.ref (ad 30)] z) (ZQn D cA ad A g 31 33 (Zup z 30 4 (-9))) 2 68 A := by
  refine Met.ofW (cc := cX6_init) (maxL := 1) (ret := none) (by decide) rfl ?_
  intro p e s m args below meth c s₁ B hml hv2
  obtain ⟨rfl, hA, hE, hP, hD⟩ := hv2
  have hts := atoms_spec (ws := ZV yX6_init cX6_init 1 none) B.pre
  have hown : s.vm.findClass yX6_init.cls = some m.cls := findClass_of_methodNamed B.named
  have hin0 : meth.name = "<init>" := (name_of_methodNamed B.named B.method).1
  have hl := lv_entry [Value.ref (ad 30)] (n := 1) (Nat.le_of_ble_eq_true rfl)
  rw [lg_entry_eq]
  generalize (lg_sl [Value.ref (ad 30)] ++ List.replicate (1 - (lg_sl [Value.ref (ad 30)]).length) Slot.unset).toArray = ls at hl ⊢
  have hl : lv_has ls 1 [(0, .ref (ad 30))] := hl
  have S : CallFix p m c cX6_init 1 s [Value.ref (ad 30)].toArray Ztbl RX6 := ⟨B.exec, B.bytes, hml, hown, fun w hw => hts w (List.mem_cons_of_mem _ hw)⟩
  have hr := B.returns
  have hlk := B.notSynchronized
  have hA2 : ∀ q, A q → A q := fun q h => h
  have hw : PW D cA ad A (Zc z) (gto g 31 31) 31 s s.heap [] := by
    rw [gto_0]
    exact ⟨hE, hP, hD, va_S.rf, by decide, hg⟩
  have hea : ∀ k, k < 31 ∨ 129 ≤ k → ad k = ad k := fun k _ => rfl
  show W p l e (Rmi 2 2 68) s m _ below meth c s.heap [] 0 0 _ _
  refine lv_aload_n S.1 S.2.1 dX6_init_0 rfl (lv_at hl 0 rfl) ?_
  refine W.objInit S.1 S.2.1 S.2.2.2.1 (S.2.2.2.2 _ (Ztb 151 (by decide +kernel) rfl : Cond.methodLink RX6 3 Lib.objectInit ∈ Ztbl)) (S.2.2.2.2 _ oi_i) (S.2.2.2.2 _ oi_c) rfl (by rw [hml]; exact hl.1) rfl dX6_init_1 (Nat.le_of_ble_eq_true rfl) (Nat.le_of_ble_eq_true rfl) ?_
  refine W.eq (g2 := F0 m 4 ls []) rfl ?_
  refine lv_aload_n S.1 S.2.1 dX6_init_4 rfl (lv_at hl 0 rfl) ?_
  refine va_ldcS S.1 S.2.1 S.2.2.2.1 hw.1.2.2.2.2.2.1 dX6_init_5 ?_
  refine va_calli (va_runV (C := yJ0_length_8abf5.cls) (As := []) (rest := [.ref (ad 30)]) S (c_lengthP (l := l) (D := D) (cA := cA) (ad := ad) (A := A)) ⟨Zcb (h := 1) S my_J0_length_8abf5 (Ztb 153 (by decide +kernel) rfl) ⟨by decide, by decide⟩, S.2.2.2.2 _ mi_J0_length_8abf5.1, S.2.2.2.2 _ mi_J0_length_8abf5.2⟩ ⟨ZPe_blind, vk_recv (i := 0) hw.1.2.2.2.2.2.2 (by decide) hw.2.2.2.1, ZPe_down hw.1 hw.2.2.2.1⟩ rfl rfl hl.1 rfl (lv_room (Nat.le_of_ble_eq_true rfl)) dX6_init_7 ⟨by decide, by decide⟩) hw.2.2.2.1 (fun q _ h => h.elim) (fun q h => h.elim) (fun r1 u t H1 locs1 ht hvm hp hB hsz hk hS => ?_)
  subst hp
  replace hw : PW D cA ad A (Zc z) (gto g 31 31) 31 s H1 locs1 := ⟨hw.1, hw.2.1.kept (fun k x hx => hk x.1 ((hw.2.1 k x hx).lt) (fun h => h)), hw.2.2.1, hS, hw.2.2.2.2⟩
  refine ProwF (n := 31) (k1 := 30) (j0 := 0) (a := 31) (t := 0) (len := 8) (i := 0) (N2 := 8) (index := 19) (C := RX6) (T := TX6) (N := 5) (ty := .array .int) S hw hA zd_31 (Zz_1 hz0 (by decide)) (Zz_2 hz0) (Zz_3 hz0) ac_0 rfl (fun _ => rfl) (fun _ _ h => h) (fun _ => rfl) (by decide) (by decide) (by decide) ⟨by decide, by decide⟩ (by decide) (by decide) (by decide +kernel) zd_30 rfl zc_X6 iX6 tyX6 tyX6_ok nmX6 (by decide) (Ztb 163 (by decide +kernel) rfl) rfl hin0 rfl (by decide +kernel) (fun _ => rfl) (fun _ => rfl) dX6_init_10 dX6_init_12 (fun q H locs hw => ?_)
  replace hz0 := Zz_up hz0 (Nat.le_succ _)
  obtain ⟨ad1, hw, ea⟩ : ∃ a : Nat → Nat, PW D cA a A (Zc z) (gto g 31 32) 32 s H locs ∧ ∀ k, k ≠ 31 → a k = ad k := ⟨_, hw, fun k hk => if_neg hk⟩
  replace hea : ∀ k, k < 31 ∨ 129 ≤ k → ad1 k = ad k := fun k hk => (ea k (by omega)).trans (hea k hk)
  rw [← ea 30 (by decide)] at hl
  clear ea
  refine lv_aload_n S.1 S.2.1 dX6_init_15 rfl (lv_at hl 0 rfl) ?_
  refine lv_bipush (v := i32 60) S.1 S.2.1 dX6_init_16 (by decide) ?_
  refine ProwF (n := 32) (k1 := 30) (j0 := 1) (a := 31) (t := 1) (len := 60) (i := 1) (N2 := 60) (index := 23) (C := RX6) (T := TX6) (N := 5) (ty := .array .byte) S hw hA zd_32 (Zz_1 hz0 (by decide)) (Zz_2 hz0) (Zz_3 hz0) ac_1 rfl (fun _ => rfl) (fun _ _ h => h) (fun _ => rfl) (by decide) (by decide) (by decide) ⟨by decide, by decide⟩ (by decide) (by decide) (by decide +kernel) zd_30 rfl zc_X6 iX6 tyX6 tyX6_ok nmX6 (by decide) (Ztb 165 (by decide +kernel) rfl) rfl hin0 rfl (by decide +kernel) (fun _ => rfl) (fun _ => rfl) dX6_init_18 dX6_init_20 (fun q H locs hw => ?_)
  replace hz0 := Zz_up hz0 (Nat.le_succ _)
  obtain ⟨ad2, hw, ea⟩ : ∃ a : Nat → Nat, PW D cA a A (Zc z) (gto g 31 33) 33 s H locs ∧ ∀ k, k ≠ 32 → a k = ad1 k := ⟨_, hw, fun k hk => if_neg hk⟩
  replace hea : ∀ k, k < 31 ∨ 129 ≤ k → ad2 k = ad k := fun k hk => (ea k (by omega)).trans (hea k hk)
  rw [← ea 30 (by decide)] at hl
  clear ea
  refine lv_aload_n S.1 S.2.1 dX6_init_23 rfl (lv_at hl 0 rfl) ?_
  refine lv_bipush (v := i32 (-9)) S.1 S.2.1 dX6_init_24 (by decide) ?_
  refine va_put (v := .int (i32 (-9))) (ty := .int) S.1 S.2.1 S.2.2.2.2 iX6 tyX6 tyX6_ok nmX6 S.2.2.2.1 hw.1.1 hw.2.1 hw.2.2.1 hw.2.2.2.1 30 (Zqw_get zd_30 (by decide)) zc_X6 4 (by decide) (S.2.2.2.2 _ (Ztb 168 (by decide +kernel) rfl : Cond.fieldLink RX6 27 (TX6 4).1 (TX6 4).2.1 (TX6 4).2.2.1 ∈ Ztbl)) (fun _ h => h) rfl (by decide +kernel) rfl rfl (by rw [Zfvp_len]; decide) dX6_init_26 (fun H1 locs1 hP1 hD1 hS1 => ?_)
  rw [Zqw_seti zd_30 rfl (by decide) (by decide), Zc_up (by decide)] at hP1 hD1
  replace hw : PW D cA ad2 A (Zc (Zup z 30 4 (-9))) (gto g 31 33) 33 s H1 locs1 := ⟨hw.1, hP1, hD1, hS1, hw.2.2.2.2⟩
  replace hz0 := Zz_zup (k0 := 30) (i := 4) (v := (-9)) hz0 (by decide) (by decide)
  exact W.vret S.1 S.2.1 hr (fun t ht hW => ⟨⟨ad2, rfl, hea, by rw [ht]; exact hw.2.1, hw.2.2.1⟩, hw.2.2.2.1.F ht⟩) hw.2.2.2.1.2.2 dX6_init_29 hlk
set_option maxRecDepth 100000 in
set_option maxHeartbeats 4000000 in
theorem c_X7_init {l : Launch} {D : va_G} {cA : Nat → ClassId} {ad : Nat → Nat} {A : Nat → Prop} {g : Nat → Bool} {z : ZI} (hz0 : Zzero z 25) (hg : ∀ k, 25 ≤ k → g k = false) : Met l yX7_init (ZV yX7_init cX7_init 1 none) (Rmi 3 8 2023) (ZPi D cA ad A g 25 [.ref (ad 24)] z) (ZQn D cA ad A g 25 33 (Zup z 30 4 (-9))) 8 2023 A := by
  refine Met.ofW (cc := cX7_init) (maxL := 1) (ret := none) (by decide) rfl ?_
  intro p e s m args below meth c s₁ B hml hv2
  obtain ⟨rfl, hA, hE, hP, hD⟩ := hv2
  have hts := atoms_spec (ws := ZV yX7_init cX7_init 1 none) B.pre
  have hown : s.vm.findClass yX7_init.cls = some m.cls := findClass_of_methodNamed B.named
  have hin0 : meth.name = "<init>" := (name_of_methodNamed B.named B.method).1
  have hl := lv_entry [Value.ref (ad 24)] (n := 1) (Nat.le_of_ble_eq_true rfl)
  rw [lg_entry_eq]
  generalize (lg_sl [Value.ref (ad 24)] ++ List.replicate (1 - (lg_sl [Value.ref (ad 24)]).length) Slot.unset).toArray = ls at hl ⊢
  have hl : lv_has ls 1 [(0, .ref (ad 24))] := hl
  have S : CallFix p m c cX7_init 1 s [Value.ref (ad 24)].toArray Ztbl RX7 := ⟨B.exec, B.bytes, hml, hown, fun w hw => hts w (List.mem_cons_of_mem _ hw)⟩
  have hr := B.returns
  have hlk := B.notSynchronized
  have hA2 : ∀ q, A q → A q := fun q h => h
  have hw : PW D cA ad A (Zc z) (gto g 25 25) 25 s s.heap [] := by
    rw [gto_0]
    exact ⟨hE, hP, hD, va_S.rf, by decide, hg⟩
  have hea : ∀ k, k < 25 ∨ 129 ≤ k → ad k = ad k := fun k _ => rfl
  show W p l e (Rmi 3 8 2023) s m _ below meth c s.heap [] 0 0 _ _
  refine lv_aload_n S.1 S.2.1 dX7_init_0 rfl (lv_at hl 0 rfl) ?_
  refine W.objInit S.1 S.2.1 S.2.2.2.1 (S.2.2.2.2 _ (Ztb 145 (by decide +kernel) rfl : Cond.methodLink RX7 3 Lib.objectInit ∈ Ztbl)) (S.2.2.2.2 _ oi_i) (S.2.2.2.2 _ oi_c) rfl (by rw [hml]; exact hl.1) rfl dX7_init_1 (Nat.le_of_ble_eq_true rfl) (Nat.le_of_ble_eq_true rfl) ?_
  refine W.eq (g2 := F0 m 4 ls []) rfl ?_
  refine lv_aload_n S.1 S.2.1 dX7_init_4 rfl (lv_at hl 0 rfl) ?_
  refine lv_bipush (v := i32 60) S.1 S.2.1 dX7_init_5 (by decide) ?_
  refine ProwF (n := 25) (k1 := 24) (j0 := 0) (a := 25) (t := 1) (len := 60) (i := 1) (N2 := 60) (index := 9) (C := RX7) (T := TX7) (N := 8) (ty := .array .byte) S hw hA zd_25 (Zz_1 hz0 (by decide)) (Zz_2 hz0) (Zz_3 hz0) ac_1 rfl (fun _ => rfl) (fun _ _ h => h) (fun _ => rfl) (by decide) (by decide) (by decide) ⟨by decide, by decide⟩ (by decide) (by decide) (by decide +kernel) zd_24 rfl zc_X7 iX7 tyX7 tyX7_ok nmX7 (by decide) (Ztb 182 (by decide +kernel) rfl) rfl hin0 rfl (by decide +kernel) (fun _ => rfl) (fun _ => rfl) dX7_init_7 dX7_init_9 (fun q H locs hw => ?_)
  replace hz0 := Zz_up hz0 (Nat.le_succ _)
  obtain ⟨ad1, hw, ea⟩ : ∃ a : Nat → Nat, PW D cA a A (Zc z) (gto g 25 26) 26 s H locs ∧ ∀ k, k ≠ 25 → a k = ad k := ⟨_, hw, fun k hk => if_neg hk⟩
  replace hea : ∀ k, k < 25 ∨ 129 ≤ k → ad1 k = ad k := fun k hk => (ea k (by omega)).trans (hea k hk)
  rw [← ea 24 (by decide)] at hl
  clear ea
  refine lv_aload_n S.1 S.2.1 dX7_init_12 rfl (lv_at hl 0 rfl) ?_
  refine lv_sipush (v := i32 1800) S.1 S.2.1 dX7_init_13 (by decide) ?_
  refine ProwF (n := 26) (k1 := 24) (j0 := 3) (a := 25) (t := 1) (len := 1800) (i := 1) (N2 := 1800) (index := 15) (C := RX7) (T := TX7) (N := 8) (ty := .array .byte) S hw hA zd_26 (Zz_1 hz0 (by decide)) (Zz_2 hz0) (Zz_3 hz0) ac_1 rfl (fun _ => rfl) (fun _ _ h => h) (fun _ => rfl) (by decide) (by decide) (by decide) ⟨by decide, by decide⟩ (by decide) (by decide) (by decide +kernel) zd_24 rfl zc_X7 iX7 tyX7 tyX7_ok nmX7 (by decide) (Ztb 187 (by decide +kernel) rfl) rfl hin0 rfl (by decide +kernel) (fun _ => rfl) (fun _ => rfl) dX7_init_16 dX7_init_18 (fun q H locs hw => ?_)
  replace hz0 := Zz_up hz0 (Nat.le_succ _)
  obtain ⟨ad2, hw, ea⟩ : ∃ a : Nat → Nat, PW D cA a A (Zc z) (gto g 25 27) 27 s H locs ∧ ∀ k, k ≠ 26 → a k = ad1 k := ⟨_, hw, fun k hk => if_neg hk⟩
  replace hea : ∀ k, k < 25 ∨ 129 ≤ k → ad2 k = ad k := fun k hk => (ea k (by omega)).trans (hea k hk)
  rw [← ea 24 (by decide)] at hl
  clear ea
  refine lv_aload_n S.1 S.2.1 dX7_init_21 rfl (lv_at hl 0 rfl) ?_
  refine lv_bipush (v := i32 30) S.1 S.2.1 dX7_init_22 (by decide) ?_
  refine ProwF (n := 27) (k1 := 24) (j0 := 4) (a := 25) (t := 0) (len := 30) (i := 0) (N2 := 30) (index := 18) (C := RX7) (T := TX7) (N := 8) (ty := .array .int) S hw hA zd_27 (Zz_1 hz0 (by decide)) (Zz_2 hz0) (Zz_3 hz0) ac_0 rfl (fun _ => rfl) (fun _ _ h => h) (fun _ => rfl) (by decide) (by decide) (by decide) ⟨by decide, by decide⟩ (by decide) (by decide) (by decide +kernel) zd_24 rfl zc_X7 iX7 tyX7 tyX7_ok nmX7 (by decide) (Ztb 188 (by decide +kernel) rfl) rfl hin0 rfl (by decide +kernel) (fun _ => rfl) (fun _ => rfl) dX7_init_24 dX7_init_26 (fun q H locs hw => ?_)
  replace hz0 := Zz_up hz0 (Nat.le_succ _)
  obtain ⟨ad3, hw, ea⟩ : ∃ a : Nat → Nat, PW D cA a A (Zc z) (gto g 25 28) 28 s H locs ∧ ∀ k, k ≠ 27 → a k = ad2 k := ⟨_, hw, fun k hk => if_neg hk⟩
  replace hea : ∀ k, k < 25 ∨ 129 ≤ k → ad3 k = ad k := fun k hk => (ea k (by omega)).trans (hea k hk)
  rw [← ea 24 (by decide)] at hl
  clear ea
  refine lv_aload_n S.1 S.2.1 dX7_init_29 rfl (lv_at hl 0 rfl) ?_
  refine lv_bipush (v := i32 30) S.1 S.2.1 dX7_init_30 (by decide) ?_
  refine ProwF (n := 28) (k1 := 24) (j0 := 5) (a := 25) (t := 0) (len := 30) (i := 0) (N2 := 30) (index := 22) (C := RX7) (T := TX7) (N := 8) (ty := .array .int) S hw hA zd_28 (Zz_1 hz0 (by decide)) (Zz_2 hz0) (Zz_3 hz0) ac_0 rfl (fun _ => rfl) (fun _ _ h => h) (fun _ => rfl) (by decide) (by decide) (by decide) ⟨by decide, by decide⟩ (by decide) (by decide) (by decide +kernel) zd_24 rfl zc_X7 iX7 tyX7 tyX7_ok nmX7 (by decide) (Ztb 189 (by decide +kernel) rfl) rfl hin0 rfl (by decide +kernel) (fun _ => rfl) (fun _ => rfl) dX7_init_32 dX7_init_34 (fun q H locs hw => ?_)
  replace hz0 := Zz_up hz0 (Nat.le_succ _)
  obtain ⟨ad4, hw, ea⟩ : ∃ a : Nat → Nat, PW D cA a A (Zc z) (gto g 25 29) 29 s H locs ∧ ∀ k, k ≠ 28 → a k = ad3 k := ⟨_, hw, fun k hk => if_neg hk⟩
  replace hea : ∀ k, k < 25 ∨ 129 ≤ k → ad4 k = ad k := fun k hk => (ea k (by omega)).trans (hea k hk)
  rw [← ea 24 (by decide)] at hl
  clear ea
  refine lv_aload_n S.1 S.2.1 dX7_init_37 rfl (lv_at hl 0 rfl) ?_
  refine lv_bipush (v := i32 30) S.1 S.2.1 dX7_init_38 (by decide) ?_
  refine ProwF (n := 29) (k1 := 24) (j0 := 6) (a := 25) (t := 0) (len := 30) (i := 0) (N2 := 30) (index := 25) (C := RX7) (T := TX7) (N := 8) (ty := .array .int) S hw hA zd_29 (Zz_1 hz0 (by decide)) (Zz_2 hz0) (Zz_3 hz0) ac_0 rfl (fun _ => rfl) (fun _ _ h => h) (fun _ => rfl) (by decide) (by decide) (by decide) ⟨by decide, by decide⟩ (by decide) (by decide) (by decide +kernel) zd_24 rfl zc_X7 iX7 tyX7 tyX7_ok nmX7 (by decide) (Ztb 190 (by decide +kernel) rfl) rfl hin0 rfl (by decide +kernel) (fun _ => rfl) (fun _ => rfl) dX7_init_40 dX7_init_42 (fun q H locs hw => ?_)
  replace hz0 := Zz_up hz0 (Nat.le_succ _)
  obtain ⟨ad5, hw, ea⟩ : ∃ a : Nat → Nat, PW D cA a A (Zc z) (gto g 25 30) 30 s H locs ∧ ∀ k, k ≠ 29 → a k = ad4 k := ⟨_, hw, fun k hk => if_neg hk⟩
  replace hea : ∀ k, k < 25 ∨ 129 ≤ k → ad5 k = ad k := fun k hk => (ea k (by omega)).trans (hea k hk)
  rw [← ea 24 (by decide)] at hl
  clear ea
  refine lv_aload_n S.1 S.2.1 dX7_init_45 rfl (lv_at hl 0 rfl) ?_
  refine Pobj (n := 30) (a := 25) (n2 := 33) (k1 := 24) (j0 := 7) (h := 2) (mc := 2) (ms := 68) (ix := 28) (iy := 30) (index := 31) (C := RX6) (T := TX6) (N := 5) (Ck := RX7) (Tk := TX7) (Nk := 8) (tyr := .object "CampCards$Reader") (y := yX6_init) (b := cX6_init) (z2 := (Zup z 30 4 (-9))) S hw hA hz0 zd_30 (by decide) zc_X6 iX6 tyX6 tyX6_ok (Ztb 146 (by decide +kernel) rfl) (Ztb 147 (by decide +kernel) rfl) (Ztb 6 (by decide +kernel) rfl) (fun j hj => by rcases (show j = 0 ∨ j = 1 ∨ j = 2 ∨ j = 3 ∨ j = 4 by omega) with rfl | rfl | rfl | rfl | rfl <;> rfl) (fun ad1 => c_X6_init (ad := ad1) (Zz_up hz0 (Nat.le_succ _)) (fun k hk => hw.2.2.2.2.2 k (by omega))) my_X6_init rfl (Ztb 149 (by decide +kernel) rfl) (Ztb 148 (by decide +kernel) rfl) ⟨by decide, by decide⟩ ⟨by decide, by decide⟩ hl.1 (Nat.le_of_ble_eq_true rfl) (by decide) ⟨by decide, by decide⟩ (by decide) (by decide +kernel) zd_24 rfl zc_X7 iX7 tyX7 tyX7_ok nmX7 (by decide) (Ztb 191 (by decide +kernel) rfl) rfl hin0 rfl (by decide +kernel) (fun _ => rfl) (fun _ => rfl) dX7_init_46 dX7_init_49 dX7_init_50 dX7_init_53 (fun ad6 H locs ea hw => ?_)
  replace hz0 : Zzero (Zup z 30 4 (-9)) 33 := by first | exact Zz_up hz0 (by decide) | exact Zz_fi (Zz_up hz0 (by decide)) (by decide) (by decide) | exact Zz_fi (Zz_fi (Zz_up hz0 (by decide)) (by decide) (by decide)) (by decide) (by decide) | exact Zz_zup (Zz_up hz0 (by decide)) (by decide) (by decide)
  replace hea : ∀ k, k < 25 ∨ 129 ≤ k → ad6 k = ad k := fun k hk => (ea k (by omega)).trans (hea k hk)
  rw [← ea 24 (by decide)] at hl
  clear ea
  exact W.vret S.1 S.2.1 hr (fun t ht hW => ⟨⟨ad6, rfl, hea, by rw [ht]; exact hw.2.1, hw.2.2.1⟩, hw.2.2.2.1.F ht⟩) hw.2.2.2.1.2.2 dX7_init_56 hlk
set_option maxRecDepth 100000 in
set_option maxHeartbeats 4000000 in
theorem c_X10_init {l : Launch} {D : va_G} {cA : Nat → ClassId} {ad : Nat → Nat} {A : Nat → Prop} {g : Nat → Bool} {z : ZI} (hz0 : Zzero z 1) (hg : ∀ k, 1 ≤ k → g k = false) : Met l yX10_init (ZV yX10_init cX10_init 1 none) (Rmi 4 67 5161) (ZPi D cA ad A g 1 [.ref (ad 0)] z) (ZQn D cA ad A g 1 68 (Zfi (Zfi (Zup (Zfi (Zfi (Zfi (Zup z 0 0 0) 3 144 50) 5 144 (-9)) 14 144 (-9)) 30 4 (-9)) 45 4 6) 55 30 (-9))) 67 5161 A := by
  refine Met.ofW (cc := cX10_init) (maxL := 1) (ret := none) (by decide) rfl ?_
  intro p e s m args below meth c s₁ B hml hv2
  obtain ⟨rfl, hA, hE, hP, hD⟩ := hv2
  have hts := atoms_spec (ws := ZV yX10_init cX10_init 1 none) B.pre
  have hown : s.vm.findClass yX10_init.cls = some m.cls := findClass_of_methodNamed B.named
  have hin0 : meth.name = "<init>" := (name_of_methodNamed B.named B.method).1
  have hl := lv_entry [Value.ref (ad 0)] (n := 1) (Nat.le_of_ble_eq_true rfl)
  rw [lg_entry_eq]
  generalize (lg_sl [Value.ref (ad 0)] ++ List.replicate (1 - (lg_sl [Value.ref (ad 0)]).length) Slot.unset).toArray = ls at hl ⊢
  have hl : lv_has ls 1 [(0, .ref (ad 0))] := hl
  have S : CallFix p m c cX10_init 1 s [Value.ref (ad 0)].toArray Ztbl RX10 := ⟨B.exec, B.bytes, hml, hown, fun w hw => hts w (List.mem_cons_of_mem _ hw)⟩
  have hr := B.returns
  have hlk := B.notSynchronized
  have hA2 : ∀ q, A q → A q := fun q h => h
  have hw : PW D cA ad A (Zc z) (gto g 1 1) 1 s s.heap [] := by
    rw [gto_0]
    exact ⟨hE, hP, hD, va_S.rf, by decide, hg⟩
  have hea : ∀ k, k < 1 ∨ 129 ≤ k → ad k = ad k := fun k _ => rfl
  show W p l e (Rmi 4 67 5161) s m _ below meth c s.heap [] 0 0 _ _
  refine lv_aload_n S.1 S.2.1 dX10_init_0 rfl (lv_at hl 0 rfl) ?_
  refine W.objInit S.1 S.2.1 S.2.2.2.1 (S.2.2.2.2 _ (Ztb 27 (by decide +kernel) rfl : Cond.methodLink RX10 1 Lib.objectInit ∈ Ztbl)) (S.2.2.2.2 _ oi_i) (S.2.2.2.2 _ oi_c) rfl (by rw [hml]; exact hl.1) rfl dX10_init_1 (Nat.le_of_ble_eq_true rfl) (Nat.le_of_ble_eq_true rfl) ?_
  refine W.eq (g2 := F0 m 4 ls []) rfl ?_
  refine lv_aload_n S.1 S.2.1 dX10_init_4 rfl (lv_at hl 0 rfl) ?_
  refine lv_iconst (v := i32 0) S.1 S.2.1 dX10_init_5 (by decide) ?_
  refine va_put (v := .int (i32 0)) (ty := .int) S.1 S.2.1 S.2.2.2.2 iX10 tyX10 tyX10_ok nmX10 S.2.2.2.1 hw.1.1 hw.2.1 hw.2.2.1 hw.2.2.2.1 0 (Zqw_get zd_0 (by decide)) zc_X10 0 (by decide) (S.2.2.2.2 _ (Ztb 376 (by decide +kernel) rfl : Cond.fieldLink RX10 7 (TX10 0).1 (TX10 0).2.1 (TX10 0).2.2.1 ∈ Ztbl)) (fun _ h => h) rfl (by decide +kernel) rfl rfl (by rw [Zfvp_len]; decide) dX10_init_6 (fun H1 locs1 hP1 hD1 hS1 => ?_)
  rw [Zqw_seti zd_0 rfl (by decide) (by decide), Zc_up (by decide)] at hP1 hD1
  replace hw : PW D cA ad A (Zc (Zup z 0 0 0)) (gto g 1 1) 1 s H1 locs1 := ⟨hw.1, hP1, hD1, hS1, hw.2.2.2.2⟩
  replace hz0 := Zz_zup (k0 := 0) (i := 0) (v := 0) hz0 (by decide) (by decide)
  refine lv_aload_n S.1 S.2.1 dX10_init_9 rfl (lv_at hl 0 rfl) ?_
  refine lv_bipush (v := i32 7) S.1 S.2.1 dX10_init_10 (by decide) ?_
  refine ProwF (n := 1) (k1 := 0) (j0 := 1) (a := 1) (t := 0) (len := 7) (i := 0) (N2 := 7) (index := 13) (C := RX10) (T := TX10) (N := 11) (ty := .array .int) S hw hA zd_1 (Zz_1 hz0 (by decide)) (Zz_2 hz0) (Zz_3 hz0) ac_0 rfl (fun _ => rfl) (fun _ _ h => h) (fun _ => rfl) (by decide) (by decide) (by decide) ⟨by decide, by decide⟩ (by decide) (by decide) (by decide +kernel) zd_0 rfl zc_X10 iX10 tyX10 tyX10_ok nmX10 (by decide) (Ztb 377 (by decide +kernel) rfl) rfl hin0 rfl (by decide +kernel) (fun _ => rfl) (fun _ => rfl) dX10_init_12 dX10_init_14 (fun q H locs hw => ?_)
  replace hz0 := Zz_up hz0 (Nat.le_succ _)
  obtain ⟨ad1, hw, ea⟩ : ∃ a : Nat → Nat, PW D cA a A (Zc (Zup z 0 0 0)) (gto g 1 2) 2 s H locs ∧ ∀ k, k ≠ 1 → a k = ad k := ⟨_, hw, fun k hk => if_neg hk⟩
  replace hea : ∀ k, k < 1 ∨ 129 ≤ k → ad1 k = ad k := fun k hk => (ea k (by omega)).trans (hea k hk)
  rw [← ea 0 (by decide)] at hl
  clear ea
  refine lv_aload_n S.1 S.2.1 dX10_init_17 rfl (lv_at hl 0 rfl) ?_
  refine Pobj (n := 2) (a := 1) (n2 := 11) (k1 := 0) (j0 := 2) (h := 1) (mc := 8) (ms := 1108) (ix := 17) (iy := 19) (index := 20) (C := RX4) (T := TX4) (N := 11) (Ck := RX10) (Tk := TX10) (Nk := 11) (tyr := .object "CampCards$Land") (y := yX4_init) (b := cX4_init) (z2 := (Zfi (Zfi (Zup z 0 0 0) 3 144 50) 5 144 (-9))) S hw hA hz0 zd_2 (by decide) zc_X4 iX4 tyX4 tyX4_ok (Ztb 30 (by decide +kernel) rfl) (Ztb 31 (by decide +kernel) rfl) (Ztb 2 (by decide +kernel) rfl) (fun j hj => by rcases (show j = 0 ∨ j = 1 ∨ j = 2 ∨ j = 3 ∨ j = 4 ∨ j = 5 ∨ j = 6 ∨ j = 7 ∨ j = 8 ∨ j = 9 ∨ j = 10 by omega) with rfl | rfl | rfl | rfl | rfl | rfl | rfl | rfl | rfl | rfl | rfl <;> rfl) (fun ad1 => c_X4_init (ad := ad1) (Zz_up hz0 (Nat.le_succ _)) (fun k hk => hw.2.2.2.2.2 k (by omega))) my_X4_init rfl (Ztb 33 (by decide +kernel) rfl) (Ztb 32 (by decide +kernel) rfl) ⟨by decide, by decide⟩ ⟨by decide, by decide⟩ hl.1 (Nat.le_of_ble_eq_true rfl) (by decide) ⟨by decide, by decide⟩ (by decide) (by decide +kernel) zd_0 rfl zc_X10 iX10 tyX10 tyX10_ok nmX10 (by decide) (Ztb 378 (by decide +kernel) rfl) rfl hin0 rfl (by decide +kernel) (fun _ => rfl) (fun _ => rfl) dX10_init_18 dX10_init_21 dX10_init_22 dX10_init_25 (fun ad2 H locs ea hw => ?_)
  replace hz0 : Zzero (Zfi (Zfi (Zup z 0 0 0) 3 144 50) 5 144 (-9)) 11 := by first | exact Zz_up hz0 (by decide) | exact Zz_fi (Zz_up hz0 (by decide)) (by decide) (by decide) | exact Zz_fi (Zz_fi (Zz_up hz0 (by decide)) (by decide) (by decide)) (by decide) (by decide) | exact Zz_zup (Zz_up hz0 (by decide)) (by decide) (by decide)
  replace hea : ∀ k, k < 1 ∨ 129 ≤ k → ad2 k = ad k := fun k hk => (ea k (by omega)).trans (hea k hk)
  rw [← ea 0 (by decide)] at hl
  clear ea
  refine lv_aload_n S.1 S.2.1 dX10_init_28 rfl (lv_at hl 0 rfl) ?_
  refine Pobj (n := 11) (a := 1) (n2 := 24) (k1 := 0) (j0 := 3) (h := 1) (mc := 12) (ms := 1014) (ix := 24) (iy := 26) (index := 27) (C := RX3) (T := TX3) (N := 15) (Ck := RX10) (Tk := TX10) (Nk := 11) (tyr := .object "CampCards$Folk") (y := yX3_init) (b := cX3_init) (z2 := (Zfi (Zfi (Zfi (Zup z 0 0 0) 3 144 50) 5 144 (-9)) 14 144 (-9))) S hw hA hz0 zd_11 (by decide) zc_X3 iX3 tyX3 tyX3_ok (Ztb 78 (by decide +kernel) rfl) (Ztb 79 (by decide +kernel) rfl) (Ztb 4 (by decide +kernel) rfl) (fun j hj => by rcases (show j = 0 ∨ j = 1 ∨ j = 2 ∨ j = 3 ∨ j = 4 ∨ j = 5 ∨ j = 6 ∨ j = 7 ∨ j = 8 ∨ j = 9 ∨ j = 10 ∨ j = 11 ∨ j = 12 ∨ j = 13 ∨ j = 14 by omega) with rfl | rfl | rfl | rfl | rfl | rfl | rfl | rfl | rfl | rfl | rfl | rfl | rfl | rfl | rfl <;> rfl) (fun ad1 => c_X3_init (ad := ad1) (Zz_up hz0 (Nat.le_succ _)) (fun k hk => hw.2.2.2.2.2 k (by omega))) my_X3_init rfl (Ztb 81 (by decide +kernel) rfl) (Ztb 80 (by decide +kernel) rfl) ⟨by decide, by decide⟩ ⟨by decide, by decide⟩ hl.1 (Nat.le_of_ble_eq_true rfl) (by decide) ⟨by decide, by decide⟩ (by decide) (by decide +kernel) zd_0 rfl zc_X10 iX10 tyX10 tyX10_ok nmX10 (by decide) (Ztb 379 (by decide +kernel) rfl) rfl hin0 rfl (by decide +kernel) (fun _ => rfl) (fun _ => rfl) dX10_init_29 dX10_init_32 dX10_init_33 dX10_init_36 (fun ad3 H locs ea hw => ?_)
  replace hz0 : Zzero (Zfi (Zfi (Zfi (Zup z 0 0 0) 3 144 50) 5 144 (-9)) 14 144 (-9)) 24 := by first | exact Zz_up hz0 (by decide) | exact Zz_fi (Zz_up hz0 (by decide)) (by decide) (by decide) | exact Zz_fi (Zz_fi (Zz_up hz0 (by decide)) (by decide) (by decide)) (by decide) (by decide) | exact Zz_zup (Zz_up hz0 (by decide)) (by decide) (by decide)
  replace hea : ∀ k, k < 1 ∨ 129 ≤ k → ad3 k = ad k := fun k hk => (ea k (by omega)).trans (hea k hk)
  rw [← ea 0 (by decide)] at hl
  clear ea
  refine lv_aload_n S.1 S.2.1 dX10_init_39 rfl (lv_at hl 0 rfl) ?_
  refine Pobj (n := 24) (a := 1) (n2 := 33) (k1 := 0) (j0 := 4) (h := 3) (mc := 8) (ms := 2023) (ix := 31) (iy := 33) (index := 34) (C := RX7) (T := TX7) (N := 8) (Ck := RX10) (Tk := TX10) (Nk := 11) (tyr := .object "CampCards$Rules") (y := yX7_init) (b := cX7_init) (z2 := (Zup (Zfi (Zfi (Zfi (Zup z 0 0 0) 3 144 50) 5 144 (-9)) 14 144 (-9)) 30 4 (-9))) S hw hA hz0 zd_24 (by decide) zc_X7 iX7 tyX7 tyX7_ok (Ztb 140 (by decide +kernel) rfl) (Ztb 141 (by decide +kernel) rfl) (Ztb 5 (by decide +kernel) rfl) (fun j hj => by rcases (show j = 0 ∨ j = 1 ∨ j = 2 ∨ j = 3 ∨ j = 4 ∨ j = 5 ∨ j = 6 ∨ j = 7 by omega) with rfl | rfl | rfl | rfl | rfl | rfl | rfl | rfl <;> rfl) (fun ad1 => c_X7_init (ad := ad1) (Zz_up hz0 (Nat.le_succ _)) (fun k hk => hw.2.2.2.2.2 k (by omega))) my_X7_init rfl (Ztb 143 (by decide +kernel) rfl) (Ztb 142 (by decide +kernel) rfl) ⟨by decide, by decide⟩ ⟨by decide, by decide⟩ hl.1 (Nat.le_of_ble_eq_true rfl) (by decide) ⟨by decide, by decide⟩ (by decide) (by decide +kernel) zd_0 rfl zc_X10 iX10 tyX10 tyX10_ok nmX10 (by decide) (Ztb 380 (by decide +kernel) rfl) rfl hin0 rfl (by decide +kernel) (fun _ => rfl) (fun _ => rfl) dX10_init_40 dX10_init_43 dX10_init_44 dX10_init_47 (fun ad4 H locs ea hw => ?_)
  replace hz0 : Zzero (Zup (Zfi (Zfi (Zfi (Zup z 0 0 0) 3 144 50) 5 144 (-9)) 14 144 (-9)) 30 4 (-9)) 33 := by first | exact Zz_up hz0 (by decide) | exact Zz_fi (Zz_up hz0 (by decide)) (by decide) (by decide) | exact Zz_fi (Zz_fi (Zz_up hz0 (by decide)) (by decide) (by decide)) (by decide) (by decide) | exact Zz_zup (Zz_up hz0 (by decide)) (by decide) (by decide)
  replace hea : ∀ k, k < 1 ∨ 129 ≤ k → ad4 k = ad k := fun k hk => (ea k (by omega)).trans (hea k hk)
  rw [← ea 0 (by decide)] at hl
  clear ea
  refine lv_aload_n S.1 S.2.1 dX10_init_50 rfl (lv_at hl 0 rfl) ?_
  refine Pobj (n := 33) (a := 1) (n2 := 37) (k1 := 0) (j0 := 5) (h := 1) (mc := 3) (ms := 120) (ix := 38) (iy := 40) (index := 41) (C := RX0) (T := TX0) (N := 4) (Ck := RX10) (Tk := TX10) (Nk := 11) (tyr := .object "CampCards$Cards") (y := yX0_init) (b := cX0_init) (z2 := (Zup (Zfi (Zfi (Zfi (Zup z 0 0 0) 3 144 50) 5 144 (-9)) 14 144 (-9)) 30 4 (-9))) S hw hA hz0 zd_33 (by decide) zc_X0 iX0 tyX0 tyX0_ok (Ztb 209 (by decide +kernel) rfl) (Ztb 210 (by decide +kernel) rfl) (Ztb 8 (by decide +kernel) rfl) (fun j hj => by rcases (show j = 0 ∨ j = 1 ∨ j = 2 ∨ j = 3 by omega) with rfl | rfl | rfl | rfl <;> rfl) (fun ad1 => c_X0_init (ad := ad1) (Zz_up hz0 (Nat.le_succ _)) (fun k hk => hw.2.2.2.2.2 k (by omega))) my_X0_init rfl (Ztb 212 (by decide +kernel) rfl) (Ztb 211 (by decide +kernel) rfl) ⟨by decide, by decide⟩ ⟨by decide, by decide⟩ hl.1 (Nat.le_of_ble_eq_true rfl) (by decide) ⟨by decide, by decide⟩ (by decide) (by decide +kernel) zd_0 rfl zc_X10 iX10 tyX10 tyX10_ok nmX10 (by decide) (Ztb 381 (by decide +kernel) rfl) rfl hin0 rfl (by decide +kernel) (fun _ => rfl) (fun _ => rfl) dX10_init_51 dX10_init_54 dX10_init_55 dX10_init_58 (fun ad5 H locs ea hw => ?_)
  replace hz0 : Zzero (Zup (Zfi (Zfi (Zfi (Zup z 0 0 0) 3 144 50) 5 144 (-9)) 14 144 (-9)) 30 4 (-9)) 37 := by first | exact Zz_up hz0 (by decide) | exact Zz_fi (Zz_up hz0 (by decide)) (by decide) (by decide) | exact Zz_fi (Zz_fi (Zz_up hz0 (by decide)) (by decide) (by decide)) (by decide) (by decide) | exact Zz_zup (Zz_up hz0 (by decide)) (by decide) (by decide)
  replace hea : ∀ k, k < 1 ∨ 129 ≤ k → ad5 k = ad k := fun k hk => (ea k (by omega)).trans (hea k hk)
  rw [← ea 0 (by decide)] at hl
  clear ea
  refine lv_aload_n S.1 S.2.1 dX10_init_61 rfl (lv_at hl 0 rfl) ?_
  refine Pobj (n := 37) (a := 1) (n2 := 41) (k1 := 0) (j0 := 6) (h := 1) (mc := 3) (ms := 180) (ix := 45) (iy := 47) (index := 48) (C := RX8) (T := TX8) (N := 4) (Ck := RX10) (Tk := TX10) (Nk := 11) (tyr := .object "CampCards$Scale") (y := yX8_init) (b := cX8_init) (z2 := (Zup (Zfi (Zfi (Zfi (Zup z 0 0 0) 3 144 50) 5 144 (-9)) 14 144 (-9)) 30 4 (-9))) S hw hA hz0 zd_37 (by decide) zc_X8 iX8 tyX8 tyX8_ok (Ztb 229 (by decide +kernel) rfl) (Ztb 230 (by decide +kernel) rfl) (Ztb 9 (by decide +kernel) rfl) (fun j hj => by rcases (show j = 0 ∨ j = 1 ∨ j = 2 ∨ j = 3 by omega) with rfl | rfl | rfl | rfl <;> rfl) (fun ad1 => c_X8_init (ad := ad1) (Zz_up hz0 (Nat.le_succ _)) (fun k hk => hw.2.2.2.2.2 k (by omega))) my_X8_init rfl (Ztb 232 (by decide +kernel) rfl) (Ztb 231 (by decide +kernel) rfl) ⟨by decide, by decide⟩ ⟨by decide, by decide⟩ hl.1 (Nat.le_of_ble_eq_true rfl) (by decide) ⟨by decide, by decide⟩ (by decide) (by decide +kernel) zd_0 rfl zc_X10 iX10 tyX10 tyX10_ok nmX10 (by decide) (Ztb 382 (by decide +kernel) rfl) rfl hin0 rfl (by decide +kernel) (fun _ => rfl) (fun _ => rfl) dX10_init_62 dX10_init_65 dX10_init_66 dX10_init_69 (fun ad6 H locs ea hw => ?_)
  replace hz0 : Zzero (Zup (Zfi (Zfi (Zfi (Zup z 0 0 0) 3 144 50) 5 144 (-9)) 14 144 (-9)) 30 4 (-9)) 41 := by first | exact Zz_up hz0 (by decide) | exact Zz_fi (Zz_up hz0 (by decide)) (by decide) (by decide) | exact Zz_fi (Zz_fi (Zz_up hz0 (by decide)) (by decide) (by decide)) (by decide) (by decide) | exact Zz_zup (Zz_up hz0 (by decide)) (by decide) (by decide)
  replace hea : ∀ k, k < 1 ∨ 129 ≤ k → ad6 k = ad k := fun k hk => (ea k (by omega)).trans (hea k hk)
  rw [← ea 0 (by decide)] at hl
  clear ea
  refine lv_aload_n S.1 S.2.1 dX10_init_72 rfl (lv_at hl 0 rfl) ?_
  refine Pobj (n := 41) (a := 1) (n2 := 54) (k1 := 0) (j0 := 7) (h := 1) (mc := 12) (ms := 176) (ix := 52) (iy := 54) (index := 55) (C := RX9) (T := TX9) (N := 16) (Ck := RX10) (Tk := TX10) (Nk := 11) (tyr := .object "CampCards$Wells") (y := yX9_init) (b := cX9_init) (z2 := (Zfi (Zup (Zfi (Zfi (Zfi (Zup z 0 0 0) 3 144 50) 5 144 (-9)) 14 144 (-9)) 30 4 (-9)) 45 4 6)) S hw hA hz0 zd_41 (by decide) zc_X9 iX9 tyX9 tyX9_ok (Ztb 249 (by decide +kernel) rfl) (Ztb 250 (by decide +kernel) rfl) (Ztb 10 (by decide +kernel) rfl) (fun j hj => by rcases (show j = 0 ∨ j = 1 ∨ j = 2 ∨ j = 3 ∨ j = 4 ∨ j = 5 ∨ j = 6 ∨ j = 7 ∨ j = 8 ∨ j = 9 ∨ j = 10 ∨ j = 11 ∨ j = 12 ∨ j = 13 ∨ j = 14 ∨ j = 15 by omega) with rfl | rfl | rfl | rfl | rfl | rfl | rfl | rfl | rfl | rfl | rfl | rfl | rfl | rfl | rfl | rfl <;> rfl) (fun ad1 => c_X9_init (ad := ad1) (Zz_up hz0 (Nat.le_succ _)) (fun k hk => hw.2.2.2.2.2 k (by omega))) my_X9_init rfl (Ztb 252 (by decide +kernel) rfl) (Ztb 251 (by decide +kernel) rfl) ⟨by decide, by decide⟩ ⟨by decide, by decide⟩ hl.1 (Nat.le_of_ble_eq_true rfl) (by decide) ⟨by decide, by decide⟩ (by decide) (by decide +kernel) zd_0 rfl zc_X10 iX10 tyX10 tyX10_ok nmX10 (by decide) (Ztb 383 (by decide +kernel) rfl) rfl hin0 rfl (by decide +kernel) (fun _ => rfl) (fun _ => rfl) dX10_init_73 dX10_init_76 dX10_init_77 dX10_init_80 (fun ad7 H locs ea hw => ?_)
  replace hz0 : Zzero (Zfi (Zup (Zfi (Zfi (Zfi (Zup z 0 0 0) 3 144 50) 5 144 (-9)) 14 144 (-9)) 30 4 (-9)) 45 4 6) 54 := by first | exact Zz_up hz0 (by decide) | exact Zz_fi (Zz_up hz0 (by decide)) (by decide) (by decide) | exact Zz_fi (Zz_fi (Zz_up hz0 (by decide)) (by decide) (by decide)) (by decide) (by decide) | exact Zz_zup (Zz_up hz0 (by decide)) (by decide) (by decide)
  replace hea : ∀ k, k < 1 ∨ 129 ≤ k → ad7 k = ad k := fun k hk => (ea k (by omega)).trans (hea k hk)
  rw [← ea 0 (by decide)] at hl
  clear ea
  refine lv_aload_n S.1 S.2.1 dX10_init_83 rfl (lv_at hl 0 rfl) ?_
  refine Pobj (n := 54) (a := 1) (n2 := 59) (k1 := 0) (j0 := 8) (h := 1) (mc := 4) (ms := 120) (ix := 59) (iy := 61) (index := 62) (C := RX2) (T := TX2) (N := 5) (Ck := RX10) (Tk := TX10) (Nk := 11) (tyr := .object "CampCards$Fire") (y := yX2_init) (b := cX2_init) (z2 := (Zfi (Zfi (Zup (Zfi (Zfi (Zfi (Zup z 0 0 0) 3 144 50) 5 144 (-9)) 14 144 (-9)) 30 4 (-9)) 45 4 6) 55 30 (-9))) S hw hA hz0 zd_54 (by decide) zc_X2 iX2 tyX2 tyX2_ok (Ztb 306 (by decide +kernel) rfl) (Ztb 307 (by decide +kernel) rfl) (Ztb 11 (by decide +kernel) rfl) (fun j hj => by rcases (show j = 0 ∨ j = 1 ∨ j = 2 ∨ j = 3 ∨ j = 4 by omega) with rfl | rfl | rfl | rfl | rfl <;> rfl) (fun ad1 => c_X2_init (ad := ad1) (Zz_up hz0 (Nat.le_succ _)) (fun k hk => hw.2.2.2.2.2 k (by omega))) my_X2_init rfl (Ztb 309 (by decide +kernel) rfl) (Ztb 308 (by decide +kernel) rfl) ⟨by decide, by decide⟩ ⟨by decide, by decide⟩ hl.1 (Nat.le_of_ble_eq_true rfl) (by decide) ⟨by decide, by decide⟩ (by decide) (by decide +kernel) zd_0 rfl zc_X10 iX10 tyX10 tyX10_ok nmX10 (by decide) (Ztb 384 (by decide +kernel) rfl) rfl hin0 rfl (by decide +kernel) (fun _ => rfl) (fun _ => rfl) dX10_init_84 dX10_init_87 dX10_init_88 dX10_init_91 (fun ad8 H locs ea hw => ?_)
  replace hz0 : Zzero (Zfi (Zfi (Zup (Zfi (Zfi (Zfi (Zup z 0 0 0) 3 144 50) 5 144 (-9)) 14 144 (-9)) 30 4 (-9)) 45 4 6) 55 30 (-9)) 59 := by first | exact Zz_up hz0 (by decide) | exact Zz_fi (Zz_up hz0 (by decide)) (by decide) (by decide) | exact Zz_fi (Zz_fi (Zz_up hz0 (by decide)) (by decide) (by decide)) (by decide) (by decide) | exact Zz_zup (Zz_up hz0 (by decide)) (by decide) (by decide)
  replace hea : ∀ k, k < 1 ∨ 129 ≤ k → ad8 k = ad k := fun k hk => (ea k (by omega)).trans (hea k hk)
  rw [← ea 0 (by decide)] at hl
  clear ea
  refine lv_aload_n S.1 S.2.1 dX10_init_94 rfl (lv_at hl 0 rfl) ?_
  refine Pobj (n := 59) (a := 1) (n2 := 63) (k1 := 0) (j0 := 9) (h := 1) (mc := 3) (ms := 180) (ix := 66) (iy := 68) (index := 69) (C := RX5) (T := TX5) (N := 5) (Ck := RX10) (Tk := TX10) (Nk := 11) (tyr := .object "CampCards$Leave") (y := yX5_init) (b := cX5_init) (z2 := (Zfi (Zfi (Zup (Zfi (Zfi (Zfi (Zup z 0 0 0) 3 144 50) 5 144 (-9)) 14 144 (-9)) 30 4 (-9)) 45 4 6) 55 30 (-9))) S hw hA hz0 zd_59 (by decide) zc_X5 iX5 tyX5 tyX5_ok (Ztb 330 (by decide +kernel) rfl) (Ztb 331 (by decide +kernel) rfl) (Ztb 12 (by decide +kernel) rfl) (fun j hj => by rcases (show j = 0 ∨ j = 1 ∨ j = 2 ∨ j = 3 ∨ j = 4 by omega) with rfl | rfl | rfl | rfl | rfl <;> rfl) (fun ad1 => c_X5_init (ad := ad1) (Zz_up hz0 (Nat.le_succ _)) (fun k hk => hw.2.2.2.2.2 k (by omega))) my_X5_init rfl (Ztb 333 (by decide +kernel) rfl) (Ztb 332 (by decide +kernel) rfl) ⟨by decide, by decide⟩ ⟨by decide, by decide⟩ hl.1 (Nat.le_of_ble_eq_true rfl) (by decide) ⟨by decide, by decide⟩ (by decide) (by decide +kernel) zd_0 rfl zc_X10 iX10 tyX10 tyX10_ok nmX10 (by decide) (Ztb 385 (by decide +kernel) rfl) rfl hin0 rfl (by decide +kernel) (fun _ => rfl) (fun _ => rfl) dX10_init_95 dX10_init_98 dX10_init_99 dX10_init_102 (fun ad9 H locs ea hw => ?_)
  replace hz0 : Zzero (Zfi (Zfi (Zup (Zfi (Zfi (Zfi (Zup z 0 0 0) 3 144 50) 5 144 (-9)) 14 144 (-9)) 30 4 (-9)) 45 4 6) 55 30 (-9)) 63 := by first | exact Zz_up hz0 (by decide) | exact Zz_fi (Zz_up hz0 (by decide)) (by decide) (by decide) | exact Zz_fi (Zz_fi (Zz_up hz0 (by decide)) (by decide) (by decide)) (by decide) (by decide) | exact Zz_zup (Zz_up hz0 (by decide)) (by decide) (by decide)
  replace hea : ∀ k, k < 1 ∨ 129 ≤ k → ad9 k = ad k := fun k hk => (ea k (by omega)).trans (hea k hk)
  rw [← ea 0 (by decide)] at hl
  clear ea
  refine lv_aload_n S.1 S.2.1 dX10_init_105 rfl (lv_at hl 0 rfl) ?_
  refine Pobj (n := 63) (a := 1) (n2 := 68) (k1 := 0) (j0 := 10) (h := 1) (mc := 4) (ms := 160) (ix := 73) (iy := 75) (index := 76) (C := RX1) (T := TX1) (N := 5) (Ck := RX10) (Tk := TX10) (Nk := 11) (tyr := .object "CampCards$Counts") (y := yX1_init) (b := cX1_init) (z2 := (Zfi (Zfi (Zup (Zfi (Zfi (Zfi (Zup z 0 0 0) 3 144 50) 5 144 (-9)) 14 144 (-9)) 30 4 (-9)) 45 4 6) 55 30 (-9))) S hw hA hz0 zd_63 (by decide) zc_X1 iX1 tyX1 tyX1_ok (Ztb 353 (by decide +kernel) rfl) (Ztb 354 (by decide +kernel) rfl) (Ztb 13 (by decide +kernel) rfl) (fun j hj => by rcases (show j = 0 ∨ j = 1 ∨ j = 2 ∨ j = 3 ∨ j = 4 by omega) with rfl | rfl | rfl | rfl | rfl <;> rfl) (fun ad1 => c_X1_init (ad := ad1) (Zz_up hz0 (Nat.le_succ _)) (fun k hk => hw.2.2.2.2.2 k (by omega))) my_X1_init rfl (Ztb 356 (by decide +kernel) rfl) (Ztb 355 (by decide +kernel) rfl) ⟨by decide, by decide⟩ ⟨by decide, by decide⟩ hl.1 (Nat.le_of_ble_eq_true rfl) (by decide) ⟨by decide, by decide⟩ (by decide) (by decide +kernel) zd_0 rfl zc_X10 iX10 tyX10 tyX10_ok nmX10 (by decide) (Ztb 386 (by decide +kernel) rfl) rfl hin0 rfl (by decide +kernel) (fun _ => rfl) (fun _ => rfl) dX10_init_106 dX10_init_109 dX10_init_110 dX10_init_113 (fun ad10 H locs ea hw => ?_)
  replace hz0 : Zzero (Zfi (Zfi (Zup (Zfi (Zfi (Zfi (Zup z 0 0 0) 3 144 50) 5 144 (-9)) 14 144 (-9)) 30 4 (-9)) 45 4 6) 55 30 (-9)) 68 := by first | exact Zz_up hz0 (by decide) | exact Zz_fi (Zz_up hz0 (by decide)) (by decide) (by decide) | exact Zz_fi (Zz_fi (Zz_up hz0 (by decide)) (by decide) (by decide)) (by decide) (by decide) | exact Zz_zup (Zz_up hz0 (by decide)) (by decide) (by decide)
  replace hea : ∀ k, k < 1 ∨ 129 ≤ k → ad10 k = ad k := fun k hk => (ea k (by omega)).trans (hea k hk)
  rw [← ea 0 (by decide)] at hl
  clear ea
  exact W.vret S.1 S.2.1 hr (fun t ht hW => ⟨⟨ad10, rfl, hea, by rw [ht]; exact hw.2.1, hw.2.2.1⟩, hw.2.2.2.1.F ht⟩) hw.2.2.2.1.2.2 dX10_init_116 hlk
