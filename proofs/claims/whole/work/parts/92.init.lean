/-! the constructors -/
theorem oi_i : Cond.instanceMethod Lib.objectInit ∈ Ztbl := Ztb 28 (by decide +kernel) rfl
theorem oi_c : Cond.code Lib.objectInit ⟨#[0xb1]⟩ 1 none ∈ Ztbl := Ztb 29 (by decide +kernel) rfl
theorem ac_0 : Cond.arrayClass (newarray.typeOf .int) ∈ Ztbl := Ztb 76 (by decide +kernel) rfl
theorem ac_2 : Cond.arrayClass (newarray.typeOf .boolean) ∈ Ztbl := Ztb 77 (by decide +kernel) rfl
theorem ac_1 : Cond.arrayClass (newarray.typeOf .byte) ∈ Ztbl := Ztb 181 (by decide +kernel) rfl
theorem ac_3 : Cond.arrayClass (newarray.typeOf .long) ∈ Ztbl := Ztb 1371 (by decide +kernel) rfl
/-- what is not made yet is 0 -/
def Zzero (z : ZI) (n : Nat) : Prop := (∀ k j, n ≤ k → k < 129 → z k j = 0) ∧ (∀ k j, 1000 ≤ k → z k j = 0) ∧ ∀ j, z 200 j = 0
theorem Zz_up {z : ZI} {n n2 : Nat} (h : Zzero z n) (hn : n ≤ n2) : Zzero z n2 := ⟨fun k j a b => h.1 k j (by omega) b, h.2.1, h.2.2⟩
theorem Zz_fi {z : ZI} {n k0 : Nat} {i v : Int} (h : Zzero z n) (hk : k0 < n) (hn : n ≤ 129) : Zzero (Zfi z k0 i v) n := by
  refine ⟨fun k j a b => ?_, fun k j a => ?_, fun j => ?_⟩
  · unfold Zfi
    rw [if_neg (by omega)]
    exact h.1 k j a b
  · unfold Zfi
    rw [if_neg (by omega)]
    exact h.2.1 k j a
  · unfold Zfi
    rw [if_neg (by omega)]
    exact h.2.2 j
theorem Zz_1 {z : ZI} {n : Nat} (h : Zzero z n) (hn : n < 129) : (Zc z).1 n = fun _ => 0 := by
  funext j
  rw [Zc1 (by omega), h.1 n j (Nat.le_refl n) hn]
  rfl
theorem Zz_2 {z : ZI} {n k : Nat} (h : Zzero z n) : (Zc z).2 k = fun _ => 0 := by
  funext j
  show i64 (z (k + 1000) j) = 0
  rw [h.2.1 _ _ (by omega)]
  rfl
theorem Zz_3 {z : ZI} {n k : Nat} (h : Zzero z n) : (Zc z).1 200 k = 0 := by
  rw [Zc1 (by omega), h.2.2]
  rfl
def Rmi (h mc ms : Nat) : Room := { frames := h, cells := mc, slots := ms, locals := 60 * h }
abbrev ZPi (D : va_G) (cA : Nat → ClassId) (ad : Nat → Nat) (A : Nat → Prop) (g : Nat → Bool) (n : Nat) (avs : List Value) (z : ZI) : Array Value → State → Prop := va_Pc avs (fun U => (∀ q, U.heap.size ≤ q → A q) ∧ ZE D cA ad A U ∧ va_P D ZCL (Zqw cA ad (Zc z) g n) U.heap ∧ va_D A (Zqw cA ad (Zc z) g n))
abbrev ZQn (D : va_G) (cA : Nat → ClassId) (ad : Nat → Nat) (A : Nat → Prop) (g : Nat → Bool) (n n2 : Nat) (z : ZI) : Array Value → State → Outcome → State → Prop := va_Qv (fun u : Nat → Nat => ∀ k, k < n ∨ 129 ≤ k → u k = ad k) (fun u t => va_P D ZCL (Zqw cA u (Zc z) (gto g n n2) n2) t.heap ∧ va_D A (Zqw cA u (Zc z) (gto g n n2) n2)) A
theorem Zfvp_ref {g : Nat → Bool} {ad : Nat → Nat} {f : Nat → Int32} {fk : List (Option Nat)} {j k : Nat} (h : fk[j]? = some (some k)) (hg : g k = true) : (Zfvp g ad f fk)[j]? = some (.ref (ad k)) := by
  simp [Zfvp, List.getElem?_mapIdx, h, hg]
theorem gto_t {g : Nat → Bool} {a b k : Nat} (h : a ≤ k ∧ k < b) : gto g a b k = true := if_pos h
set_option maxRecDepth 100000 in
set_option maxHeartbeats 4000000 in
theorem c_X0_init {l : Launch} {D : va_G} {cA : Nat → ClassId} {ad : Nat → Nat} {A : Nat → Prop} {g : Nat → Bool} {z : ZI} (hz0 : Zzero z 34) (hg : ∀ k, 34 ≤ k → g k = false) : Met l yX0_init (ZV yX0_init cX0_init 1 none) (Rmi 1 3 120) (ZPi D cA ad A g 34 [.ref (ad 33)] z) (ZQn D cA ad A g 34 37 z) 3 120 A := by
  refine Met.ofW (cc := cX0_init) (maxL := 1) (ret := none) (by decide) rfl ?_
  intro p e s m args below meth c s₁ B hml hv2
  obtain ⟨rfl, hA, hE, hP, hD⟩ := hv2
  have hts := atoms_spec (ws := ZV yX0_init cX0_init 1 none) B.pre
  have hown : s.vm.findClass yX0_init.cls = some m.cls := findClass_of_methodNamed B.named
  have hin0 : meth.name = "<init>" := (name_of_methodNamed B.named B.method).1
  have hl := lv_entry [Value.ref (ad 33)] (n := 1) (Nat.le_of_ble_eq_true rfl)
  rw [lg_entry_eq]
  generalize (lg_sl [Value.ref (ad 33)] ++ List.replicate (1 - (lg_sl [Value.ref (ad 33)]).length) Slot.unset).toArray = ls at hl ⊢
  have hl : lv_has ls 1 [(0, .ref (ad 33))] := hl
  have S : CallFix p m c cX0_init 1 s [Value.ref (ad 33)].toArray Ztbl RX0 := ⟨B.exec, B.bytes, hml, hown, fun w hw => hts w (List.mem_cons_of_mem _ hw)⟩
  have hr := B.returns
  have hlk := B.notSynchronized
  have hA2 : ∀ q, A q → A q := fun q h => h
  have hw : PW D cA ad A (Zc z) (gto g 34 34) 34 s s.heap [] := by
    rw [gto_0]
    exact ⟨hE, hP, hD, va_S.rf, by decide, hg⟩
  have hea : ∀ k, k < 34 ∨ 129 ≤ k → ad k = ad k := fun k _ => rfl
  show W p l e (Rmi 1 3 120) s m _ below meth c s.heap [] 0 0 _ _
  refine lv_aload_n S.1 S.2.1 dX0_init_0 rfl (lv_at hl 0 rfl) ?_
  refine W.objInit S.1 S.2.1 S.2.2.2.1 (S.2.2.2.2 _ (Ztb 214 (by decide +kernel) rfl : Cond.methodLink RX0 3 Lib.objectInit ∈ Ztbl)) (S.2.2.2.2 _ oi_i) (S.2.2.2.2 _ oi_c) rfl (by rw [hml]; exact hl.1) rfl dX0_init_1 (Nat.le_of_ble_eq_true rfl) (Nat.le_of_ble_eq_true rfl) ?_
  refine W.eq (g2 := F0 m 4 ls []) rfl ?_
  refine lv_aload_n S.1 S.2.1 dX0_init_4 rfl (lv_at hl 0 rfl) ?_
  refine lv_bipush (v := i32 40) S.1 S.2.1 dX0_init_5 (by decide) ?_
  refine ProwF (n := 34) (k1 := 33) (j0 := 1) (a := 34) (t := 0) (len := 40) (i := 0) (N2 := 40) (index := 9) (C := RX0) (T := TX0) (N := 4) (ty := .array .int) S hw hA zd_34 (Zz_1 hz0 (by decide)) (Zz_2 hz0) (Zz_3 hz0) ac_0 rfl (fun _ => rfl) (fun _ _ h => h) (fun _ => rfl) (by decide) (by decide) (by decide) ⟨by decide, by decide⟩ (by decide) (by decide) (by decide +kernel) zd_33 rfl zc_X0 iX0 tyX0 tyX0_ok nmX0 (by decide) (Ztb 217 (by decide +kernel) rfl) rfl hin0 rfl (by decide +kernel) (fun _ => rfl) (fun _ => rfl) dX0_init_7 dX0_init_9 (fun q H locs hw => ?_)
  replace hz0 := Zz_up hz0 (Nat.le_succ _)
  obtain ⟨ad1, hw, ea⟩ : ∃ a : Nat → Nat, PW D cA a A (Zc z) (gto g 34 35) 35 s H locs ∧ ∀ k, k ≠ 34 → a k = ad k := ⟨_, hw, fun k hk => if_neg hk⟩
  replace hea : ∀ k, k < 34 ∨ 129 ≤ k → ad1 k = ad k := fun k hk => (ea k (by omega)).trans (hea k hk)
  rw [← ea 33 (by decide)] at hl
  clear ea
  refine lv_aload_n S.1 S.2.1 dX0_init_12 rfl (lv_at hl 0 rfl) ?_
  refine lv_bipush (v := i32 40) S.1 S.2.1 dX0_init_13 (by decide) ?_
  refine ProwF (n := 35) (k1 := 33) (j0 := 2) (a := 34) (t := 0) (len := 40) (i := 0) (N2 := 40) (index := 15) (C := RX0) (T := TX0) (N := 4) (ty := .array .int) S hw hA zd_35 (Zz_1 hz0 (by decide)) (Zz_2 hz0) (Zz_3 hz0) ac_0 rfl (fun _ => rfl) (fun _ _ h => h) (fun _ => rfl) (by decide) (by decide) (by decide) ⟨by decide, by decide⟩ (by decide) (by decide) (by decide +kernel) zd_33 rfl zc_X0 iX0 tyX0 tyX0_ok nmX0 (by decide) (Ztb 218 (by decide +kernel) rfl) rfl hin0 rfl (by decide +kernel) (fun _ => rfl) (fun _ => rfl) dX0_init_15 dX0_init_17 (fun q H locs hw => ?_)
  replace hz0 := Zz_up hz0 (Nat.le_succ _)
  obtain ⟨ad2, hw, ea⟩ : ∃ a : Nat → Nat, PW D cA a A (Zc z) (gto g 34 36) 36 s H locs ∧ ∀ k, k ≠ 35 → a k = ad1 k := ⟨_, hw, fun k hk => if_neg hk⟩
  replace hea : ∀ k, k < 34 ∨ 129 ≤ k → ad2 k = ad k := fun k hk => (ea k (by omega)).trans (hea k hk)
  rw [← ea 33 (by decide)] at hl
  clear ea
  refine lv_aload_n S.1 S.2.1 dX0_init_20 rfl (lv_at hl 0 rfl) ?_
  refine lv_bipush (v := i32 40) S.1 S.2.1 dX0_init_21 (by decide) ?_
  refine ProwF (n := 36) (k1 := 33) (j0 := 3) (a := 34) (t := 0) (len := 40) (i := 0) (N2 := 40) (index := 18) (C := RX0) (T := TX0) (N := 4) (ty := .array .int) S hw hA zd_36 (Zz_1 hz0 (by decide)) (Zz_2 hz0) (Zz_3 hz0) ac_0 rfl (fun _ => rfl) (fun _ _ h => h) (fun _ => rfl) (by decide) (by decide) (by decide) ⟨by decide, by decide⟩ (by decide) (by decide) (by decide +kernel) zd_33 rfl zc_X0 iX0 tyX0 tyX0_ok nmX0 (by decide) (Ztb 219 (by decide +kernel) rfl) rfl hin0 rfl (by decide +kernel) (fun _ => rfl) (fun _ => rfl) dX0_init_23 dX0_init_25 (fun q H locs hw => ?_)
  replace hz0 := Zz_up hz0 (Nat.le_succ _)
  obtain ⟨ad3, hw, ea⟩ : ∃ a : Nat → Nat, PW D cA a A (Zc z) (gto g 34 37) 37 s H locs ∧ ∀ k, k ≠ 36 → a k = ad2 k := ⟨_, hw, fun k hk => if_neg hk⟩
  replace hea : ∀ k, k < 34 ∨ 129 ≤ k → ad3 k = ad k := fun k hk => (ea k (by omega)).trans (hea k hk)
  rw [← ea 33 (by decide)] at hl
  clear ea
  exact W.vret S.1 S.2.1 hr (fun t ht hW => ⟨⟨ad3, rfl, hea, by rw [ht]; exact hw.2.1, hw.2.2.1⟩, hw.2.2.2.1.F ht⟩) hw.2.2.2.1.2.2 dX0_init_28 hlk
set_option maxRecDepth 100000 in
set_option maxHeartbeats 4000000 in
theorem c_X1_init {l : Launch} {D : va_G} {cA : Nat → ClassId} {ad : Nat → Nat} {A : Nat → Prop} {g : Nat → Bool} {z : ZI} (hz0 : Zzero z 64) (hg : ∀ k, 64 ≤ k → g k = false) : Met l yX1_init (ZV yX1_init cX1_init 1 none) (Rmi 1 4 160) (ZPi D cA ad A g 64 [.ref (ad 63)] z) (ZQn D cA ad A g 64 68 z) 4 160 A := by
  refine Met.ofW (cc := cX1_init) (maxL := 1) (ret := none) (by decide) rfl ?_
  intro p e s m args below meth c s₁ B hml hv2
  obtain ⟨rfl, hA, hE, hP, hD⟩ := hv2
  have hts := atoms_spec (ws := ZV yX1_init cX1_init 1 none) B.pre
  have hown : s.vm.findClass yX1_init.cls = some m.cls := findClass_of_methodNamed B.named
  have hin0 : meth.name = "<init>" := (name_of_methodNamed B.named B.method).1
  have hl := lv_entry [Value.ref (ad 63)] (n := 1) (Nat.le_of_ble_eq_true rfl)
  rw [lg_entry_eq]
  generalize (lg_sl [Value.ref (ad 63)] ++ List.replicate (1 - (lg_sl [Value.ref (ad 63)]).length) Slot.unset).toArray = ls at hl ⊢
  have hl : lv_has ls 1 [(0, .ref (ad 63))] := hl
  have S : CallFix p m c cX1_init 1 s [Value.ref (ad 63)].toArray Ztbl RX1 := ⟨B.exec, B.bytes, hml, hown, fun w hw => hts w (List.mem_cons_of_mem _ hw)⟩
  have hr := B.returns
  have hlk := B.notSynchronized
  have hA2 : ∀ q, A q → A q := fun q h => h
  have hw : PW D cA ad A (Zc z) (gto g 64 64) 64 s s.heap [] := by
    rw [gto_0]
    exact ⟨hE, hP, hD, va_S.rf, by decide, hg⟩
  have hea : ∀ k, k < 64 ∨ 129 ≤ k → ad k = ad k := fun k _ => rfl
  show W p l e (Rmi 1 4 160) s m _ below meth c s.heap [] 0 0 _ _
  refine lv_aload_n S.1 S.2.1 dX1_init_0 rfl (lv_at hl 0 rfl) ?_
  refine W.objInit S.1 S.2.1 S.2.2.2.1 (S.2.2.2.2 _ (Ztb 358 (by decide +kernel) rfl : Cond.methodLink RX1 3 Lib.objectInit ∈ Ztbl)) (S.2.2.2.2 _ oi_i) (S.2.2.2.2 _ oi_c) rfl (by rw [hml]; exact hl.1) rfl dX1_init_1 (Nat.le_of_ble_eq_true rfl) (Nat.le_of_ble_eq_true rfl) ?_
  refine W.eq (g2 := F0 m 4 ls []) rfl ?_
  refine lv_aload_n S.1 S.2.1 dX1_init_4 rfl (lv_at hl 0 rfl) ?_
  refine lv_bipush (v := i32 40) S.1 S.2.1 dX1_init_5 (by decide) ?_
  refine ProwF (n := 64) (k1 := 63) (j0 := 1) (a := 64) (t := 0) (len := 40) (i := 0) (N2 := 40) (index := 9) (C := RX1) (T := TX1) (N := 5) (ty := .array .int) S hw hA zd_64 (Zz_1 hz0 (by decide)) (Zz_2 hz0) (Zz_3 hz0) ac_0 rfl (fun _ => rfl) (fun _ _ h => h) (fun _ => rfl) (by decide) (by decide) (by decide) ⟨by decide, by decide⟩ (by decide) (by decide) (by decide +kernel) zd_63 rfl zc_X1 iX1 tyX1 tyX1_ok nmX1 (by decide) (Ztb 361 (by decide +kernel) rfl) rfl hin0 rfl (by decide +kernel) (fun _ => rfl) (fun _ => rfl) dX1_init_7 dX1_init_9 (fun q H locs hw => ?_)
  replace hz0 := Zz_up hz0 (Nat.le_succ _)
  obtain ⟨ad1, hw, ea⟩ : ∃ a : Nat → Nat, PW D cA a A (Zc z) (gto g 64 65) 65 s H locs ∧ ∀ k, k ≠ 64 → a k = ad k := ⟨_, hw, fun k hk => if_neg hk⟩
  replace hea : ∀ k, k < 64 ∨ 129 ≤ k → ad1 k = ad k := fun k hk => (ea k (by omega)).trans (hea k hk)
  rw [← ea 63 (by decide)] at hl
  clear ea
  refine lv_aload_n S.1 S.2.1 dX1_init_12 rfl (lv_at hl 0 rfl) ?_
  refine lv_bipush (v := i32 40) S.1 S.2.1 dX1_init_13 (by decide) ?_
  refine ProwF (n := 65) (k1 := 63) (j0 := 2) (a := 64) (t := 0) (len := 40) (i := 0) (N2 := 40) (index := 15) (C := RX1) (T := TX1) (N := 5) (ty := .array .int) S hw hA zd_65 (Zz_1 hz0 (by decide)) (Zz_2 hz0) (Zz_3 hz0) ac_0 rfl (fun _ => rfl) (fun _ _ h => h) (fun _ => rfl) (by decide) (by decide) (by decide) ⟨by decide, by decide⟩ (by decide) (by decide) (by decide +kernel) zd_63 rfl zc_X1 iX1 tyX1 tyX1_ok nmX1 (by decide) (Ztb 362 (by decide +kernel) rfl) rfl hin0 rfl (by decide +kernel) (fun _ => rfl) (fun _ => rfl) dX1_init_15 dX1_init_17 (fun q H locs hw => ?_)
  replace hz0 := Zz_up hz0 (Nat.le_succ _)
  obtain ⟨ad2, hw, ea⟩ : ∃ a : Nat → Nat, PW D cA a A (Zc z) (gto g 64 66) 66 s H locs ∧ ∀ k, k ≠ 65 → a k = ad1 k := ⟨_, hw, fun k hk => if_neg hk⟩
  replace hea : ∀ k, k < 64 ∨ 129 ≤ k → ad2 k = ad k := fun k hk => (ea k (by omega)).trans (hea k hk)
  rw [← ea 63 (by decide)] at hl
  clear ea
  refine lv_aload_n S.1 S.2.1 dX1_init_20 rfl (lv_at hl 0 rfl) ?_
  refine lv_bipush (v := i32 40) S.1 S.2.1 dX1_init_21 (by decide) ?_
  refine ProwF (n := 66) (k1 := 63) (j0 := 3) (a := 64) (t := 0) (len := 40) (i := 0) (N2 := 40) (index := 18) (C := RX1) (T := TX1) (N := 5) (ty := .array .int) S hw hA zd_66 (Zz_1 hz0 (by decide)) (Zz_2 hz0) (Zz_3 hz0) ac_0 rfl (fun _ => rfl) (fun _ _ h => h) (fun _ => rfl) (by decide) (by decide) (by decide) ⟨by decide, by decide⟩ (by decide) (by decide) (by decide +kernel) zd_63 rfl zc_X1 iX1 tyX1 tyX1_ok nmX1 (by decide) (Ztb 363 (by decide +kernel) rfl) rfl hin0 rfl (by decide +kernel) (fun _ => rfl) (fun _ => rfl) dX1_init_23 dX1_init_25 (fun q H locs hw => ?_)
  replace hz0 := Zz_up hz0 (Nat.le_succ _)
  obtain ⟨ad3, hw, ea⟩ : ∃ a : Nat → Nat, PW D cA a A (Zc z) (gto g 64 67) 67 s H locs ∧ ∀ k, k ≠ 66 → a k = ad2 k := ⟨_, hw, fun k hk => if_neg hk⟩
  replace hea : ∀ k, k < 64 ∨ 129 ≤ k → ad3 k = ad k := fun k hk => (ea k (by omega)).trans (hea k hk)
  rw [← ea 63 (by decide)] at hl
  clear ea
  refine lv_aload_n S.1 S.2.1 dX1_init_28 rfl (lv_at hl 0 rfl) ?_
  refine lv_bipush (v := i32 40) S.1 S.2.1 dX1_init_29 (by decide) ?_
  refine ProwF (n := 67) (k1 := 63) (j0 := 4) (a := 64) (t := 0) (len := 40) (i := 0) (N2 := 40) (index := 21) (C := RX1) (T := TX1) (N := 5) (ty := .array .int) S hw hA zd_67 (Zz_1 hz0 (by decide)) (Zz_2 hz0) (Zz_3 hz0) ac_0 rfl (fun _ => rfl) (fun _ _ h => h) (fun _ => rfl) (by decide) (by decide) (by decide) ⟨by decide, by decide⟩ (by decide) (by decide) (by decide +kernel) zd_63 rfl zc_X1 iX1 tyX1 tyX1_ok nmX1 (by decide) (Ztb 364 (by decide +kernel) rfl) rfl hin0 rfl (by decide +kernel) (fun _ => rfl) (fun _ => rfl) dX1_init_31 dX1_init_33 (fun q H locs hw => ?_)
  replace hz0 := Zz_up hz0 (Nat.le_succ _)
  obtain ⟨ad4, hw, ea⟩ : ∃ a : Nat → Nat, PW D cA a A (Zc z) (gto g 64 68) 68 s H locs ∧ ∀ k, k ≠ 67 → a k = ad3 k := ⟨_, hw, fun k hk => if_neg hk⟩
  replace hea : ∀ k, k < 64 ∨ 129 ≤ k → ad4 k = ad k := fun k hk => (ea k (by omega)).trans (hea k hk)
  rw [← ea 63 (by decide)] at hl
  clear ea
  exact W.vret S.1 S.2.1 hr (fun t ht hW => ⟨⟨ad4, rfl, hea, by rw [ht]; exact hw.2.1, hw.2.2.1⟩, hw.2.2.2.1.F ht⟩) hw.2.2.2.1.2.2 dX1_init_36 hlk
set_option maxRecDepth 100000 in
set_option maxHeartbeats 4000000 in
theorem c_X5_init {l : Launch} {D : va_G} {cA : Nat → ClassId} {ad : Nat → Nat} {A : Nat → Prop} {g : Nat → Bool} {z : ZI} (hz0 : Zzero z 60) (hg : ∀ k, 60 ≤ k → g k = false) : Met l yX5_init (ZV yX5_init cX5_init 1 none) (Rmi 1 3 180) (ZPi D cA ad A g 60 [.ref (ad 59)] z) (ZQn D cA ad A g 60 63 z) 3 180 A := by
  refine Met.ofW (cc := cX5_init) (maxL := 1) (ret := none) (by decide) rfl ?_
  intro p e s m args below meth c s₁ B hml hv2
  obtain ⟨rfl, hA, hE, hP, hD⟩ := hv2
  have hts := atoms_spec (ws := ZV yX5_init cX5_init 1 none) B.pre
  have hown : s.vm.findClass yX5_init.cls = some m.cls := findClass_of_methodNamed B.named
  have hin0 : meth.name = "<init>" := (name_of_methodNamed B.named B.method).1
  have hl := lv_entry [Value.ref (ad 59)] (n := 1) (Nat.le_of_ble_eq_true rfl)
  rw [lg_entry_eq]
  generalize (lg_sl [Value.ref (ad 59)] ++ List.replicate (1 - (lg_sl [Value.ref (ad 59)]).length) Slot.unset).toArray = ls at hl ⊢
  have hl : lv_has ls 1 [(0, .ref (ad 59))] := hl
  have S : CallFix p m c cX5_init 1 s [Value.ref (ad 59)].toArray Ztbl RX5 := ⟨B.exec, B.bytes, hml, hown, fun w hw => hts w (List.mem_cons_of_mem _ hw)⟩
  have hr := B.returns
  have hlk := B.notSynchronized
  have hA2 : ∀ q, A q → A q := fun q h => h
  have hw : PW D cA ad A (Zc z) (gto g 60 60) 60 s s.heap [] := by
    rw [gto_0]
    exact ⟨hE, hP, hD, va_S.rf, by decide, hg⟩
  have hea : ∀ k, k < 60 ∨ 129 ≤ k → ad k = ad k := fun k _ => rfl
  show W p l e (Rmi 1 3 180) s m _ below meth c s.heap [] 0 0 _ _
  refine lv_aload_n S.1 S.2.1 dX5_init_0 rfl (lv_at hl 0 rfl) ?_
  refine W.objInit S.1 S.2.1 S.2.2.2.1 (S.2.2.2.2 _ (Ztb 335 (by decide +kernel) rfl : Cond.methodLink RX5 3 Lib.objectInit ∈ Ztbl)) (S.2.2.2.2 _ oi_i) (S.2.2.2.2 _ oi_c) rfl (by rw [hml]; exact hl.1) rfl dX5_init_1 (Nat.le_of_ble_eq_true rfl) (Nat.le_of_ble_eq_true rfl) ?_
  refine W.eq (g2 := F0 m 4 ls []) rfl ?_
  refine lv_aload_n S.1 S.2.1 dX5_init_4 rfl (lv_at hl 0 rfl) ?_
  refine lv_bipush (v := i32 60) S.1 S.2.1 dX5_init_5 (by decide) ?_
  refine ProwF (n := 60) (k1 := 59) (j0 := 1) (a := 60) (t := 0) (len := 60) (i := 0) (N2 := 60) (index := 9) (C := RX5) (T := TX5) (N := 5) (ty := .array .int) S hw hA zd_60 (Zz_1 hz0 (by decide)) (Zz_2 hz0) (Zz_3 hz0) ac_0 rfl (fun _ => rfl) (fun _ _ h => h) (fun _ => rfl) (by decide) (by decide) (by decide) ⟨by decide, by decide⟩ (by decide) (by decide) (by decide +kernel) zd_59 rfl zc_X5 iX5 tyX5 tyX5_ok nmX5 (by decide) (Ztb 338 (by decide +kernel) rfl) rfl hin0 rfl (by decide +kernel) (fun _ => rfl) (fun _ => rfl) dX5_init_7 dX5_init_9 (fun q H locs hw => ?_)
  replace hz0 := Zz_up hz0 (Nat.le_succ _)
  obtain ⟨ad1, hw, ea⟩ : ∃ a : Nat → Nat, PW D cA a A (Zc z) (gto g 60 61) 61 s H locs ∧ ∀ k, k ≠ 60 → a k = ad k := ⟨_, hw, fun k hk => if_neg hk⟩
  replace hea : ∀ k, k < 60 ∨ 129 ≤ k → ad1 k = ad k := fun k hk => (ea k (by omega)).trans (hea k hk)
  rw [← ea 59 (by decide)] at hl
  clear ea
  refine lv_aload_n S.1 S.2.1 dX5_init_12 rfl (lv_at hl 0 rfl) ?_
  refine lv_bipush (v := i32 60) S.1 S.2.1 dX5_init_13 (by decide) ?_
  refine ProwF (n := 61) (k1 := 59) (j0 := 3) (a := 60) (t := 0) (len := 60) (i := 0) (N2 := 60) (index := 15) (C := RX5) (T := TX5) (N := 5) (ty := .array .int) S hw hA zd_61 (Zz_1 hz0 (by decide)) (Zz_2 hz0) (Zz_3 hz0) ac_0 rfl (fun _ => rfl) (fun _ _ h => h) (fun _ => rfl) (by decide) (by decide) (by decide) ⟨by decide, by decide⟩ (by decide) (by decide) (by decide +kernel) zd_59 rfl zc_X5 iX5 tyX5 tyX5_ok nmX5 (by decide) (Ztb 340 (by decide +kernel) rfl) rfl hin0 rfl (by decide +kernel) (fun _ => rfl) (fun _ => rfl) dX5_init_15 dX5_init_17 (fun q H locs hw => ?_)
  replace hz0 := Zz_up hz0 (Nat.le_succ _)
  obtain ⟨ad2, hw, ea⟩ : ∃ a : Nat → Nat, PW D cA a A (Zc z) (gto g 60 62) 62 s H locs ∧ ∀ k, k ≠ 61 → a k = ad1 k := ⟨_, hw, fun k hk => if_neg hk⟩
  replace hea : ∀ k, k < 60 ∨ 129 ≤ k → ad2 k = ad k := fun k hk => (ea k (by omega)).trans (hea k hk)
  rw [← ea 59 (by decide)] at hl
  clear ea
  refine lv_aload_n S.1 S.2.1 dX5_init_20 rfl (lv_at hl 0 rfl) ?_
  refine lv_bipush (v := i32 60) S.1 S.2.1 dX5_init_21 (by decide) ?_
  refine ProwF (n := 62) (k1 := 59) (j0 := 4) (a := 60) (t := 0) (len := 60) (i := 0) (N2 := 60) (index := 18) (C := RX5) (T := TX5) (N := 5) (ty := .array .int) S hw hA zd_62 (Zz_1 hz0 (by decide)) (Zz_2 hz0) (Zz_3 hz0) ac_0 rfl (fun _ => rfl) (fun _ _ h => h) (fun _ => rfl) (by decide) (by decide) (by decide) ⟨by decide, by decide⟩ (by decide) (by decide) (by decide +kernel) zd_59 rfl zc_X5 iX5 tyX5 tyX5_ok nmX5 (by decide) (Ztb 341 (by decide +kernel) rfl) rfl hin0 rfl (by decide +kernel) (fun _ => rfl) (fun _ => rfl) dX5_init_23 dX5_init_25 (fun q H locs hw => ?_)
  replace hz0 := Zz_up hz0 (Nat.le_succ _)
  obtain ⟨ad3, hw, ea⟩ : ∃ a : Nat → Nat, PW D cA a A (Zc z) (gto g 60 63) 63 s H locs ∧ ∀ k, k ≠ 62 → a k = ad2 k := ⟨_, hw, fun k hk => if_neg hk⟩
  replace hea : ∀ k, k < 60 ∨ 129 ≤ k → ad3 k = ad k := fun k hk => (ea k (by omega)).trans (hea k hk)
  rw [← ea 59 (by decide)] at hl
  clear ea
  exact W.vret S.1 S.2.1 hr (fun t ht hW => ⟨⟨ad3, rfl, hea, by rw [ht]; exact hw.2.1, hw.2.2.1⟩, hw.2.2.2.1.F ht⟩) hw.2.2.2.1.2.2 dX5_init_28 hlk
set_option maxRecDepth 100000 in
set_option maxHeartbeats 4000000 in
theorem c_X8_init {l : Launch} {D : va_G} {cA : Nat → ClassId} {ad : Nat → Nat} {A : Nat → Prop} {g : Nat → Bool} {z : ZI} (hz0 : Zzero z 38) (hg : ∀ k, 38 ≤ k → g k = false) : Met l yX8_init (ZV yX8_init cX8_init 1 none) (Rmi 1 3 180) (ZPi D cA ad A g 38 [.ref (ad 37)] z) (ZQn D cA ad A g 38 41 z) 3 180 A := by
  refine Met.ofW (cc := cX8_init) (maxL := 1) (ret := none) (by decide) rfl ?_
  intro p e s m args below meth c s₁ B hml hv2
  obtain ⟨rfl, hA, hE, hP, hD⟩ := hv2
  have hts := atoms_spec (ws := ZV yX8_init cX8_init 1 none) B.pre
  have hown : s.vm.findClass yX8_init.cls = some m.cls := findClass_of_methodNamed B.named
  have hin0 : meth.name = "<init>" := (name_of_methodNamed B.named B.method).1
  have hl := lv_entry [Value.ref (ad 37)] (n := 1) (Nat.le_of_ble_eq_true rfl)
  rw [lg_entry_eq]
  generalize (lg_sl [Value.ref (ad 37)] ++ List.replicate (1 - (lg_sl [Value.ref (ad 37)]).length) Slot.unset).toArray = ls at hl ⊢
  have hl : lv_has ls 1 [(0, .ref (ad 37))] := hl
  have S : CallFix p m c cX8_init 1 s [Value.ref (ad 37)].toArray Ztbl RX8 := ⟨B.exec, B.bytes, hml, hown, fun w hw => hts w (List.mem_cons_of_mem _ hw)⟩
  have hr := B.returns
  have hlk := B.notSynchronized
  have hA2 : ∀ q, A q → A q := fun q h => h
  have hw : PW D cA ad A (Zc z) (gto g 38 38) 38 s s.heap [] := by
    rw [gto_0]
    exact ⟨hE, hP, hD, va_S.rf, by decide, hg⟩
  have hea : ∀ k, k < 38 ∨ 129 ≤ k → ad k = ad k := fun k _ => rfl
  show W p l e (Rmi 1 3 180) s m _ below meth c s.heap [] 0 0 _ _
  refine lv_aload_n S.1 S.2.1 dX8_init_0 rfl (lv_at hl 0 rfl) ?_
  refine W.objInit S.1 S.2.1 S.2.2.2.1 (S.2.2.2.2 _ (Ztb 234 (by decide +kernel) rfl : Cond.methodLink RX8 3 Lib.objectInit ∈ Ztbl)) (S.2.2.2.2 _ oi_i) (S.2.2.2.2 _ oi_c) rfl (by rw [hml]; exact hl.1) rfl dX8_init_1 (Nat.le_of_ble_eq_true rfl) (Nat.le_of_ble_eq_true rfl) ?_
  refine W.eq (g2 := F0 m 4 ls []) rfl ?_
  refine lv_aload_n S.1 S.2.1 dX8_init_4 rfl (lv_at hl 0 rfl) ?_
  refine lv_bipush (v := i32 60) S.1 S.2.1 dX8_init_5 (by decide) ?_
  refine ProwF (n := 38) (k1 := 37) (j0 := 1) (a := 38) (t := 0) (len := 60) (i := 0) (N2 := 60) (index := 9) (C := RX8) (T := TX8) (N := 4) (ty := .array .int) S hw hA zd_38 (Zz_1 hz0 (by decide)) (Zz_2 hz0) (Zz_3 hz0) ac_0 rfl (fun _ => rfl) (fun _ _ h => h) (fun _ => rfl) (by decide) (by decide) (by decide) ⟨by decide, by decide⟩ (by decide) (by decide) (by decide +kernel) zd_37 rfl zc_X8 iX8 tyX8 tyX8_ok nmX8 (by decide) (Ztb 237 (by decide +kernel) rfl) rfl hin0 rfl (by decide +kernel) (fun _ => rfl) (fun _ => rfl) dX8_init_7 dX8_init_9 (fun q H locs hw => ?_)
  replace hz0 := Zz_up hz0 (Nat.le_succ _)
  obtain ⟨ad1, hw, ea⟩ : ∃ a : Nat → Nat, PW D cA a A (Zc z) (gto g 38 39) 39 s H locs ∧ ∀ k, k ≠ 38 → a k = ad k := ⟨_, hw, fun k hk => if_neg hk⟩
  replace hea : ∀ k, k < 38 ∨ 129 ≤ k → ad1 k = ad k := fun k hk => (ea k (by omega)).trans (hea k hk)
  rw [← ea 37 (by decide)] at hl
  clear ea
  refine lv_aload_n S.1 S.2.1 dX8_init_12 rfl (lv_at hl 0 rfl) ?_
  refine lv_bipush (v := i32 60) S.1 S.2.1 dX8_init_13 (by decide) ?_
  refine ProwF (n := 39) (k1 := 37) (j0 := 2) (a := 38) (t := 0) (len := 60) (i := 0) (N2 := 60) (index := 15) (C := RX8) (T := TX8) (N := 4) (ty := .array .int) S hw hA zd_39 (Zz_1 hz0 (by decide)) (Zz_2 hz0) (Zz_3 hz0) ac_0 rfl (fun _ => rfl) (fun _ _ h => h) (fun _ => rfl) (by decide) (by decide) (by decide) ⟨by decide, by decide⟩ (by decide) (by decide) (by decide +kernel) zd_37 rfl zc_X8 iX8 tyX8 tyX8_ok nmX8 (by decide) (Ztb 238 (by decide +kernel) rfl) rfl hin0 rfl (by decide +kernel) (fun _ => rfl) (fun _ => rfl) dX8_init_15 dX8_init_17 (fun q H locs hw => ?_)
  replace hz0 := Zz_up hz0 (Nat.le_succ _)
  obtain ⟨ad2, hw, ea⟩ : ∃ a : Nat → Nat, PW D cA a A (Zc z) (gto g 38 40) 40 s H locs ∧ ∀ k, k ≠ 39 → a k = ad1 k := ⟨_, hw, fun k hk => if_neg hk⟩
  replace hea : ∀ k, k < 38 ∨ 129 ≤ k → ad2 k = ad k := fun k hk => (ea k (by omega)).trans (hea k hk)
  rw [← ea 37 (by decide)] at hl
  clear ea
  refine lv_aload_n S.1 S.2.1 dX8_init_20 rfl (lv_at hl 0 rfl) ?_
  refine lv_bipush (v := i32 60) S.1 S.2.1 dX8_init_21 (by decide) ?_
  refine ProwF (n := 40) (k1 := 37) (j0 := 3) (a := 38) (t := 0) (len := 60) (i := 0) (N2 := 60) (index := 18) (C := RX8) (T := TX8) (N := 4) (ty := .array .int) S hw hA zd_40 (Zz_1 hz0 (by decide)) (Zz_2 hz0) (Zz_3 hz0) ac_0 rfl (fun _ => rfl) (fun _ _ h => h) (fun _ => rfl) (by decide) (by decide) (by decide) ⟨by decide, by decide⟩ (by decide) (by decide) (by decide +kernel) zd_37 rfl zc_X8 iX8 tyX8 tyX8_ok nmX8 (by decide) (Ztb 239 (by decide +kernel) rfl) rfl hin0 rfl (by decide +kernel) (fun _ => rfl) (fun _ => rfl) dX8_init_23 dX8_init_25 (fun q H locs hw => ?_)
  replace hz0 := Zz_up hz0 (Nat.le_succ _)
  obtain ⟨ad3, hw, ea⟩ : ∃ a : Nat → Nat, PW D cA a A (Zc z) (gto g 38 41) 41 s H locs ∧ ∀ k, k ≠ 40 → a k = ad2 k := ⟨_, hw, fun k hk => if_neg hk⟩
  replace hea : ∀ k, k < 38 ∨ 129 ≤ k → ad3 k = ad k := fun k hk => (ea k (by omega)).trans (hea k hk)
  rw [← ea 37 (by decide)] at hl
  clear ea
  exact W.vret S.1 S.2.1 hr (fun t ht hW => ⟨⟨ad3, rfl, hea, by rw [ht]; exact hw.2.1, hw.2.2.1⟩, hw.2.2.2.1.F ht⟩) hw.2.2.2.1.2.2 dX8_init_28 hlk
set_option maxRecDepth 100000 in
set_option maxHeartbeats 4000000 in
theorem c_X4_init {l : Launch} {D : va_G} {cA : Nat → ClassId} {ad : Nat → Nat} {A : Nat → Prop} {g : Nat → Bool} {z : ZI} (hz0 : Zzero z 3) (hg : ∀ k, 3 ≤ k → g k = false) : Met l yX4_init (ZV yX4_init cX4_init 1 none) (Rmi 1 8 1108) (ZPi D cA ad A g 3 [.ref (ad 2)] z) (ZQn D cA ad A g 3 11 (Zfi (Zfi z 3 144 50) 5 144 (-9))) 8 1108 A := by
  refine Met.ofW (cc := cX4_init) (maxL := 1) (ret := none) (by decide) rfl ?_
  intro p e s m args below meth c s₁ B hml hv2
  obtain ⟨rfl, hA, hE, hP, hD⟩ := hv2
  have hts := atoms_spec (ws := ZV yX4_init cX4_init 1 none) B.pre
  have hown : s.vm.findClass yX4_init.cls = some m.cls := findClass_of_methodNamed B.named
  have hin0 : meth.name = "<init>" := (name_of_methodNamed B.named B.method).1
  have hl := lv_entry [Value.ref (ad 2)] (n := 1) (Nat.le_of_ble_eq_true rfl)
  rw [lg_entry_eq]
  generalize (lg_sl [Value.ref (ad 2)] ++ List.replicate (1 - (lg_sl [Value.ref (ad 2)]).length) Slot.unset).toArray = ls at hl ⊢
  have hl : lv_has ls 1 [(0, .ref (ad 2))] := hl
  have S : CallFix p m c cX4_init 1 s [Value.ref (ad 2)].toArray Ztbl RX4 := ⟨B.exec, B.bytes, hml, hown, fun w hw => hts w (List.mem_cons_of_mem _ hw)⟩
  have hr := B.returns
  have hlk := B.notSynchronized
  have hA2 : ∀ q, A q → A q := fun q h => h
  have hw : PW D cA ad A (Zc z) (gto g 3 3) 3 s s.heap [] := by
    rw [gto_0]
    exact ⟨hE, hP, hD, va_S.rf, by decide, hg⟩
  have hea : ∀ k, k < 3 ∨ 129 ≤ k → ad k = ad k := fun k _ => rfl
  show W p l e (Rmi 1 8 1108) s m _ below meth c s.heap [] 0 0 _ _
  refine lv_aload_n S.1 S.2.1 dX4_init_0 rfl (lv_at hl 0 rfl) ?_
  refine W.objInit S.1 S.2.1 S.2.2.2.1 (S.2.2.2.2 _ (Ztb 35 (by decide +kernel) rfl : Cond.methodLink RX4 3 Lib.objectInit ∈ Ztbl)) (S.2.2.2.2 _ oi_i) (S.2.2.2.2 _ oi_c) rfl (by rw [hml]; exact hl.1) rfl dX4_init_1 (Nat.le_of_ble_eq_true rfl) (Nat.le_of_ble_eq_true rfl) ?_
  refine W.eq (g2 := F0 m 4 ls []) rfl ?_
  refine lv_aload_n S.1 S.2.1 dX4_init_4 rfl (lv_at hl 0 rfl) ?_
  refine lv_sipush (v := i32 144) S.1 S.2.1 dX4_init_5 (by decide) ?_
  refine ProwF (n := 3) (k1 := 2) (j0 := 0) (a := 3) (t := 0) (len := 144) (i := 0) (N2 := 144) (index := 9) (C := RX4) (T := TX4) (N := 11) (ty := .array .int) S hw hA zd_3 (Zz_1 hz0 (by decide)) (Zz_2 hz0) (Zz_3 hz0) ac_0 rfl (fun _ => rfl) (fun _ _ h => h) (fun _ => rfl) (by decide) (by decide) (by decide) ⟨by decide, by decide⟩ (by decide) (by decide) (by decide +kernel) zd_2 rfl zc_X4 iX4 tyX4 tyX4_ok nmX4 (by decide) (Ztb 39 (by decide +kernel) rfl) rfl hin0 rfl (by decide +kernel) (fun _ => rfl) (fun _ => rfl) dX4_init_8 dX4_init_10 (fun q H locs hw => ?_)
  replace hz0 := Zz_up hz0 (Nat.le_succ _)
  obtain ⟨ad1, hw, ea⟩ : ∃ a : Nat → Nat, PW D cA a A (Zc z) (gto g 3 4) 4 s H locs ∧ ∀ k, k ≠ 3 → a k = ad k := ⟨_, hw, fun k hk => if_neg hk⟩
  replace hea : ∀ k, k < 3 ∨ 129 ≤ k → ad1 k = ad k := fun k hk => (ea k (by omega)).trans (hea k hk)
  rw [← ea 2 (by decide)] at hl
  clear ea
  refine lv_aload_n S.1 S.2.1 dX4_init_13 rfl (lv_at hl 0 rfl) ?_
  refine va_get (v := .ref (ad1 3)) S.1 S.2.1 S.2.2.2.2 iX4 S.2.2.2.1 hw.1.1 hw.2.1 2 (Zqw_get zd_2 (by decide)) zc_X4 0 (by decide) (S.2.2.2.2 _ (Ztb 39 (by decide +kernel) rfl : Cond.fieldLink RX4 9 (TX4 0).1 (TX4 0).2.1 (TX4 0).2.2.1 ∈ Ztbl)) (fun _ h => h) (Zfvp_ref rfl (gto_t (by decide))) dX4_init_14 ?_
  refine lv_bipush (v := i32 50) S.1 S.2.1 dX4_init_17 (by decide) ?_
  refine va_callv (va_runS (As := [.ref (ad1 3), .int (i32 50)]) (rest := []) S (c_fillP (l := l) (D := D) (cA := cA) (ad := ad1) (A := A) (g := gto g 3 4) (n := 4) (z := z) zd_3 (by decide) (by decide) ⟨by decide, by decide⟩ ⟨by decide, by decide⟩) ⟨Zcb (h := 0) S my_J7_fill_53178 (Ztb 36 (by decide +kernel) rfl) ⟨by decide, by decide⟩, S.2.2.2.2 _ ms_J7_fill_53178⟩ ⟨ZPf_blind, ZPf_down hw⟩ rfl rfl hl.1 rfl (lv_room (Nat.le_of_ble_eq_true rfl)) dX4_init_19 ⟨by decide, by decide⟩) hw.2.2.2.1 (fun q _ h => h) (fun q h => hA2 q h) (fun u t H1 locs1 ht hvm hp hB hsz hk hS => ?_)
  replace hw : PW D cA ad1 A (Zc (Zfi z 3 144 50)) (gto g 3 4) 4 s H1 locs1 := ⟨hw.1, by rw [← ht]; exact hB.1, hB.2, hS, hw.2.2.2.2⟩
  replace hz0 := Zz_fi (k0 := 3) (i := 144) (v := 50) hz0 (by decide) (by decide)
  refine lv_aload_n S.1 S.2.1 dX4_init_22 rfl (lv_at hl 0 rfl) ?_
  refine lv_sipush (v := i32 144) S.1 S.2.1 dX4_init_23 (by decide) ?_
  refine ProwF (n := 4) (k1 := 2) (j0 := 1) (a := 3) (t := 0) (len := 144) (i := 0) (N2 := 144) (index := 21) (C := RX4) (T := TX4) (N := 11) (ty := .array .int) S hw hA zd_4 (Zz_1 hz0 (by decide)) (Zz_2 hz0) (Zz_3 hz0) ac_0 rfl (fun _ => rfl) (fun _ _ h => h) (fun _ => rfl) (by decide) (by decide) (by decide) ⟨by decide, by decide⟩ (by decide) (by decide) (by decide +kernel) zd_2 rfl zc_X4 iX4 tyX4 tyX4_ok nmX4 (by decide) (Ztb 40 (by decide +kernel) rfl) rfl hin0 rfl (by decide +kernel) (fun _ => rfl) (fun _ => rfl) dX4_init_26 dX4_init_28 (fun q H locs hw => ?_)
  replace hz0 := Zz_up hz0 (Nat.le_succ _)
  obtain ⟨ad2, hw, ea⟩ : ∃ a : Nat → Nat, PW D cA a A (Zc (Zfi z 3 144 50)) (gto g 3 5) 5 s H locs ∧ ∀ k, k ≠ 4 → a k = ad1 k := ⟨_, hw, fun k hk => if_neg hk⟩
  replace hea : ∀ k, k < 3 ∨ 129 ≤ k → ad2 k = ad k := fun k hk => (ea k (by omega)).trans (hea k hk)
  rw [← ea 2 (by decide)] at hl
  clear ea
  refine lv_aload_n S.1 S.2.1 dX4_init_31 rfl (lv_at hl 0 rfl) ?_
  refine lv_sipush (v := i32 144) S.1 S.2.1 dX4_init_32 (by decide) ?_
  refine ProwF (n := 5) (k1 := 2) (j0 := 3) (a := 3) (t := 0) (len := 144) (i := 0) (N2 := 144) (index := 24) (C := RX4) (T := TX4) (N := 11) (ty := .array .int) S hw hA zd_5 (Zz_1 hz0 (by decide)) (Zz_2 hz0) (Zz_3 hz0) ac_0 rfl (fun _ => rfl) (fun _ _ h => h) (fun _ => rfl) (by decide) (by decide) (by decide) ⟨by decide, by decide⟩ (by decide) (by decide) (by decide +kernel) zd_2 rfl zc_X4 iX4 tyX4 tyX4_ok nmX4 (by decide) (Ztb 43 (by decide +kernel) rfl) rfl hin0 rfl (by decide +kernel) (fun _ => rfl) (fun _ => rfl) dX4_init_35 dX4_init_37 (fun q H locs hw => ?_)
  replace hz0 := Zz_up hz0 (Nat.le_succ _)
  obtain ⟨ad3, hw, ea⟩ : ∃ a : Nat → Nat, PW D cA a A (Zc (Zfi z 3 144 50)) (gto g 3 6) 6 s H locs ∧ ∀ k, k ≠ 5 → a k = ad2 k := ⟨_, hw, fun k hk => if_neg hk⟩
  replace hea : ∀ k, k < 3 ∨ 129 ≤ k → ad3 k = ad k := fun k hk => (ea k (by omega)).trans (hea k hk)
  rw [← ea 2 (by decide)] at hl
  clear ea
  refine lv_aload_n S.1 S.2.1 dX4_init_40 rfl (lv_at hl 0 rfl) ?_
  refine va_get (v := .ref (ad3 5)) S.1 S.2.1 S.2.2.2.2 iX4 S.2.2.2.1 hw.1.1 hw.2.1 2 (Zqw_get zd_2 (by decide)) zc_X4 3 (by decide) (S.2.2.2.2 _ (Ztb 43 (by decide +kernel) rfl : Cond.fieldLink RX4 24 (TX4 3).1 (TX4 3).2.1 (TX4 3).2.2.1 ∈ Ztbl)) (fun _ h => h) (Zfvp_ref rfl (gto_t (by decide))) dX4_init_41 ?_
  refine lv_bipush (v := i32 (-9)) S.1 S.2.1 dX4_init_44 (by decide) ?_
  refine va_callv (va_runS (As := [.ref (ad3 5), .int (i32 (-9))]) (rest := []) S (c_fillP (l := l) (D := D) (cA := cA) (ad := ad3) (A := A) (g := gto g 3 6) (n := 6) (z := (Zfi z 3 144 50)) zd_5 (by decide) (by decide) ⟨by decide, by decide⟩ ⟨by decide, by decide⟩) ⟨Zcb (h := 0) S my_J7_fill_53178 (Ztb 36 (by decide +kernel) rfl) ⟨by decide, by decide⟩, S.2.2.2.2 _ ms_J7_fill_53178⟩ ⟨ZPf_blind, ZPf_down hw⟩ rfl rfl hl.1 rfl (lv_room (Nat.le_of_ble_eq_true rfl)) dX4_init_46 ⟨by decide, by decide⟩) hw.2.2.2.1 (fun q _ h => h) (fun q h => hA2 q h) (fun u t H1 locs1 ht hvm hp hB hsz hk hS => ?_)
  replace hw : PW D cA ad3 A (Zc (Zfi (Zfi z 3 144 50) 5 144 (-9))) (gto g 3 6) 6 s H1 locs1 := ⟨hw.1, by rw [← ht]; exact hB.1, hB.2, hS, hw.2.2.2.2⟩
  replace hz0 := Zz_fi (k0 := 5) (i := 144) (v := (-9)) hz0 (by decide) (by decide)
  refine lv_aload_n S.1 S.2.1 dX4_init_49 rfl (lv_at hl 0 rfl) ?_
  refine lv_sipush (v := i32 144) S.1 S.2.1 dX4_init_50 (by decide) ?_
  refine ProwF (n := 6) (k1 := 2) (j0 := 5) (a := 3) (t := 0) (len := 144) (i := 0) (N2 := 144) (index := 27) (C := RX4) (T := TX4) (N := 11) (ty := .array .int) S hw hA zd_6 (Zz_1 hz0 (by decide)) (Zz_2 hz0) (Zz_3 hz0) ac_0 rfl (fun _ => rfl) (fun _ _ h => h) (fun _ => rfl) (by decide) (by decide) (by decide) ⟨by decide, by decide⟩ (by decide) (by decide) (by decide +kernel) zd_2 rfl zc_X4 iX4 tyX4 tyX4_ok nmX4 (by decide) (Ztb 47 (by decide +kernel) rfl) rfl hin0 rfl (by decide +kernel) (fun _ => rfl) (fun _ => rfl) dX4_init_53 dX4_init_55 (fun q H locs hw => ?_)
  replace hz0 := Zz_up hz0 (Nat.le_succ _)
  obtain ⟨ad4, hw, ea⟩ : ∃ a : Nat → Nat, PW D cA a A (Zc (Zfi (Zfi z 3 144 50) 5 144 (-9))) (gto g 3 7) 7 s H locs ∧ ∀ k, k ≠ 6 → a k = ad3 k := ⟨_, hw, fun k hk => if_neg hk⟩
  replace hea : ∀ k, k < 3 ∨ 129 ≤ k → ad4 k = ad k := fun k hk => (ea k (by omega)).trans (hea k hk)
  rw [← ea 2 (by decide)] at hl
  clear ea
  refine lv_aload_n S.1 S.2.1 dX4_init_58 rfl (lv_at hl 0 rfl) ?_
  refine lv_sipush (v := i32 144) S.1 S.2.1 dX4_init_59 (by decide) ?_
  refine ProwF (n := 7) (k1 := 2) (j0 := 6) (a := 3) (t := 0) (len := 144) (i := 0) (N2 := 144) (index := 30) (C := RX4) (T := TX4) (N := 11) (ty := .array .int) S hw hA zd_7 (Zz_1 hz0 (by decide)) (Zz_2 hz0) (Zz_3 hz0) ac_0 rfl (fun _ => rfl) (fun _ _ h => h) (fun _ => rfl) (by decide) (by decide) (by decide) ⟨by decide, by decide⟩ (by decide) (by decide) (by decide +kernel) zd_2 rfl zc_X4 iX4 tyX4 tyX4_ok nmX4 (by decide) (Ztb 48 (by decide +kernel) rfl) rfl hin0 rfl (by decide +kernel) (fun _ => rfl) (fun _ => rfl) dX4_init_62 dX4_init_64 (fun q H locs hw => ?_)
  replace hz0 := Zz_up hz0 (Nat.le_succ _)
  obtain ⟨ad5, hw, ea⟩ : ∃ a : Nat → Nat, PW D cA a A (Zc (Zfi (Zfi z 3 144 50) 5 144 (-9))) (gto g 3 8) 8 s H locs ∧ ∀ k, k ≠ 7 → a k = ad4 k := ⟨_, hw, fun k hk => if_neg hk⟩
  replace hea : ∀ k, k < 3 ∨ 129 ≤ k → ad5 k = ad k := fun k hk => (ea k (by omega)).trans (hea k hk)
  rw [← ea 2 (by decide)] at hl
  clear ea
  refine lv_aload_n S.1 S.2.1 dX4_init_67 rfl (lv_at hl 0 rfl) ?_
  refine lv_bipush (v := i32 100) S.1 S.2.1 dX4_init_68 (by decide) ?_
  refine ProwF (n := 8) (k1 := 2) (j0 := 7) (a := 3) (t := 0) (len := 100) (i := 0) (N2 := 100) (index := 33) (C := RX4) (T := TX4) (N := 11) (ty := .array .int) S hw hA zd_8 (Zz_1 hz0 (by decide)) (Zz_2 hz0) (Zz_3 hz0) ac_0 rfl (fun _ => rfl) (fun _ _ h => h) (fun _ => rfl) (by decide) (by decide) (by decide) ⟨by decide, by decide⟩ (by decide) (by decide) (by decide +kernel) zd_2 rfl zc_X4 iX4 tyX4 tyX4_ok nmX4 (by decide) (Ztb 49 (by decide +kernel) rfl) rfl hin0 rfl (by decide +kernel) (fun _ => rfl) (fun _ => rfl) dX4_init_70 dX4_init_72 (fun q H locs hw => ?_)
  replace hz0 := Zz_up hz0 (Nat.le_succ _)
  obtain ⟨ad6, hw, ea⟩ : ∃ a : Nat → Nat, PW D cA a A (Zc (Zfi (Zfi z 3 144 50) 5 144 (-9))) (gto g 3 9) 9 s H locs ∧ ∀ k, k ≠ 8 → a k = ad5 k := ⟨_, hw, fun k hk => if_neg hk⟩
  replace hea : ∀ k, k < 3 ∨ 129 ≤ k → ad6 k = ad k := fun k hk => (ea k (by omega)).trans (hea k hk)
  rw [← ea 2 (by decide)] at hl
  clear ea
  refine lv_aload_n S.1 S.2.1 dX4_init_75 rfl (lv_at hl 0 rfl) ?_
  refine lv_sipush (v := i32 144) S.1 S.2.1 dX4_init_76 (by decide) ?_
  refine ProwF (n := 9) (k1 := 2) (j0 := 9) (a := 3) (t := 0) (len := 144) (i := 0) (N2 := 144) (index := 36) (C := RX4) (T := TX4) (N := 11) (ty := .array .int) S hw hA zd_9 (Zz_1 hz0 (by decide)) (Zz_2 hz0) (Zz_3 hz0) ac_0 rfl (fun _ => rfl) (fun _ _ h => h) (fun _ => rfl) (by decide) (by decide) (by decide) ⟨by decide, by decide⟩ (by decide) (by decide) (by decide +kernel) zd_2 rfl zc_X4 iX4 tyX4 tyX4_ok nmX4 (by decide) (Ztb 51 (by decide +kernel) rfl) rfl hin0 rfl (by decide +kernel) (fun _ => rfl) (fun _ => rfl) dX4_init_79 dX4_init_81 (fun q H locs hw => ?_)
  replace hz0 := Zz_up hz0 (Nat.le_succ _)
  obtain ⟨ad7, hw, ea⟩ : ∃ a : Nat → Nat, PW D cA a A (Zc (Zfi (Zfi z 3 144 50) 5 144 (-9))) (gto g 3 10) 10 s H locs ∧ ∀ k, k ≠ 9 → a k = ad6 k := ⟨_, hw, fun k hk => if_neg hk⟩
  replace hea : ∀ k, k < 3 ∨ 129 ≤ k → ad7 k = ad k := fun k hk => (ea k (by omega)).trans (hea k hk)
  rw [← ea 2 (by decide)] at hl
  clear ea
  refine lv_aload_n S.1 S.2.1 dX4_init_84 rfl (lv_at hl 0 rfl) ?_
  refine lv_sipush (v := i32 144) S.1 S.2.1 dX4_init_85 (by decide) ?_
  refine ProwF (n := 10) (k1 := 2) (j0 := 10) (a := 3) (t := 2) (len := 144) (i := 2) (N2 := 144) (index := 39) (C := RX4) (T := TX4) (N := 11) (ty := .array .boolean) S hw hA zd_10 (Zz_1 hz0 (by decide)) (Zz_2 hz0) (Zz_3 hz0) ac_2 rfl (fun _ => rfl) (fun _ _ h => h) (fun _ => rfl) (by decide) (by decide) (by decide) ⟨by decide, by decide⟩ (by decide) (by decide) (by decide +kernel) zd_2 rfl zc_X4 iX4 tyX4 tyX4_ok nmX4 (by decide) (Ztb 52 (by decide +kernel) rfl) rfl hin0 rfl (by decide +kernel) (fun _ => rfl) (fun _ => rfl) dX4_init_88 dX4_init_90 (fun q H locs hw => ?_)
  replace hz0 := Zz_up hz0 (Nat.le_succ _)
  obtain ⟨ad8, hw, ea⟩ : ∃ a : Nat → Nat, PW D cA a A (Zc (Zfi (Zfi z 3 144 50) 5 144 (-9))) (gto g 3 11) 11 s H locs ∧ ∀ k, k ≠ 10 → a k = ad7 k := ⟨_, hw, fun k hk => if_neg hk⟩
  replace hea : ∀ k, k < 3 ∨ 129 ≤ k → ad8 k = ad k := fun k hk => (ea k (by omega)).trans (hea k hk)
  rw [← ea 2 (by decide)] at hl
  clear ea
  exact W.vret S.1 S.2.1 hr (fun t ht hW => ⟨⟨ad8, rfl, hea, by rw [ht]; exact hw.2.1, hw.2.2.1⟩, hw.2.2.2.1.F ht⟩) hw.2.2.2.1.2.2 dX4_init_93 hlk
set_option maxRecDepth 100000 in
set_option maxHeartbeats 4000000 in
theorem c_X3_init {l : Launch} {D : va_G} {cA : Nat → ClassId} {ad : Nat → Nat} {A : Nat → Prop} {g : Nat → Bool} {z : ZI} (hz0 : Zzero z 12) (hg : ∀ k, 12 ≤ k → g k = false) : Met l yX3_init (ZV yX3_init cX3_init 1 none) (Rmi 1 12 1014) (ZPi D cA ad A g 12 [.ref (ad 11)] z) (ZQn D cA ad A g 12 24 (Zfi z 14 144 (-9))) 12 1014 A := by
  refine Met.ofW (cc := cX3_init) (maxL := 1) (ret := none) (by decide) rfl ?_
  intro p e s m args below meth c s₁ B hml hv2
  obtain ⟨rfl, hA, hE, hP, hD⟩ := hv2
  have hts := atoms_spec (ws := ZV yX3_init cX3_init 1 none) B.pre
  have hown : s.vm.findClass yX3_init.cls = some m.cls := findClass_of_methodNamed B.named
  have hin0 : meth.name = "<init>" := (name_of_methodNamed B.named B.method).1
  have hl := lv_entry [Value.ref (ad 11)] (n := 1) (Nat.le_of_ble_eq_true rfl)
  rw [lg_entry_eq]
  generalize (lg_sl [Value.ref (ad 11)] ++ List.replicate (1 - (lg_sl [Value.ref (ad 11)]).length) Slot.unset).toArray = ls at hl ⊢
  have hl : lv_has ls 1 [(0, .ref (ad 11))] := hl
  have S : CallFix p m c cX3_init 1 s [Value.ref (ad 11)].toArray Ztbl RX3 := ⟨B.exec, B.bytes, hml, hown, fun w hw => hts w (List.mem_cons_of_mem _ hw)⟩
  have hr := B.returns
  have hlk := B.notSynchronized
  have hA2 : ∀ q, A q → A q := fun q h => h
  have hw : PW D cA ad A (Zc z) (gto g 12 12) 12 s s.heap [] := by
    rw [gto_0]
    exact ⟨hE, hP, hD, va_S.rf, by decide, hg⟩
  have hea : ∀ k, k < 12 ∨ 129 ≤ k → ad k = ad k := fun k _ => rfl
  show W p l e (Rmi 1 12 1014) s m _ below meth c s.heap [] 0 0 _ _
  refine lv_aload_n S.1 S.2.1 dX3_init_0 rfl (lv_at hl 0 rfl) ?_
  refine W.objInit S.1 S.2.1 S.2.2.2.1 (S.2.2.2.2 _ (Ztb 83 (by decide +kernel) rfl : Cond.methodLink RX3 3 Lib.objectInit ∈ Ztbl)) (S.2.2.2.2 _ oi_i) (S.2.2.2.2 _ oi_c) rfl (by rw [hml]; exact hl.1) rfl dX3_init_1 (Nat.le_of_ble_eq_true rfl) (Nat.le_of_ble_eq_true rfl) ?_
  refine W.eq (g2 := F0 m 4 ls []) rfl ?_
  refine lv_aload_n S.1 S.2.1 dX3_init_4 rfl (lv_at hl 0 rfl) ?_
  refine lv_bipush (v := i32 30) S.1 S.2.1 dX3_init_5 (by decide) ?_
  refine ProwF (n := 12) (k1 := 11) (j0 := 1) (a := 12) (t := 0) (len := 30) (i := 0) (N2 := 30) (index := 9) (C := RX3) (T := TX3) (N := 15) (ty := .array .int) S hw hA zd_12 (Zz_1 hz0 (by decide)) (Zz_2 hz0) (Zz_3 hz0) ac_0 rfl (fun _ => rfl) (fun _ _ h => h) (fun _ => rfl) (by decide) (by decide) (by decide) ⟨by decide, by decide⟩ (by decide) (by decide) (by decide +kernel) zd_11 rfl zc_X3 iX3 tyX3 tyX3_ok nmX3 (by decide) (Ztb 89 (by decide +kernel) rfl) rfl hin0 rfl (by decide +kernel) (fun _ => rfl) (fun _ => rfl) dX3_init_7 dX3_init_9 (fun q H locs hw => ?_)
  replace hz0 := Zz_up hz0 (Nat.le_succ _)
  obtain ⟨ad1, hw, ea⟩ : ∃ a : Nat → Nat, PW D cA a A (Zc z) (gto g 12 13) 13 s H locs ∧ ∀ k, k ≠ 12 → a k = ad k := ⟨_, hw, fun k hk => if_neg hk⟩
  replace hea : ∀ k, k < 12 ∨ 129 ≤ k → ad1 k = ad k := fun k hk => (ea k (by omega)).trans (hea k hk)
  rw [← ea 11 (by decide)] at hl
  clear ea
  refine lv_aload_n S.1 S.2.1 dX3_init_12 rfl (lv_at hl 0 rfl) ?_
  refine lv_bipush (v := i32 30) S.1 S.2.1 dX3_init_13 (by decide) ?_
  refine ProwF (n := 13) (k1 := 11) (j0 := 2) (a := 12) (t := 0) (len := 30) (i := 0) (N2 := 30) (index := 15) (C := RX3) (T := TX3) (N := 15) (ty := .array .int) S hw hA zd_13 (Zz_1 hz0 (by decide)) (Zz_2 hz0) (Zz_3 hz0) ac_0 rfl (fun _ => rfl) (fun _ _ h => h) (fun _ => rfl) (by decide) (by decide) (by decide) ⟨by decide, by decide⟩ (by decide) (by decide) (by decide +kernel) zd_11 rfl zc_X3 iX3 tyX3 tyX3_ok nmX3 (by decide) (Ztb 90 (by decide +kernel) rfl) rfl hin0 rfl (by decide +kernel) (fun _ => rfl) (fun _ => rfl) dX3_init_15 dX3_init_17 (fun q H locs hw => ?_)
  replace hz0 := Zz_up hz0 (Nat.le_succ _)
  obtain ⟨ad2, hw, ea⟩ : ∃ a : Nat → Nat, PW D cA a A (Zc z) (gto g 12 14) 14 s H locs ∧ ∀ k, k ≠ 13 → a k = ad1 k := ⟨_, hw, fun k hk => if_neg hk⟩
  replace hea : ∀ k, k < 12 ∨ 129 ≤ k → ad2 k = ad k := fun k hk => (ea k (by omega)).trans (hea k hk)
  rw [← ea 11 (by decide)] at hl
  clear ea
  refine lv_aload_n S.1 S.2.1 dX3_init_20 rfl (lv_at hl 0 rfl) ?_
  refine lv_sipush (v := i32 144) S.1 S.2.1 dX3_init_21 (by decide) ?_
  refine ProwF (n := 14) (k1 := 11) (j0 := 3) (a := 12) (t := 0) (len := 144) (i := 0) (N2 := 144) (index := 18) (C := RX3) (T := TX3) (N := 15) (ty := .array .int) S hw hA zd_14 (Zz_1 hz0 (by decide)) (Zz_2 hz0) (Zz_3 hz0) ac_0 rfl (fun _ => rfl) (fun _ _ h => h) (fun _ => rfl) (by decide) (by decide) (by decide) ⟨by decide, by decide⟩ (by decide) (by decide) (by decide +kernel) zd_11 rfl zc_X3 iX3 tyX3 tyX3_ok nmX3 (by decide) (Ztb 91 (by decide +kernel) rfl) rfl hin0 rfl (by decide +kernel) (fun _ => rfl) (fun _ => rfl) dX3_init_24 dX3_init_26 (fun q H locs hw => ?_)
  replace hz0 := Zz_up hz0 (Nat.le_succ _)
  obtain ⟨ad3, hw, ea⟩ : ∃ a : Nat → Nat, PW D cA a A (Zc z) (gto g 12 15) 15 s H locs ∧ ∀ k, k ≠ 14 → a k = ad2 k := ⟨_, hw, fun k hk => if_neg hk⟩
  replace hea : ∀ k, k < 12 ∨ 129 ≤ k → ad3 k = ad k := fun k hk => (ea k (by omega)).trans (hea k hk)
  rw [← ea 11 (by decide)] at hl
  clear ea
  refine lv_aload_n S.1 S.2.1 dX3_init_29 rfl (lv_at hl 0 rfl) ?_
  refine va_get (v := .ref (ad3 14)) S.1 S.2.1 S.2.2.2.2 iX3 S.2.2.2.1 hw.1.1 hw.2.1 11 (Zqw_get zd_11 (by decide)) zc_X3 3 (by decide) (S.2.2.2.2 _ (Ztb 91 (by decide +kernel) rfl : Cond.fieldLink RX3 18 (TX3 3).1 (TX3 3).2.1 (TX3 3).2.2.1 ∈ Ztbl)) (fun _ h => h) (Zfvp_ref rfl (gto_t (by decide))) dX3_init_30 ?_
  refine lv_bipush (v := i32 (-9)) S.1 S.2.1 dX3_init_33 (by decide) ?_
  refine va_callv (va_runS (As := [.ref (ad3 14), .int (i32 (-9))]) (rest := []) S (c_fillP (l := l) (D := D) (cA := cA) (ad := ad3) (A := A) (g := gto g 12 15) (n := 15) (z := z) zd_14 (by decide) (by decide) ⟨by decide, by decide⟩ ⟨by decide, by decide⟩) ⟨Zcb (h := 0) S my_J7_fill_53178 (Ztb 84 (by decide +kernel) rfl) ⟨by decide, by decide⟩, S.2.2.2.2 _ ms_J7_fill_53178⟩ ⟨ZPf_blind, ZPf_down hw⟩ rfl rfl hl.1 rfl (lv_room (Nat.le_of_ble_eq_true rfl)) dX3_init_35 ⟨by decide, by decide⟩) hw.2.2.2.1 (fun q _ h => h) (fun q h => hA2 q h) (fun u t H1 locs1 ht hvm hp hB hsz hk hS => ?_)
  replace hw : PW D cA ad3 A (Zc (Zfi z 14 144 (-9))) (gto g 12 15) 15 s H1 locs1 := ⟨hw.1, by rw [← ht]; exact hB.1, hB.2, hS, hw.2.2.2.2⟩
  replace hz0 := Zz_fi (k0 := 14) (i := 144) (v := (-9)) hz0 (by decide) (by decide)
  refine lv_aload_n S.1 S.2.1 dX3_init_38 rfl (lv_at hl 0 rfl) ?_
  refine lv_bipush (v := i32 60) S.1 S.2.1 dX3_init_39 (by decide) ?_
  refine ProwF (n := 15) (k1 := 11) (j0 := 5) (a := 12) (t := 0) (len := 60) (i := 0) (N2 := 60) (index := 27) (C := RX3) (T := TX3) (N := 15) (ty := .array .int) S hw hA zd_15 (Zz_1 hz0 (by decide)) (Zz_2 hz0) (Zz_3 hz0) ac_0 rfl (fun _ => rfl) (fun _ _ h => h) (fun _ => rfl) (by decide) (by decide) (by decide) ⟨by decide, by decide⟩ (by decide) (by decide) (by decide +kernel) zd_11 rfl zc_X3 iX3 tyX3 tyX3_ok nmX3 (by decide) (Ztb 95 (by decide +kernel) rfl) rfl hin0 rfl (by decide +kernel) (fun _ => rfl) (fun _ => rfl) dX3_init_41 dX3_init_43 (fun q H locs hw => ?_)
  replace hz0 := Zz_up hz0 (Nat.le_succ _)
  obtain ⟨ad4, hw, ea⟩ : ∃ a : Nat → Nat, PW D cA a A (Zc (Zfi z 14 144 (-9))) (gto g 12 16) 16 s H locs ∧ ∀ k, k ≠ 15 → a k = ad3 k := ⟨_, hw, fun k hk => if_neg hk⟩
  replace hea : ∀ k, k < 12 ∨ 129 ≤ k → ad4 k = ad k := fun k hk => (ea k (by omega)).trans (hea k hk)
  rw [← ea 11 (by decide)] at hl
  clear ea
  refine lv_aload_n S.1 S.2.1 dX3_init_46 rfl (lv_at hl 0 rfl) ?_
  refine lv_bipush (v := i32 60) S.1 S.2.1 dX3_init_47 (by decide) ?_
  refine ProwF (n := 16) (k1 := 11) (j0 := 6) (a := 12) (t := 0) (len := 60) (i := 0) (N2 := 60) (index := 30) (C := RX3) (T := TX3) (N := 15) (ty := .array .int) S hw hA zd_16 (Zz_1 hz0 (by decide)) (Zz_2 hz0) (Zz_3 hz0) ac_0 rfl (fun _ => rfl) (fun _ _ h => h) (fun _ => rfl) (by decide) (by decide) (by decide) ⟨by decide, by decide⟩ (by decide) (by decide) (by decide +kernel) zd_11 rfl zc_X3 iX3 tyX3 tyX3_ok nmX3 (by decide) (Ztb 97 (by decide +kernel) rfl) rfl hin0 rfl (by decide +kernel) (fun _ => rfl) (fun _ => rfl) dX3_init_49 dX3_init_51 (fun q H locs hw => ?_)
  replace hz0 := Zz_up hz0 (Nat.le_succ _)
  obtain ⟨ad5, hw, ea⟩ : ∃ a : Nat → Nat, PW D cA a A (Zc (Zfi z 14 144 (-9))) (gto g 12 17) 17 s H locs ∧ ∀ k, k ≠ 16 → a k = ad4 k := ⟨_, hw, fun k hk => if_neg hk⟩
  replace hea : ∀ k, k < 12 ∨ 129 ≤ k → ad5 k = ad k := fun k hk => (ea k (by omega)).trans (hea k hk)
  rw [← ea 11 (by decide)] at hl
  clear ea
  refine lv_aload_n S.1 S.2.1 dX3_init_54 rfl (lv_at hl 0 rfl) ?_
  refine lv_bipush (v := i32 60) S.1 S.2.1 dX3_init_55 (by decide) ?_
  refine ProwF (n := 17) (k1 := 11) (j0 := 7) (a := 12) (t := 0) (len := 60) (i := 0) (N2 := 60) (index := 33) (C := RX3) (T := TX3) (N := 15) (ty := .array .int) S hw hA zd_17 (Zz_1 hz0 (by decide)) (Zz_2 hz0) (Zz_3 hz0) ac_0 rfl (fun _ => rfl) (fun _ _ h => h) (fun _ => rfl) (by decide) (by decide) (by decide) ⟨by decide, by decide⟩ (by decide) (by decide) (by decide +kernel) zd_11 rfl zc_X3 iX3 tyX3 tyX3_ok nmX3 (by decide) (Ztb 98 (by decide +kernel) rfl) rfl hin0 rfl (by decide +kernel) (fun _ => rfl) (fun _ => rfl) dX3_init_57 dX3_init_59 (fun q H locs hw => ?_)
  replace hz0 := Zz_up hz0 (Nat.le_succ _)
  obtain ⟨ad6, hw, ea⟩ : ∃ a : Nat → Nat, PW D cA a A (Zc (Zfi z 14 144 (-9))) (gto g 12 18) 18 s H locs ∧ ∀ k, k ≠ 17 → a k = ad5 k := ⟨_, hw, fun k hk => if_neg hk⟩
  replace hea : ∀ k, k < 12 ∨ 129 ≤ k → ad6 k = ad k := fun k hk => (ea k (by omega)).trans (hea k hk)
  rw [← ea 11 (by decide)] at hl
  clear ea
  refine lv_aload_n S.1 S.2.1 dX3_init_62 rfl (lv_at hl 0 rfl) ?_
  refine lv_bipush (v := i32 60) S.1 S.2.1 dX3_init_63 (by decide) ?_
  refine ProwF (n := 18) (k1 := 11) (j0 := 8) (a := 12) (t := 0) (len := 60) (i := 0) (N2 := 60) (index := 36) (C := RX3) (T := TX3) (N := 15) (ty := .array .int) S hw hA zd_18 (Zz_1 hz0 (by decide)) (Zz_2 hz0) (Zz_3 hz0) ac_0 rfl (fun _ => rfl) (fun _ _ h => h) (fun _ => rfl) (by decide) (by decide) (by decide) ⟨by decide, by decide⟩ (by decide) (by decide) (by decide +kernel) zd_11 rfl zc_X3 iX3 tyX3 tyX3_ok nmX3 (by decide) (Ztb 100 (by decide +kernel) rfl) rfl hin0 rfl (by decide +kernel) (fun _ => rfl) (fun _ => rfl) dX3_init_65 dX3_init_67 (fun q H locs hw => ?_)
  replace hz0 := Zz_up hz0 (Nat.le_succ _)
  obtain ⟨ad7, hw, ea⟩ : ∃ a : Nat → Nat, PW D cA a A (Zc (Zfi z 14 144 (-9))) (gto g 12 19) 19 s H locs ∧ ∀ k, k ≠ 18 → a k = ad6 k := ⟨_, hw, fun k hk => if_neg hk⟩
  replace hea : ∀ k, k < 12 ∨ 129 ≤ k → ad7 k = ad k := fun k hk => (ea k (by omega)).trans (hea k hk)
  rw [← ea 11 (by decide)] at hl
  clear ea
  refine lv_aload_n S.1 S.2.1 dX3_init_70 rfl (lv_at hl 0 rfl) ?_
  refine lv_bipush (v := i32 60) S.1 S.2.1 dX3_init_71 (by decide) ?_
  refine ProwF (n := 19) (k1 := 11) (j0 := 9) (a := 12) (t := 0) (len := 60) (i := 0) (N2 := 60) (index := 39) (C := RX3) (T := TX3) (N := 15) (ty := .array .int) S hw hA zd_19 (Zz_1 hz0 (by decide)) (Zz_2 hz0) (Zz_3 hz0) ac_0 rfl (fun _ => rfl) (fun _ _ h => h) (fun _ => rfl) (by decide) (by decide) (by decide) ⟨by decide, by decide⟩ (by decide) (by decide) (by decide +kernel) zd_11 rfl zc_X3 iX3 tyX3 tyX3_ok nmX3 (by decide) (Ztb 102 (by decide +kernel) rfl) rfl hin0 rfl (by decide +kernel) (fun _ => rfl) (fun _ => rfl) dX3_init_73 dX3_init_75 (fun q H locs hw => ?_)
  replace hz0 := Zz_up hz0 (Nat.le_succ _)
  obtain ⟨ad8, hw, ea⟩ : ∃ a : Nat → Nat, PW D cA a A (Zc (Zfi z 14 144 (-9))) (gto g 12 20) 20 s H locs ∧ ∀ k, k ≠ 19 → a k = ad7 k := ⟨_, hw, fun k hk => if_neg hk⟩
  replace hea : ∀ k, k < 12 ∨ 129 ≤ k → ad8 k = ad k := fun k hk => (ea k (by omega)).trans (hea k hk)
  rw [← ea 11 (by decide)] at hl
  clear ea
  refine lv_aload_n S.1 S.2.1 dX3_init_78 rfl (lv_at hl 0 rfl) ?_
  refine lv_sipush (v := i32 150) S.1 S.2.1 dX3_init_79 (by decide) ?_
  refine ProwF (n := 20) (k1 := 11) (j0 := 11) (a := 12) (t := 0) (len := 150) (i := 0) (N2 := 150) (index := 42) (C := RX3) (T := TX3) (N := 15) (ty := .array .int) S hw hA zd_20 (Zz_1 hz0 (by decide)) (Zz_2 hz0) (Zz_3 hz0) ac_0 rfl (fun _ => rfl) (fun _ _ h => h) (fun _ => rfl) (by decide) (by decide) (by decide) ⟨by decide, by decide⟩ (by decide) (by decide) (by decide +kernel) zd_11 rfl zc_X3 iX3 tyX3 tyX3_ok nmX3 (by decide) (Ztb 105 (by decide +kernel) rfl) rfl hin0 rfl (by decide +kernel) (fun _ => rfl) (fun _ => rfl) dX3_init_82 dX3_init_84 (fun q H locs hw => ?_)
  replace hz0 := Zz_up hz0 (Nat.le_succ _)
  obtain ⟨ad9, hw, ea⟩ : ∃ a : Nat → Nat, PW D cA a A (Zc (Zfi z 14 144 (-9))) (gto g 12 21) 21 s H locs ∧ ∀ k, k ≠ 20 → a k = ad8 k := ⟨_, hw, fun k hk => if_neg hk⟩
  replace hea : ∀ k, k < 12 ∨ 129 ≤ k → ad9 k = ad k := fun k hk => (ea k (by omega)).trans (hea k hk)
  rw [← ea 11 (by decide)] at hl
  clear ea
  refine lv_aload_n S.1 S.2.1 dX3_init_87 rfl (lv_at hl 0 rfl) ?_
  refine lv_sipush (v := i32 150) S.1 S.2.1 dX3_init_88 (by decide) ?_
  refine ProwF (n := 21) (k1 := 11) (j0 := 12) (a := 12) (t := 0) (len := 150) (i := 0) (N2 := 150) (index := 45) (C := RX3) (T := TX3) (N := 15) (ty := .array .int) S hw hA zd_21 (Zz_1 hz0 (by decide)) (Zz_2 hz0) (Zz_3 hz0) ac_0 rfl (fun _ => rfl) (fun _ _ h => h) (fun _ => rfl) (by decide) (by decide) (by decide) ⟨by decide, by decide⟩ (by decide) (by decide) (by decide +kernel) zd_11 rfl zc_X3 iX3 tyX3 tyX3_ok nmX3 (by decide) (Ztb 106 (by decide +kernel) rfl) rfl hin0 rfl (by decide +kernel) (fun _ => rfl) (fun _ => rfl) dX3_init_91 dX3_init_93 (fun q H locs hw => ?_)
  replace hz0 := Zz_up hz0 (Nat.le_succ _)
  obtain ⟨ad10, hw, ea⟩ : ∃ a : Nat → Nat, PW D cA a A (Zc (Zfi z 14 144 (-9))) (gto g 12 22) 22 s H locs ∧ ∀ k, k ≠ 21 → a k = ad9 k := ⟨_, hw, fun k hk => if_neg hk⟩
  replace hea : ∀ k, k < 12 ∨ 129 ≤ k → ad10 k = ad k := fun k hk => (ea k (by omega)).trans (hea k hk)
  rw [← ea 11 (by decide)] at hl
  clear ea
  refine lv_aload_n S.1 S.2.1 dX3_init_96 rfl (lv_at hl 0 rfl) ?_
  refine lv_sipush (v := i32 150) S.1 S.2.1 dX3_init_97 (by decide) ?_
  refine ProwF (n := 22) (k1 := 11) (j0 := 13) (a := 12) (t := 0) (len := 150) (i := 0) (N2 := 150) (index := 48) (C := RX3) (T := TX3) (N := 15) (ty := .array .int) S hw hA zd_22 (Zz_1 hz0 (by decide)) (Zz_2 hz0) (Zz_3 hz0) ac_0 rfl (fun _ => rfl) (fun _ _ h => h) (fun _ => rfl) (by decide) (by decide) (by decide) ⟨by decide, by decide⟩ (by decide) (by decide) (by decide +kernel) zd_11 rfl zc_X3 iX3 tyX3 tyX3_ok nmX3 (by decide) (Ztb 107 (by decide +kernel) rfl) rfl hin0 rfl (by decide +kernel) (fun _ => rfl) (fun _ => rfl) dX3_init_100 dX3_init_102 (fun q H locs hw => ?_)
  replace hz0 := Zz_up hz0 (Nat.le_succ _)
  obtain ⟨ad11, hw, ea⟩ : ∃ a : Nat → Nat, PW D cA a A (Zc (Zfi z 14 144 (-9))) (gto g 12 23) 23 s H locs ∧ ∀ k, k ≠ 22 → a k = ad10 k := ⟨_, hw, fun k hk => if_neg hk⟩
  replace hea : ∀ k, k < 12 ∨ 129 ≤ k → ad11 k = ad k := fun k hk => (ea k (by omega)).trans (hea k hk)
  rw [← ea 11 (by decide)] at hl
  clear ea
  refine lv_aload_n S.1 S.2.1 dX3_init_105 rfl (lv_at hl 0 rfl) ?_
  refine lv_bipush (v := i32 60) S.1 S.2.1 dX3_init_106 (by decide) ?_
  refine ProwF (n := 23) (k1 := 11) (j0 := 14) (a := 12) (t := 2) (len := 60) (i := 2) (N2 := 60) (index := 51) (C := RX3) (T := TX3) (N := 15) (ty := .array .boolean) S hw hA zd_23 (Zz_1 hz0 (by decide)) (Zz_2 hz0) (Zz_3 hz0) ac_2 rfl (fun _ => rfl) (fun _ _ h => h) (fun _ => rfl) (by decide) (by decide) (by decide) ⟨by decide, by decide⟩ (by decide) (by decide) (by decide +kernel) zd_11 rfl zc_X3 iX3 tyX3 tyX3_ok nmX3 (by decide) (Ztb 108 (by decide +kernel) rfl) rfl hin0 rfl (by decide +kernel) (fun _ => rfl) (fun _ => rfl) dX3_init_108 dX3_init_110 (fun q H locs hw => ?_)
  replace hz0 := Zz_up hz0 (Nat.le_succ _)
  obtain ⟨ad12, hw, ea⟩ : ∃ a : Nat → Nat, PW D cA a A (Zc (Zfi z 14 144 (-9))) (gto g 12 24) 24 s H locs ∧ ∀ k, k ≠ 23 → a k = ad11 k := ⟨_, hw, fun k hk => if_neg hk⟩
  replace hea : ∀ k, k < 12 ∨ 129 ≤ k → ad12 k = ad k := fun k hk => (ea k (by omega)).trans (hea k hk)
  rw [← ea 11 (by decide)] at hl
  clear ea
  exact W.vret S.1 S.2.1 hr (fun t ht hW => ⟨⟨ad12, rfl, hea, by rw [ht]; exact hw.2.1, hw.2.2.1⟩, hw.2.2.2.1.F ht⟩) hw.2.2.2.1.2.2 dX3_init_113 hlk
set_option maxRecDepth 100000 in
set_option maxHeartbeats 4000000 in
theorem c_X2_init {l : Launch} {D : va_G} {cA : Nat → ClassId} {ad : Nat → Nat} {A : Nat → Prop} {g : Nat → Bool} {z : ZI} (hz0 : Zzero z 55) (hg : ∀ k, 55 ≤ k → g k = false) : Met l yX2_init (ZV yX2_init cX2_init 1 none) (Rmi 1 4 120) (ZPi D cA ad A g 55 [.ref (ad 54)] z) (ZQn D cA ad A g 55 59 (Zfi z 55 30 (-9))) 4 120 A := by
  refine Met.ofW (cc := cX2_init) (maxL := 1) (ret := none) (by decide) rfl ?_
  intro p e s m args below meth c s₁ B hml hv2
  obtain ⟨rfl, hA, hE, hP, hD⟩ := hv2
  have hts := atoms_spec (ws := ZV yX2_init cX2_init 1 none) B.pre
  have hown : s.vm.findClass yX2_init.cls = some m.cls := findClass_of_methodNamed B.named
  have hin0 : meth.name = "<init>" := (name_of_methodNamed B.named B.method).1
  have hl := lv_entry [Value.ref (ad 54)] (n := 1) (Nat.le_of_ble_eq_true rfl)
  rw [lg_entry_eq]
  generalize (lg_sl [Value.ref (ad 54)] ++ List.replicate (1 - (lg_sl [Value.ref (ad 54)]).length) Slot.unset).toArray = ls at hl ⊢
  have hl : lv_has ls 1 [(0, .ref (ad 54))] := hl
  have S : CallFix p m c cX2_init 1 s [Value.ref (ad 54)].toArray Ztbl RX2 := ⟨B.exec, B.bytes, hml, hown, fun w hw => hts w (List.mem_cons_of_mem _ hw)⟩
  have hr := B.returns
  have hlk := B.notSynchronized
  have hA2 : ∀ q, A q → A q := fun q h => h
  have hw : PW D cA ad A (Zc z) (gto g 55 55) 55 s s.heap [] := by
    rw [gto_0]
    exact ⟨hE, hP, hD, va_S.rf, by decide, hg⟩
  have hea : ∀ k, k < 55 ∨ 129 ≤ k → ad k = ad k := fun k _ => rfl
  show W p l e (Rmi 1 4 120) s m _ below meth c s.heap [] 0 0 _ _
  refine lv_aload_n S.1 S.2.1 dX2_init_0 rfl (lv_at hl 0 rfl) ?_
  refine W.objInit S.1 S.2.1 S.2.2.2.1 (S.2.2.2.2 _ (Ztb 311 (by decide +kernel) rfl : Cond.methodLink RX2 3 Lib.objectInit ∈ Ztbl)) (S.2.2.2.2 _ oi_i) (S.2.2.2.2 _ oi_c) rfl (by rw [hml]; exact hl.1) rfl dX2_init_1 (Nat.le_of_ble_eq_true rfl) (Nat.le_of_ble_eq_true rfl) ?_
  refine W.eq (g2 := F0 m 4 ls []) rfl ?_
  refine lv_aload_n S.1 S.2.1 dX2_init_4 rfl (lv_at hl 0 rfl) ?_
  refine lv_bipush (v := i32 30) S.1 S.2.1 dX2_init_5 (by decide) ?_
  refine ProwF (n := 55) (k1 := 54) (j0 := 1) (a := 55) (t := 0) (len := 30) (i := 0) (N2 := 30) (index := 9) (C := RX2) (T := TX2) (N := 5) (ty := .array .int) S hw hA zd_55 (Zz_1 hz0 (by decide)) (Zz_2 hz0) (Zz_3 hz0) ac_0 rfl (fun _ => rfl) (fun _ _ h => h) (fun _ => rfl) (by decide) (by decide) (by decide) ⟨by decide, by decide⟩ (by decide) (by decide) (by decide +kernel) zd_54 rfl zc_X2 iX2 tyX2 tyX2_ok nmX2 (by decide) (Ztb 315 (by decide +kernel) rfl) rfl hin0 rfl (by decide +kernel) (fun _ => rfl) (fun _ => rfl) dX2_init_7 dX2_init_9 (fun q H locs hw => ?_)
  replace hz0 := Zz_up hz0 (Nat.le_succ _)
  obtain ⟨ad1, hw, ea⟩ : ∃ a : Nat → Nat, PW D cA a A (Zc z) (gto g 55 56) 56 s H locs ∧ ∀ k, k ≠ 55 → a k = ad k := ⟨_, hw, fun k hk => if_neg hk⟩
  replace hea : ∀ k, k < 55 ∨ 129 ≤ k → ad1 k = ad k := fun k hk => (ea k (by omega)).trans (hea k hk)
  rw [← ea 54 (by decide)] at hl
  clear ea
  refine lv_aload_n S.1 S.2.1 dX2_init_12 rfl (lv_at hl 0 rfl) ?_
  refine va_get (v := .ref (ad1 55)) S.1 S.2.1 S.2.2.2.2 iX2 S.2.2.2.1 hw.1.1 hw.2.1 54 (Zqw_get zd_54 (by decide)) zc_X2 1 (by decide) (S.2.2.2.2 _ (Ztb 315 (by decide +kernel) rfl : Cond.fieldLink RX2 9 (TX2 1).1 (TX2 1).2.1 (TX2 1).2.2.1 ∈ Ztbl)) (fun _ h => h) (Zfvp_ref rfl (gto_t (by decide))) dX2_init_13 ?_
  refine lv_bipush (v := i32 (-9)) S.1 S.2.1 dX2_init_16 (by decide) ?_
  refine va_callv (va_runS (As := [.ref (ad1 55), .int (i32 (-9))]) (rest := []) S (c_fillP (l := l) (D := D) (cA := cA) (ad := ad1) (A := A) (g := gto g 55 56) (n := 56) (z := z) zd_55 (by decide) (by decide) ⟨by decide, by decide⟩ ⟨by decide, by decide⟩) ⟨Zcb (h := 0) S my_J7_fill_53178 (Ztb 312 (by decide +kernel) rfl) ⟨by decide, by decide⟩, S.2.2.2.2 _ ms_J7_fill_53178⟩ ⟨ZPf_blind, ZPf_down hw⟩ rfl rfl hl.1 rfl (lv_room (Nat.le_of_ble_eq_true rfl)) dX2_init_18 ⟨by decide, by decide⟩) hw.2.2.2.1 (fun q _ h => h) (fun q h => hA2 q h) (fun u t H1 locs1 ht hvm hp hB hsz hk hS => ?_)
  replace hw : PW D cA ad1 A (Zc (Zfi z 55 30 (-9))) (gto g 55 56) 56 s H1 locs1 := ⟨hw.1, by rw [← ht]; exact hB.1, hB.2, hS, hw.2.2.2.2⟩
  replace hz0 := Zz_fi (k0 := 55) (i := 30) (v := (-9)) hz0 (by decide) (by decide)
  refine lv_aload_n S.1 S.2.1 dX2_init_21 rfl (lv_at hl 0 rfl) ?_
  refine lv_bipush (v := i32 30) S.1 S.2.1 dX2_init_22 (by decide) ?_
  refine ProwF (n := 56) (k1 := 54) (j0 := 2) (a := 55) (t := 0) (len := 30) (i := 0) (N2 := 30) (index := 21) (C := RX2) (T := TX2) (N := 5) (ty := .array .int) S hw hA zd_56 (Zz_1 hz0 (by decide)) (Zz_2 hz0) (Zz_3 hz0) ac_0 rfl (fun _ => rfl) (fun _ _ h => h) (fun _ => rfl) (by decide) (by decide) (by decide) ⟨by decide, by decide⟩ (by decide) (by decide) (by decide +kernel) zd_54 rfl zc_X2 iX2 tyX2 tyX2_ok nmX2 (by decide) (Ztb 316 (by decide +kernel) rfl) rfl hin0 rfl (by decide +kernel) (fun _ => rfl) (fun _ => rfl) dX2_init_24 dX2_init_26 (fun q H locs hw => ?_)
  replace hz0 := Zz_up hz0 (Nat.le_succ _)
  obtain ⟨ad2, hw, ea⟩ : ∃ a : Nat → Nat, PW D cA a A (Zc (Zfi z 55 30 (-9))) (gto g 55 57) 57 s H locs ∧ ∀ k, k ≠ 56 → a k = ad1 k := ⟨_, hw, fun k hk => if_neg hk⟩
  replace hea : ∀ k, k < 55 ∨ 129 ≤ k → ad2 k = ad k := fun k hk => (ea k (by omega)).trans (hea k hk)
  rw [← ea 54 (by decide)] at hl
  clear ea
  refine lv_aload_n S.1 S.2.1 dX2_init_29 rfl (lv_at hl 0 rfl) ?_
  refine lv_bipush (v := i32 30) S.1 S.2.1 dX2_init_30 (by decide) ?_
  refine ProwF (n := 57) (k1 := 54) (j0 := 3) (a := 55) (t := 2) (len := 30) (i := 2) (N2 := 30) (index := 24) (C := RX2) (T := TX2) (N := 5) (ty := .array .boolean) S hw hA zd_57 (Zz_1 hz0 (by decide)) (Zz_2 hz0) (Zz_3 hz0) ac_2 rfl (fun _ => rfl) (fun _ _ h => h) (fun _ => rfl) (by decide) (by decide) (by decide) ⟨by decide, by decide⟩ (by decide) (by decide) (by decide +kernel) zd_54 rfl zc_X2 iX2 tyX2 tyX2_ok nmX2 (by decide) (Ztb 317 (by decide +kernel) rfl) rfl hin0 rfl (by decide +kernel) (fun _ => rfl) (fun _ => rfl) dX2_init_32 dX2_init_34 (fun q H locs hw => ?_)
  replace hz0 := Zz_up hz0 (Nat.le_succ _)
  obtain ⟨ad3, hw, ea⟩ : ∃ a : Nat → Nat, PW D cA a A (Zc (Zfi z 55 30 (-9))) (gto g 55 58) 58 s H locs ∧ ∀ k, k ≠ 57 → a k = ad2 k := ⟨_, hw, fun k hk => if_neg hk⟩
  replace hea : ∀ k, k < 55 ∨ 129 ≤ k → ad3 k = ad k := fun k hk => (ea k (by omega)).trans (hea k hk)
  rw [← ea 54 (by decide)] at hl
  clear ea
  refine lv_aload_n S.1 S.2.1 dX2_init_37 rfl (lv_at hl 0 rfl) ?_
  refine lv_bipush (v := i32 30) S.1 S.2.1 dX2_init_38 (by decide) ?_
  refine ProwF (n := 58) (k1 := 54) (j0 := 4) (a := 55) (t := 0) (len := 30) (i := 0) (N2 := 30) (index := 28) (C := RX2) (T := TX2) (N := 5) (ty := .array .int) S hw hA zd_58 (Zz_1 hz0 (by decide)) (Zz_2 hz0) (Zz_3 hz0) ac_0 rfl (fun _ => rfl) (fun _ _ h => h) (fun _ => rfl) (by decide) (by decide) (by decide) ⟨by decide, by decide⟩ (by decide) (by decide) (by decide +kernel) zd_54 rfl zc_X2 iX2 tyX2 tyX2_ok nmX2 (by decide) (Ztb 318 (by decide +kernel) rfl) rfl hin0 rfl (by decide +kernel) (fun _ => rfl) (fun _ => rfl) dX2_init_40 dX2_init_42 (fun q H locs hw => ?_)
  replace hz0 := Zz_up hz0 (Nat.le_succ _)
  obtain ⟨ad4, hw, ea⟩ : ∃ a : Nat → Nat, PW D cA a A (Zc (Zfi z 55 30 (-9))) (gto g 55 59) 59 s H locs ∧ ∀ k, k ≠ 58 → a k = ad3 k := ⟨_, hw, fun k hk => if_neg hk⟩
  replace hea : ∀ k, k < 55 ∨ 129 ≤ k → ad4 k = ad k := fun k hk => (ea k (by omega)).trans (hea k hk)
  rw [← ea 54 (by decide)] at hl
  clear ea
  exact W.vret S.1 S.2.1 hr (fun t ht hW => ⟨⟨ad4, rfl, hea, by rw [ht]; exact hw.2.1, hw.2.2.1⟩, hw.2.2.2.1.F ht⟩) hw.2.2.2.1.2.2 dX2_init_45 hlk
set_option maxRecDepth 100000 in
set_option maxHeartbeats 4000000 in
theorem c_X9_init {l : Launch} {D : va_G} {cA : Nat → ClassId} {ad : Nat → Nat} {A : Nat → Prop} {g : Nat → Bool} {z : ZI} (hz0 : Zzero z 42) (hg : ∀ k, 42 ≤ k → g k = false) : Met l yX9_init (ZV yX9_init cX9_init 1 none) (Rmi 1 12 176) (ZPi D cA ad A g 42 [.ref (ad 41)] z) (ZQn D cA ad A g 42 54 (Zfi z 45 4 6)) 12 176 A := by
  refine Met.ofW (cc := cX9_init) (maxL := 1) (ret := none) (by decide) rfl ?_
  intro p e s m args below meth c s₁ B hml hv2
  obtain ⟨rfl, hA, hE, hP, hD⟩ := hv2
  have hts := atoms_spec (ws := ZV yX9_init cX9_init 1 none) B.pre
  have hown : s.vm.findClass yX9_init.cls = some m.cls := findClass_of_methodNamed B.named
  have hin0 : meth.name = "<init>" := (name_of_methodNamed B.named B.method).1
  have hl := lv_entry [Value.ref (ad 41)] (n := 1) (Nat.le_of_ble_eq_true rfl)
  rw [lg_entry_eq]
  generalize (lg_sl [Value.ref (ad 41)] ++ List.replicate (1 - (lg_sl [Value.ref (ad 41)]).length) Slot.unset).toArray = ls at hl ⊢
  have hl : lv_has ls 1 [(0, .ref (ad 41))] := hl
  have S : CallFix p m c cX9_init 1 s [Value.ref (ad 41)].toArray Ztbl RX9 := ⟨B.exec, B.bytes, hml, hown, fun w hw => hts w (List.mem_cons_of_mem _ hw)⟩
  have hr := B.returns
  have hlk := B.notSynchronized
  have hA2 : ∀ q, A q → A q := fun q h => h
  have hw : PW D cA ad A (Zc z) (gto g 42 42) 42 s s.heap [] := by
    rw [gto_0]
    exact ⟨hE, hP, hD, va_S.rf, by decide, hg⟩
  have hea : ∀ k, k < 42 ∨ 129 ≤ k → ad k = ad k := fun k _ => rfl
  show W p l e (Rmi 1 12 176) s m _ below meth c s.heap [] 0 0 _ _
  refine lv_aload_n S.1 S.2.1 dX9_init_0 rfl (lv_at hl 0 rfl) ?_
  refine W.objInit S.1 S.2.1 S.2.2.2.1 (S.2.2.2.2 _ (Ztb 254 (by decide +kernel) rfl : Cond.methodLink RX9 3 Lib.objectInit ∈ Ztbl)) (S.2.2.2.2 _ oi_i) (S.2.2.2.2 _ oi_c) rfl (by rw [hml]; exact hl.1) rfl dX9_init_1 (Nat.le_of_ble_eq_true rfl) (Nat.le_of_ble_eq_true rfl) ?_
  refine W.eq (g2 := F0 m 4 ls []) rfl ?_
  refine lv_aload_n S.1 S.2.1 dX9_init_4 rfl (lv_at hl 0 rfl) ?_
  refine lv_bipush (v := i32 6) S.1 S.2.1 dX9_init_5 (by decide) ?_
  refine ProwF (n := 42) (k1 := 41) (j0 := 1) (a := 42) (t := 0) (len := 6) (i := 0) (N2 := 6) (index := 9) (C := RX9) (T := TX9) (N := 16) (ty := .array .int) S hw hA zd_42 (Zz_1 hz0 (by decide)) (Zz_2 hz0) (Zz_3 hz0) ac_0 rfl (fun _ => rfl) (fun _ _ h => h) (fun _ => rfl) (by decide) (by decide) (by decide) ⟨by decide, by decide⟩ (by decide) (by decide) (by decide +kernel) zd_41 rfl zc_X9 iX9 tyX9 tyX9_ok nmX9 (by decide) (Ztb 258 (by decide +kernel) rfl) rfl hin0 rfl (by decide +kernel) (fun _ => rfl) (fun _ => rfl) dX9_init_7 dX9_init_9 (fun q H locs hw => ?_)
  replace hz0 := Zz_up hz0 (Nat.le_succ _)
  obtain ⟨ad1, hw, ea⟩ : ∃ a : Nat → Nat, PW D cA a A (Zc z) (gto g 42 43) 43 s H locs ∧ ∀ k, k ≠ 42 → a k = ad k := ⟨_, hw, fun k hk => if_neg hk⟩
  replace hea : ∀ k, k < 42 ∨ 129 ≤ k → ad1 k = ad k := fun k hk => (ea k (by omega)).trans (hea k hk)
  rw [← ea 41 (by decide)] at hl
  clear ea
  refine lv_aload_n S.1 S.2.1 dX9_init_12 rfl (lv_at hl 0 rfl) ?_
  refine lv_bipush (v := i32 6) S.1 S.2.1 dX9_init_13 (by decide) ?_
  refine ProwF (n := 43) (k1 := 41) (j0 := 2) (a := 42) (t := 0) (len := 6) (i := 0) (N2 := 6) (index := 15) (C := RX9) (T := TX9) (N := 16) (ty := .array .int) S hw hA zd_43 (Zz_1 hz0 (by decide)) (Zz_2 hz0) (Zz_3 hz0) ac_0 rfl (fun _ => rfl) (fun _ _ h => h) (fun _ => rfl) (by decide) (by decide) (by decide) ⟨by decide, by decide⟩ (by decide) (by decide) (by decide +kernel) zd_41 rfl zc_X9 iX9 tyX9 tyX9_ok nmX9 (by decide) (Ztb 259 (by decide +kernel) rfl) rfl hin0 rfl (by decide +kernel) (fun _ => rfl) (fun _ => rfl) dX9_init_15 dX9_init_17 (fun q H locs hw => ?_)
  replace hz0 := Zz_up hz0 (Nat.le_succ _)
  obtain ⟨ad2, hw, ea⟩ : ∃ a : Nat → Nat, PW D cA a A (Zc z) (gto g 42 44) 44 s H locs ∧ ∀ k, k ≠ 43 → a k = ad1 k := ⟨_, hw, fun k hk => if_neg hk⟩
  replace hea : ∀ k, k < 42 ∨ 129 ≤ k → ad2 k = ad k := fun k hk => (ea k (by omega)).trans (hea k hk)
  rw [← ea 41 (by decide)] at hl
  clear ea
  refine lv_aload_n S.1 S.2.1 dX9_init_20 rfl (lv_at hl 0 rfl) ?_
  refine lv_bipush (v := i32 6) S.1 S.2.1 dX9_init_21 (by decide) ?_
  refine ProwF (n := 44) (k1 := 41) (j0 := 3) (a := 42) (t := 0) (len := 6) (i := 0) (N2 := 6) (index := 18) (C := RX9) (T := TX9) (N := 16) (ty := .array .int) S hw hA zd_44 (Zz_1 hz0 (by decide)) (Zz_2 hz0) (Zz_3 hz0) ac_0 rfl (fun _ => rfl) (fun _ _ h => h) (fun _ => rfl) (by decide) (by decide) (by decide) ⟨by decide, by decide⟩ (by decide) (by decide) (by decide +kernel) zd_41 rfl zc_X9 iX9 tyX9 tyX9_ok nmX9 (by decide) (Ztb 260 (by decide +kernel) rfl) rfl hin0 rfl (by decide +kernel) (fun _ => rfl) (fun _ => rfl) dX9_init_23 dX9_init_25 (fun q H locs hw => ?_)
  replace hz0 := Zz_up hz0 (Nat.le_succ _)
  obtain ⟨ad3, hw, ea⟩ : ∃ a : Nat → Nat, PW D cA a A (Zc z) (gto g 42 45) 45 s H locs ∧ ∀ k, k ≠ 44 → a k = ad2 k := ⟨_, hw, fun k hk => if_neg hk⟩
  replace hea : ∀ k, k < 42 ∨ 129 ≤ k → ad3 k = ad k := fun k hk => (ea k (by omega)).trans (hea k hk)
  rw [← ea 41 (by decide)] at hl
  clear ea
  refine lv_aload_n S.1 S.2.1 dX9_init_28 rfl (lv_at hl 0 rfl) ?_
  refine lv_iconst (v := i32 4) S.1 S.2.1 dX9_init_29 (by decide) ?_
  refine ProwF (n := 45) (k1 := 41) (j0 := 4) (a := 42) (t := 0) (len := 4) (i := 0) (N2 := 4) (index := 21) (C := RX9) (T := TX9) (N := 16) (ty := .array .int) S hw hA zd_45 (Zz_1 hz0 (by decide)) (Zz_2 hz0) (Zz_3 hz0) ac_0 rfl (fun _ => rfl) (fun _ _ h => h) (fun _ => rfl) (by decide) (by decide) (by decide) ⟨by decide, by decide⟩ (by decide) (by decide) (by decide +kernel) zd_41 rfl zc_X9 iX9 tyX9 tyX9_ok nmX9 (by decide) (Ztb 261 (by decide +kernel) rfl) rfl hin0 rfl (by decide +kernel) (fun _ => rfl) (fun _ => rfl) dX9_init_30 dX9_init_32 (fun q H locs hw => ?_)
  replace hz0 := Zz_up hz0 (Nat.le_succ _)
  obtain ⟨ad4, hw, ea⟩ : ∃ a : Nat → Nat, PW D cA a A (Zc z) (gto g 42 46) 46 s H locs ∧ ∀ k, k ≠ 45 → a k = ad3 k := ⟨_, hw, fun k hk => if_neg hk⟩
  replace hea : ∀ k, k < 42 ∨ 129 ≤ k → ad4 k = ad k := fun k hk => (ea k (by omega)).trans (hea k hk)
  rw [← ea 41 (by decide)] at hl
  clear ea
  refine lv_aload_n S.1 S.2.1 dX9_init_35 rfl (lv_at hl 0 rfl) ?_
  refine va_get (v := .ref (ad4 45)) S.1 S.2.1 S.2.2.2.2 iX9 S.2.2.2.1 hw.1.1 hw.2.1 41 (Zqw_get zd_41 (by decide)) zc_X9 4 (by decide) (S.2.2.2.2 _ (Ztb 261 (by decide +kernel) rfl : Cond.fieldLink RX9 21 (TX9 4).1 (TX9 4).2.1 (TX9 4).2.2.1 ∈ Ztbl)) (fun _ h => h) (Zfvp_ref rfl (gto_t (by decide))) dX9_init_36 ?_
  refine lv_bipush (v := i32 6) S.1 S.2.1 dX9_init_39 (by decide) ?_
  refine va_callv (va_runS (As := [.ref (ad4 45), .int (i32 6)]) (rest := []) S (c_fillP (l := l) (D := D) (cA := cA) (ad := ad4) (A := A) (g := gto g 42 46) (n := 46) (z := z) zd_45 (by decide) (by decide) ⟨by decide, by decide⟩ ⟨by decide, by decide⟩) ⟨Zcb (h := 0) S my_J7_fill_53178 (Ztb 255 (by decide +kernel) rfl) ⟨by decide, by decide⟩, S.2.2.2.2 _ ms_J7_fill_53178⟩ ⟨ZPf_blind, ZPf_down hw⟩ rfl rfl hl.1 rfl (lv_room (Nat.le_of_ble_eq_true rfl)) dX9_init_41 ⟨by decide, by decide⟩) hw.2.2.2.1 (fun q _ h => h) (fun q h => hA2 q h) (fun u t H1 locs1 ht hvm hp hB hsz hk hS => ?_)
  replace hw : PW D cA ad4 A (Zc (Zfi z 45 4 6)) (gto g 42 46) 46 s H1 locs1 := ⟨hw.1, by rw [← ht]; exact hB.1, hB.2, hS, hw.2.2.2.2⟩
  replace hz0 := Zz_fi (k0 := 45) (i := 4) (v := 6) hz0 (by decide) (by decide)
  refine lv_aload_n S.1 S.2.1 dX9_init_44 rfl (lv_at hl 0 rfl) ?_
  refine lv_bipush (v := i32 30) S.1 S.2.1 dX9_init_45 (by decide) ?_
  refine ProwF (n := 46) (k1 := 41) (j0 := 6) (a := 42) (t := 0) (len := 30) (i := 0) (N2 := 30) (index := 30) (C := RX9) (T := TX9) (N := 16) (ty := .array .int) S hw hA zd_46 (Zz_1 hz0 (by decide)) (Zz_2 hz0) (Zz_3 hz0) ac_0 rfl (fun _ => rfl) (fun _ _ h => h) (fun _ => rfl) (by decide) (by decide) (by decide) ⟨by decide, by decide⟩ (by decide) (by decide) (by decide +kernel) zd_41 rfl zc_X9 iX9 tyX9 tyX9_ok nmX9 (by decide) (Ztb 263 (by decide +kernel) rfl) rfl hin0 rfl (by decide +kernel) (fun _ => rfl) (fun _ => rfl) dX9_init_47 dX9_init_49 (fun q H locs hw => ?_)
  replace hz0 := Zz_up hz0 (Nat.le_succ _)
  obtain ⟨ad5, hw, ea⟩ : ∃ a : Nat → Nat, PW D cA a A (Zc (Zfi z 45 4 6)) (gto g 42 47) 47 s H locs ∧ ∀ k, k ≠ 46 → a k = ad4 k := ⟨_, hw, fun k hk => if_neg hk⟩
  replace hea : ∀ k, k < 42 ∨ 129 ≤ k → ad5 k = ad k := fun k hk => (ea k (by omega)).trans (hea k hk)
  rw [← ea 41 (by decide)] at hl
  clear ea
  refine lv_aload_n S.1 S.2.1 dX9_init_52 rfl (lv_at hl 0 rfl) ?_
  refine lv_bipush (v := i32 30) S.1 S.2.1 dX9_init_53 (by decide) ?_
  refine ProwF (n := 47) (k1 := 41) (j0 := 7) (a := 42) (t := 0) (len := 30) (i := 0) (N2 := 30) (index := 33) (C := RX9) (T := TX9) (N := 16) (ty := .array .int) S hw hA zd_47 (Zz_1 hz0 (by decide)) (Zz_2 hz0) (Zz_3 hz0) ac_0 rfl (fun _ => rfl) (fun _ _ h => h) (fun _ => rfl) (by decide) (by decide) (by decide) ⟨by decide, by decide⟩ (by decide) (by decide) (by decide +kernel) zd_41 rfl zc_X9 iX9 tyX9 tyX9_ok nmX9 (by decide) (Ztb 264 (by decide +kernel) rfl) rfl hin0 rfl (by decide +kernel) (fun _ => rfl) (fun _ => rfl) dX9_init_55 dX9_init_57 (fun q H locs hw => ?_)
  replace hz0 := Zz_up hz0 (Nat.le_succ _)
  obtain ⟨ad6, hw, ea⟩ : ∃ a : Nat → Nat, PW D cA a A (Zc (Zfi z 45 4 6)) (gto g 42 48) 48 s H locs ∧ ∀ k, k ≠ 47 → a k = ad5 k := ⟨_, hw, fun k hk => if_neg hk⟩
  replace hea : ∀ k, k < 42 ∨ 129 ≤ k → ad6 k = ad k := fun k hk => (ea k (by omega)).trans (hea k hk)
  rw [← ea 41 (by decide)] at hl
  clear ea
  refine lv_aload_n S.1 S.2.1 dX9_init_60 rfl (lv_at hl 0 rfl) ?_
  refine lv_bipush (v := i32 30) S.1 S.2.1 dX9_init_61 (by decide) ?_
  refine ProwF (n := 48) (k1 := 41) (j0 := 8) (a := 42) (t := 0) (len := 30) (i := 0) (N2 := 30) (index := 36) (C := RX9) (T := TX9) (N := 16) (ty := .array .int) S hw hA zd_48 (Zz_1 hz0 (by decide)) (Zz_2 hz0) (Zz_3 hz0) ac_0 rfl (fun _ => rfl) (fun _ _ h => h) (fun _ => rfl) (by decide) (by decide) (by decide) ⟨by decide, by decide⟩ (by decide) (by decide) (by decide +kernel) zd_41 rfl zc_X9 iX9 tyX9 tyX9_ok nmX9 (by decide) (Ztb 265 (by decide +kernel) rfl) rfl hin0 rfl (by decide +kernel) (fun _ => rfl) (fun _ => rfl) dX9_init_63 dX9_init_65 (fun q H locs hw => ?_)
  replace hz0 := Zz_up hz0 (Nat.le_succ _)
  obtain ⟨ad7, hw, ea⟩ : ∃ a : Nat → Nat, PW D cA a A (Zc (Zfi z 45 4 6)) (gto g 42 49) 49 s H locs ∧ ∀ k, k ≠ 48 → a k = ad6 k := ⟨_, hw, fun k hk => if_neg hk⟩
  replace hea : ∀ k, k < 42 ∨ 129 ≤ k → ad7 k = ad k := fun k hk => (ea k (by omega)).trans (hea k hk)
  rw [← ea 41 (by decide)] at hl
  clear ea
  refine lv_aload_n S.1 S.2.1 dX9_init_68 rfl (lv_at hl 0 rfl) ?_
  refine lv_bipush (v := i32 30) S.1 S.2.1 dX9_init_69 (by decide) ?_
  refine ProwF (n := 49) (k1 := 41) (j0 := 9) (a := 42) (t := 0) (len := 30) (i := 0) (N2 := 30) (index := 39) (C := RX9) (T := TX9) (N := 16) (ty := .array .int) S hw hA zd_49 (Zz_1 hz0 (by decide)) (Zz_2 hz0) (Zz_3 hz0) ac_0 rfl (fun _ => rfl) (fun _ _ h => h) (fun _ => rfl) (by decide) (by decide) (by decide) ⟨by decide, by decide⟩ (by decide) (by decide) (by decide +kernel) zd_41 rfl zc_X9 iX9 tyX9 tyX9_ok nmX9 (by decide) (Ztb 266 (by decide +kernel) rfl) rfl hin0 rfl (by decide +kernel) (fun _ => rfl) (fun _ => rfl) dX9_init_71 dX9_init_73 (fun q H locs hw => ?_)
  replace hz0 := Zz_up hz0 (Nat.le_succ _)
  obtain ⟨ad8, hw, ea⟩ : ∃ a : Nat → Nat, PW D cA a A (Zc (Zfi z 45 4 6)) (gto g 42 50) 50 s H locs ∧ ∀ k, k ≠ 49 → a k = ad7 k := ⟨_, hw, fun k hk => if_neg hk⟩
  replace hea : ∀ k, k < 42 ∨ 129 ≤ k → ad8 k = ad k := fun k hk => (ea k (by omega)).trans (hea k hk)
  rw [← ea 41 (by decide)] at hl
  clear ea
  refine lv_aload_n S.1 S.2.1 dX9_init_76 rfl (lv_at hl 0 rfl) ?_
  refine lv_bipush (v := i32 30) S.1 S.2.1 dX9_init_77 (by decide) ?_
  refine ProwF (n := 50) (k1 := 41) (j0 := 10) (a := 42) (t := 0) (len := 30) (i := 0) (N2 := 30) (index := 42) (C := RX9) (T := TX9) (N := 16) (ty := .array .int) S hw hA zd_50 (Zz_1 hz0 (by decide)) (Zz_2 hz0) (Zz_3 hz0) ac_0 rfl (fun _ => rfl) (fun _ _ h => h) (fun _ => rfl) (by decide) (by decide) (by decide) ⟨by decide, by decide⟩ (by decide) (by decide) (by decide +kernel) zd_41 rfl zc_X9 iX9 tyX9 tyX9_ok nmX9 (by decide) (Ztb 267 (by decide +kernel) rfl) rfl hin0 rfl (by decide +kernel) (fun _ => rfl) (fun _ => rfl) dX9_init_79 dX9_init_81 (fun q H locs hw => ?_)
  replace hz0 := Zz_up hz0 (Nat.le_succ _)
  obtain ⟨ad9, hw, ea⟩ : ∃ a : Nat → Nat, PW D cA a A (Zc (Zfi z 45 4 6)) (gto g 42 51) 51 s H locs ∧ ∀ k, k ≠ 50 → a k = ad8 k := ⟨_, hw, fun k hk => if_neg hk⟩
  replace hea : ∀ k, k < 42 ∨ 129 ≤ k → ad9 k = ad k := fun k hk => (ea k (by omega)).trans (hea k hk)
  rw [← ea 41 (by decide)] at hl
  clear ea
  refine lv_aload_n S.1 S.2.1 dX9_init_84 rfl (lv_at hl 0 rfl) ?_
  refine lv_iconst (v := i32 4) S.1 S.2.1 dX9_init_85 (by decide) ?_
  refine ProwF (n := 51) (k1 := 41) (j0 := 11) (a := 42) (t := 0) (len := 4) (i := 0) (N2 := 4) (index := 45) (C := RX9) (T := TX9) (N := 16) (ty := .array .int) S hw hA zd_51 (Zz_1 hz0 (by decide)) (Zz_2 hz0) (Zz_3 hz0) ac_0 rfl (fun _ => rfl) (fun _ _ h => h) (fun _ => rfl) (by decide) (by decide) (by decide) ⟨by decide, by decide⟩ (by decide) (by decide) (by decide +kernel) zd_41 rfl zc_X9 iX9 tyX9 tyX9_ok nmX9 (by decide) (Ztb 268 (by decide +kernel) rfl) rfl hin0 rfl (by decide +kernel) (fun _ => rfl) (fun _ => rfl) dX9_init_86 dX9_init_88 (fun q H locs hw => ?_)
  replace hz0 := Zz_up hz0 (Nat.le_succ _)
  obtain ⟨ad10, hw, ea⟩ : ∃ a : Nat → Nat, PW D cA a A (Zc (Zfi z 45 4 6)) (gto g 42 52) 52 s H locs ∧ ∀ k, k ≠ 51 → a k = ad9 k := ⟨_, hw, fun k hk => if_neg hk⟩
  replace hea : ∀ k, k < 42 ∨ 129 ≤ k → ad10 k = ad k := fun k hk => (ea k (by omega)).trans (hea k hk)
  rw [← ea 41 (by decide)] at hl
  clear ea
  refine lv_aload_n S.1 S.2.1 dX9_init_91 rfl (lv_at hl 0 rfl) ?_
  refine lv_iconst (v := i32 0) S.1 S.2.1 dX9_init_92 (by decide) ?_
  refine ProwN (n := 52) (k1 := 41) (j0 := 12) (a := 42) (t := 4) (len := 0) (i := 0) (N2 := 0) (index := 48) (C := RX9) (T := TX9) (N := 16) (ty := .array .int) S hw hA zd_52 (Zz_1 hz0 (by decide)) (Zz_2 hz0) (Zz_3 hz0) ac_0 rfl (fun _ => rfl) (fun _ _ h => h) (fun _ => rfl) (by decide) (by decide) (by decide) ⟨by decide, by decide⟩ (by decide) (by decide) (by decide +kernel) zd_41 rfl zc_X9 iX9 tyX9 tyX9_ok nmX9 (by decide) (Ztb 269 (by decide +kernel) rfl) rfl (by decide +kernel) (fun _ => rfl) (fun _ => rfl) dX9_init_93 dX9_init_95 (fun q H locs hw => ?_)
  replace hz0 := Zz_up hz0 (Nat.le_succ _)
  obtain ⟨ad11, hw, ea⟩ : ∃ a : Nat → Nat, PW D cA a A (Zc (Zfi z 45 4 6)) (gto g 42 53) 53 s H locs ∧ ∀ k, k ≠ 52 → a k = ad10 k := ⟨_, hw, fun k hk => if_neg hk⟩
  replace hea : ∀ k, k < 42 ∨ 129 ≤ k → ad11 k = ad k := fun k hk => (ea k (by omega)).trans (hea k hk)
  rw [← ea 41 (by decide)] at hl
  clear ea
  refine lv_aload_n S.1 S.2.1 dX9_init_98 rfl (lv_at hl 0 rfl) ?_
  refine lv_iconst (v := i32 0) S.1 S.2.1 dX9_init_99 (by decide) ?_
  refine ProwN (n := 53) (k1 := 41) (j0 := 13) (a := 42) (t := 4) (len := 0) (i := 0) (N2 := 0) (index := 51) (C := RX9) (T := TX9) (N := 16) (ty := .array .int) S hw hA zd_53 (Zz_1 hz0 (by decide)) (Zz_2 hz0) (Zz_3 hz0) ac_0 rfl (fun _ => rfl) (fun _ _ h => h) (fun _ => rfl) (by decide) (by decide) (by decide) ⟨by decide, by decide⟩ (by decide) (by decide) (by decide +kernel) zd_41 rfl zc_X9 iX9 tyX9 tyX9_ok nmX9 (by decide) (Ztb 270 (by decide +kernel) rfl) rfl (by decide +kernel) (fun _ => rfl) (fun _ => rfl) dX9_init_100 dX9_init_102 (fun q H locs hw => ?_)
  replace hz0 := Zz_up hz0 (Nat.le_succ _)
  obtain ⟨ad12, hw, ea⟩ : ∃ a : Nat → Nat, PW D cA a A (Zc (Zfi z 45 4 6)) (gto g 42 54) 54 s H locs ∧ ∀ k, k ≠ 53 → a k = ad11 k := ⟨_, hw, fun k hk => if_neg hk⟩
  replace hea : ∀ k, k < 42 ∨ 129 ≤ k → ad12 k = ad k := fun k hk => (ea k (by omega)).trans (hea k hk)
  rw [← ea 41 (by decide)] at hl
  clear ea
  exact W.vret S.1 S.2.1 hr (fun t ht hW => ⟨⟨ad12, rfl, hea, by rw [ht]; exact hw.2.1, hw.2.2.1⟩, hw.2.2.2.1.F ht⟩) hw.2.2.2.1.2.2 dX9_init_105 hlk
