/-! the model's constructor -/
section MLOOP
variable {p : Program} {l : Launch} {e : Env} {R : Room} {s : State} {m : MethodId} {args : Array Value} {below : List Frame} {meth : Method} {c : Code} {cells slots : Nat} {Q : State → Prop}
variable {D : va_G} {cA : Nat → ClassId} {ad : Nat → Nat} {A : Nat → Prop} {g : Nat → Bool}
theorem wl_h (S : CallFix p m c cX11_init 2 s args Ztbl RX11) (hE : ZE D cA ad A s) (hg : g 70 = true) {z : ZI} : ∀ (d : Nat) (i : Int) (H : Heap) (locs : List Loc) (ls : Array Slot), 0 ≤ i → i + d = 144 → PW D cA ad A (Zc (Zfi z 70 i 50)) g 129 s H locs → lv_has ls 2 [(1, .int (i32 i)), (0, .ref (ad 68))] → (∀ (H : Heap) (locs : List Loc) (ls : Array Slot), PW D cA ad A (Zc (Zfi z 70 144 50)) g 129 s H locs → lv_has ls 2 [(0, .ref (ad 68))] → W p l e R s m args below meth c H locs cells slots Q (F0 m 516 ls [])) → W p l e R s m args below meth c H locs cells slots Q (F0 m 495 ls []) := by
  intro d
  induction d with
  | zero =>
    intro i H locs ls h0 hi hw hl kk
    have ei : i = 144 := by omega
    have ri : InR i := ⟨by omega, by omega⟩
    refine lv_iload_n S.1 S.2.1 dX11_init_495 rfl (lv_at hl 0 rfl) ?_
    refine lv_sipush (v := i32 144) S.1 S.2.1 dX11_init_496 (by decide) ?_
    refine Yicmp_ge (tgt := 516) S ri ⟨by decide, by decide⟩ dX11_init_499 (by decide) (fun _ => ?_) (fun c1 => absurd (by omega) c1)
    rw [ei] at hw
    exact kk H locs ls hw (lv_sub hl [1] rfl)
  | succ d ih =>
    intro i H locs ls h0 hi hw hl kk
    have hlt : i < 144 := by omega
    have ri : InR i := ⟨by omega, by omega⟩
    refine lv_iload_n S.1 S.2.1 dX11_init_495 rfl (lv_at hl 0 rfl) ?_
    refine lv_sipush (v := i32 144) S.1 S.2.1 dX11_init_496 (by decide) ?_
    refine Yicmp_ge (tgt := 516) S ri ⟨by decide, by decide⟩ dX11_init_499 (by decide) (fun c1 => absurd hlt (by omega)) (fun _ => ?_)
    refine lv_aload_n S.1 S.2.1 dX11_init_502 rfl (lv_at hl 1 rfl) ?_
    refine va_get (v := .ref (ad 70)) S.1 S.2.1 S.2.2.2.2 iX11 S.2.2.2.1 hE.1 hw.2.1 68 (Zqw_get zd_68 (by decide)) zc_X11 1 (by decide) (S.2.2.2.2 _ (Ztb 1131 (by decide +kernel) rfl : Cond.fieldLink RX11 13 (TX11 1).1 (TX11 1).2.1 (TX11 1).2.2.1 ∈ Ztbl)) (fun _ h => h) (Zfvp_ref rfl hg) dX11_init_503 ?_
    refine lv_iload_n S.1 S.2.1 dX11_init_506 rfl (lv_at hl 0 rfl) ?_
    refine lv_bipush (v := i32 50) S.1 S.2.1 dX11_init_507 (by decide) ?_
    refine va_iast S.1 S.2.1 hE.1 hw.2.1 hw.2.2.1 hw.2.2.2.1 70 0 (Zqw_get zd_70 (by decide)) rfl (Zin (IJ_b ri ⟨h0, hlt⟩)) dX11_init_509 (fun H1 locs1 hP1 hD1 hS1 => ?_)
    rw [Zqw_arr zd_70 (by decide) (by decide), i32_clamp ri, Zc_up (by decide), Int.toNat_of_nonneg h0, Zfi_s z 70 50 h0] at hP1 hD1
    refine lv_iinc (v := i32 (i + 1)) (lv' := [(1, .int (i32 (i + 1))), (0, .ref (ad 68))]) S.1 S.2.1 dX11_init_510 hl (k := 0) rfl Yiinc (by decide) rfl (fun ls hl => ?_)
    refine lv_goto (tgt := 495) S.1 S.2.1 dX11_init_513 (by decide) ?_
    exact ih (i + 1) H1 locs1 ls (by omega) (by omega) ⟨hw.1, hP1, hD1, hS1, hw.2.2.2.2⟩ hl kk
theorem wl_b (S : CallFix p m c cX11_init 2 s args Ztbl RX11) (hE : ZE D cA ad A s) (hg : g 98 = true) {z : ZI} : ∀ (d : Nat) (i : Int) (H : Heap) (locs : List Loc) (ls : Array Slot), 0 ≤ i → i + d = 4 → PW D cA ad A (Zc (Zfi z 98 i 6)) g 129 s H locs → lv_has ls 2 [(1, .int (i32 i)), (0, .ref (ad 68))] → (∀ (H : Heap) (locs : List Loc) (ls : Array Slot), PW D cA ad A (Zc (Zfi z 98 4 6)) g 129 s H locs → lv_has ls 2 [(0, .ref (ad 68))] → W p l e R s m args below meth c H locs cells slots Q (F0 m 537 ls [])) → W p l e R s m args below meth c H locs cells slots Q (F0 m 518 ls []) := by
  intro d
  induction d with
  | zero =>
    intro i H locs ls h0 hi hw hl kk
    have ei : i = 4 := by omega
    have ri : InR i := ⟨by omega, by omega⟩
    refine lv_iload_n S.1 S.2.1 dX11_init_518 rfl (lv_at hl 0 rfl) ?_
    refine lv_iconst (v := i32 4) S.1 S.2.1 dX11_init_519 (by decide) ?_
    refine Yicmp_ge (tgt := 537) S ri ⟨by decide, by decide⟩ dX11_init_520 (by decide) (fun _ => ?_) (fun c1 => absurd (by omega) c1)
    rw [ei] at hw
    exact kk H locs ls hw (lv_sub hl [1] rfl)
  | succ d ih =>
    intro i H locs ls h0 hi hw hl kk
    have hlt : i < 4 := by omega
    have ri : InR i := ⟨by omega, by omega⟩
    refine lv_iload_n S.1 S.2.1 dX11_init_518 rfl (lv_at hl 0 rfl) ?_
    refine lv_iconst (v := i32 4) S.1 S.2.1 dX11_init_519 (by decide) ?_
    refine Yicmp_ge (tgt := 537) S ri ⟨by decide, by decide⟩ dX11_init_520 (by decide) (fun c1 => absurd hlt (by omega)) (fun _ => ?_)
    refine lv_aload_n S.1 S.2.1 dX11_init_523 rfl (lv_at hl 1 rfl) ?_
    refine va_get (v := .ref (ad 98)) S.1 S.2.1 S.2.2.2.2 iX11 S.2.2.2.1 hE.1 hw.2.1 68 (Zqw_get zd_68 (by decide)) zc_X11 40 (by decide) (S.2.2.2.2 _ (Ztb 1170 (by decide +kernel) rfl : Cond.fieldLink RX11 99 (TX11 40).1 (TX11 40).2.1 (TX11 40).2.2.1 ∈ Ztbl)) (fun _ h => h) (Zfvp_ref rfl hg) dX11_init_524 ?_
    refine lv_iload_n S.1 S.2.1 dX11_init_527 rfl (lv_at hl 0 rfl) ?_
    refine lv_bipush (v := i32 6) S.1 S.2.1 dX11_init_528 (by decide) ?_
    refine va_iast S.1 S.2.1 hE.1 hw.2.1 hw.2.2.1 hw.2.2.2.1 98 0 (Zqw_get zd_98 (by decide)) rfl (Zin (IJ_b ri ⟨h0, hlt⟩)) dX11_init_530 (fun H1 locs1 hP1 hD1 hS1 => ?_)
    rw [Zqw_arr zd_98 (by decide) (by decide), i32_clamp ri, Zc_up (by decide), Int.toNat_of_nonneg h0, Zfi_s z 98 6 h0] at hP1 hD1
    refine lv_iinc (v := i32 (i + 1)) (lv' := [(1, .int (i32 (i + 1))), (0, .ref (ad 68))]) S.1 S.2.1 dX11_init_531 hl (k := 0) rfl Yiinc (by decide) rfl (fun ls hl => ?_)
    refine lv_goto (tgt := 518) S.1 S.2.1 dX11_init_534 (by decide) ?_
    exact ih (i + 1) H1 locs1 ls (by omega) (by omega) ⟨hw.1, hP1, hD1, hS1, hw.2.2.2.2⟩ hl kk
end MLOOP
set_option maxRecDepth 100000 in
set_option maxHeartbeats 4000000 in
theorem c_X11_init {l : Launch} {D : va_G} {cA : Nat → ClassId} {ad : Nat → Nat} {A : Nat → Prop} {g : Nat → Bool} {z : ZI} (hz0 : Zzero z 69) (hg : ∀ k, 69 ≤ k → g k = false) : Met l yX11_init (ZV yX11_init cX11_init 2 none) (Rmi 1 60 5145) (ZPi D cA ad A g 69 [.ref (ad 68)] z) (ZQn D cA ad A g 69 129 (Zfi (Zfi z 70 144 50) 98 4 6)) 60 5145 A := by
  refine Met.ofW (cc := cX11_init) (maxL := 2) (ret := none) (by decide) rfl ?_
  intro p e s m args below meth c s₁ B hml hv2
  obtain ⟨rfl, hA, hE, hP, hD⟩ := hv2
  have hts := atoms_spec (ws := ZV yX11_init cX11_init 2 none) B.pre
  have hown : s.vm.findClass yX11_init.cls = some m.cls := findClass_of_methodNamed B.named
  have hin0 : meth.name = "<init>" := (name_of_methodNamed B.named B.method).1
  have hl := lv_entry [Value.ref (ad 68)] (n := 2) (Nat.le_of_ble_eq_true rfl)
  rw [lg_entry_eq]
  generalize (lg_sl [Value.ref (ad 68)] ++ List.replicate (2 - (lg_sl [Value.ref (ad 68)]).length) Slot.unset).toArray = ls at hl ⊢
  have hl : lv_has ls 2 [(0, .ref (ad 68))] := hl
  have S : CallFix p m c cX11_init 2 s [Value.ref (ad 68)].toArray Ztbl RX11 := ⟨B.exec, B.bytes, hml, hown, fun w hw => hts w (List.mem_cons_of_mem _ hw)⟩
  have hr := B.returns
  have hlk := B.notSynchronized
  have hA2 : ∀ q, A q → A q := fun q h => h
  have hw : PW D cA ad A (Zc z) (gto g 69 69) 69 s s.heap [] := by
    rw [gto_0]
    exact ⟨hE, hP, hD, va_S.rf, by decide, hg⟩
  have hea : ∀ k, k < 69 ∨ 129 ≤ k → ad k = ad k := fun k _ => rfl
  show W p l e (Rmi 1 60 5145) s m _ below meth c s.heap [] 0 0 _ _
  refine lv_aload_n S.1 S.2.1 dX11_init_0 rfl (lv_at hl 0 rfl) ?_
  refine W.objInit S.1 S.2.1 S.2.2.2.1 (S.2.2.2.2 _ (Ztb 1129 (by decide +kernel) rfl : Cond.methodLink RX11 1 Lib.objectInit ∈ Ztbl)) (S.2.2.2.2 _ oi_i) (S.2.2.2.2 _ oi_c) rfl (by rw [hml]; exact hl.1) rfl dX11_init_1 (Nat.le_of_ble_eq_true rfl) (Nat.le_of_ble_eq_true rfl) ?_
  refine W.eq (g2 := F0 m 4 ls []) rfl ?_
  refine lv_aload_n S.1 S.2.1 dX11_init_4 rfl (lv_at hl 0 rfl) ?_
  refine lv_bipush (v := i32 7) S.1 S.2.1 dX11_init_5 (by decide) ?_
  refine ProwF (n := 69) (k1 := 68) (j0 := 0) (a := 69) (t := 0) (len := 7) (i := 0) (N2 := 7) (index := 7) (C := RX11) (T := TX11) (N := 80) (ty := .array .int) S hw hA zd_69 (Zz_1 hz0 (by decide)) (Zz_2 hz0) (Zz_3 hz0) ac_0 rfl (fun _ => rfl) (fun _ _ h => h) (fun _ => rfl) (by decide) (by decide) (by decide) ⟨by decide, by decide⟩ (by decide) (by decide) (by decide +kernel) zd_68 rfl zc_X11 iX11 tyX11 tyX11_ok nmX11 (by decide) (Ztb 1130 (by decide +kernel) rfl) rfl hin0 rfl (by decide +kernel) (fun _ => rfl) (fun _ => rfl) dX11_init_7 dX11_init_9 (fun q H locs hw => ?_)
  replace hz0 := Zz_up hz0 (Nat.le_succ _)
  obtain ⟨ad1, hw, ea⟩ : ∃ a : Nat → Nat, PW D cA a A (Zc z) (gto g 69 70) 70 s H locs ∧ ∀ k, k ≠ 69 → a k = ad k := ⟨_, hw, fun k hk => if_neg hk⟩
  replace hea : ∀ k, k < 69 ∨ 129 ≤ k → ad1 k = ad k := fun k hk => (ea k (by omega)).trans (hea k hk)
  rw [← ea 68 (by decide)] at hl
  clear ea
  refine lv_aload_n S.1 S.2.1 dX11_init_12 rfl (lv_at hl 0 rfl) ?_
  refine lv_sipush (v := i32 144) S.1 S.2.1 dX11_init_13 (by decide) ?_
  refine ProwF (n := 70) (k1 := 68) (j0 := 1) (a := 69) (t := 0) (len := 144) (i := 0) (N2 := 144) (index := 13) (C := RX11) (T := TX11) (N := 80) (ty := .array .int) S hw hA zd_70 (Zz_1 hz0 (by decide)) (Zz_2 hz0) (Zz_3 hz0) ac_0 rfl (fun _ => rfl) (fun _ _ h => h) (fun _ => rfl) (by decide) (by decide) (by decide) ⟨by decide, by decide⟩ (by decide) (by decide) (by decide +kernel) zd_68 rfl zc_X11 iX11 tyX11 tyX11_ok nmX11 (by decide) (Ztb 1131 (by decide +kernel) rfl) rfl hin0 rfl (by decide +kernel) (fun _ => rfl) (fun _ => rfl) dX11_init_16 dX11_init_18 (fun q H locs hw => ?_)
  replace hz0 := Zz_up hz0 (Nat.le_succ _)
  obtain ⟨ad2, hw, ea⟩ : ∃ a : Nat → Nat, PW D cA a A (Zc z) (gto g 69 71) 71 s H locs ∧ ∀ k, k ≠ 70 → a k = ad1 k := ⟨_, hw, fun k hk => if_neg hk⟩
  replace hea : ∀ k, k < 69 ∨ 129 ≤ k → ad2 k = ad k := fun k hk => (ea k (by omega)).trans (hea k hk)
  rw [← ea 68 (by decide)] at hl
  clear ea
  refine lv_aload_n S.1 S.2.1 dX11_init_21 rfl (lv_at hl 0 rfl) ?_
  refine lv_bipush (v := i32 30) S.1 S.2.1 dX11_init_22 (by decide) ?_
  refine ProwF (n := 71) (k1 := 68) (j0 := 2) (a := 69) (t := 0) (len := 30) (i := 0) (N2 := 30) (index := 16) (C := RX11) (T := TX11) (N := 80) (ty := .array .int) S hw hA zd_71 (Zz_1 hz0 (by decide)) (Zz_2 hz0) (Zz_3 hz0) ac_0 rfl (fun _ => rfl) (fun _ _ h => h) (fun _ => rfl) (by decide) (by decide) (by decide) ⟨by decide, by decide⟩ (by decide) (by decide) (by decide +kernel) zd_68 rfl zc_X11 iX11 tyX11 tyX11_ok nmX11 (by decide) (Ztb 1132 (by decide +kernel) rfl) rfl hin0 rfl (by decide +kernel) (fun _ => rfl) (fun _ => rfl) dX11_init_24 dX11_init_26 (fun q H locs hw => ?_)
  replace hz0 := Zz_up hz0 (Nat.le_succ _)
  obtain ⟨ad3, hw, ea⟩ : ∃ a : Nat → Nat, PW D cA a A (Zc z) (gto g 69 72) 72 s H locs ∧ ∀ k, k ≠ 71 → a k = ad2 k := ⟨_, hw, fun k hk => if_neg hk⟩
  replace hea : ∀ k, k < 69 ∨ 129 ≤ k → ad3 k = ad k := fun k hk => (ea k (by omega)).trans (hea k hk)
  rw [← ea 68 (by decide)] at hl
  clear ea
  refine lv_aload_n S.1 S.2.1 dX11_init_29 rfl (lv_at hl 0 rfl) ?_
  refine lv_bipush (v := i32 30) S.1 S.2.1 dX11_init_30 (by decide) ?_
  refine ProwF (n := 72) (k1 := 68) (j0 := 3) (a := 69) (t := 0) (len := 30) (i := 0) (N2 := 30) (index := 19) (C := RX11) (T := TX11) (N := 80) (ty := .array .int) S hw hA zd_72 (Zz_1 hz0 (by decide)) (Zz_2 hz0) (Zz_3 hz0) ac_0 rfl (fun _ => rfl) (fun _ _ h => h) (fun _ => rfl) (by decide) (by decide) (by decide) ⟨by decide, by decide⟩ (by decide) (by decide) (by decide +kernel) zd_68 rfl zc_X11 iX11 tyX11 tyX11_ok nmX11 (by decide) (Ztb 1133 (by decide +kernel) rfl) rfl hin0 rfl (by decide +kernel) (fun _ => rfl) (fun _ => rfl) dX11_init_32 dX11_init_34 (fun q H locs hw => ?_)
  replace hz0 := Zz_up hz0 (Nat.le_succ _)
  obtain ⟨ad4, hw, ea⟩ : ∃ a : Nat → Nat, PW D cA a A (Zc z) (gto g 69 73) 73 s H locs ∧ ∀ k, k ≠ 72 → a k = ad3 k := ⟨_, hw, fun k hk => if_neg hk⟩
  replace hea : ∀ k, k < 69 ∨ 129 ≤ k → ad4 k = ad k := fun k hk => (ea k (by omega)).trans (hea k hk)
  rw [← ea 68 (by decide)] at hl
  clear ea
  refine lv_aload_n S.1 S.2.1 dX11_init_37 rfl (lv_at hl 0 rfl) ?_
  refine lv_bipush (v := i32 60) S.1 S.2.1 dX11_init_38 (by decide) ?_
  refine ProwF (n := 73) (k1 := 68) (j0 := 4) (a := 69) (t := 0) (len := 60) (i := 0) (N2 := 60) (index := 22) (C := RX11) (T := TX11) (N := 80) (ty := .array .int) S hw hA zd_73 (Zz_1 hz0 (by decide)) (Zz_2 hz0) (Zz_3 hz0) ac_0 rfl (fun _ => rfl) (fun _ _ h => h) (fun _ => rfl) (by decide) (by decide) (by decide) ⟨by decide, by decide⟩ (by decide) (by decide) (by decide +kernel) zd_68 rfl zc_X11 iX11 tyX11 tyX11_ok nmX11 (by decide) (Ztb 1134 (by decide +kernel) rfl) rfl hin0 rfl (by decide +kernel) (fun _ => rfl) (fun _ => rfl) dX11_init_40 dX11_init_42 (fun q H locs hw => ?_)
  replace hz0 := Zz_up hz0 (Nat.le_succ _)
  obtain ⟨ad5, hw, ea⟩ : ∃ a : Nat → Nat, PW D cA a A (Zc z) (gto g 69 74) 74 s H locs ∧ ∀ k, k ≠ 73 → a k = ad4 k := ⟨_, hw, fun k hk => if_neg hk⟩
  replace hea : ∀ k, k < 69 ∨ 129 ≤ k → ad5 k = ad k := fun k hk => (ea k (by omega)).trans (hea k hk)
  rw [← ea 68 (by decide)] at hl
  clear ea
  refine lv_aload_n S.1 S.2.1 dX11_init_45 rfl (lv_at hl 0 rfl) ?_
  refine lv_bipush (v := i32 60) S.1 S.2.1 dX11_init_46 (by decide) ?_
  refine ProwF (n := 74) (k1 := 68) (j0 := 5) (a := 69) (t := 0) (len := 60) (i := 0) (N2 := 60) (index := 25) (C := RX11) (T := TX11) (N := 80) (ty := .array .int) S hw hA zd_74 (Zz_1 hz0 (by decide)) (Zz_2 hz0) (Zz_3 hz0) ac_0 rfl (fun _ => rfl) (fun _ _ h => h) (fun _ => rfl) (by decide) (by decide) (by decide) ⟨by decide, by decide⟩ (by decide) (by decide) (by decide +kernel) zd_68 rfl zc_X11 iX11 tyX11 tyX11_ok nmX11 (by decide) (Ztb 1135 (by decide +kernel) rfl) rfl hin0 rfl (by decide +kernel) (fun _ => rfl) (fun _ => rfl) dX11_init_48 dX11_init_50 (fun q H locs hw => ?_)
  replace hz0 := Zz_up hz0 (Nat.le_succ _)
  obtain ⟨ad6, hw, ea⟩ : ∃ a : Nat → Nat, PW D cA a A (Zc z) (gto g 69 75) 75 s H locs ∧ ∀ k, k ≠ 74 → a k = ad5 k := ⟨_, hw, fun k hk => if_neg hk⟩
  replace hea : ∀ k, k < 69 ∨ 129 ≤ k → ad6 k = ad k := fun k hk => (ea k (by omega)).trans (hea k hk)
  rw [← ea 68 (by decide)] at hl
  clear ea
  refine lv_aload_n S.1 S.2.1 dX11_init_53 rfl (lv_at hl 0 rfl) ?_
  refine lv_bipush (v := i32 60) S.1 S.2.1 dX11_init_54 (by decide) ?_
  refine ProwF (n := 75) (k1 := 68) (j0 := 6) (a := 69) (t := 0) (len := 60) (i := 0) (N2 := 60) (index := 28) (C := RX11) (T := TX11) (N := 80) (ty := .array .int) S hw hA zd_75 (Zz_1 hz0 (by decide)) (Zz_2 hz0) (Zz_3 hz0) ac_0 rfl (fun _ => rfl) (fun _ _ h => h) (fun _ => rfl) (by decide) (by decide) (by decide) ⟨by decide, by decide⟩ (by decide) (by decide) (by decide +kernel) zd_68 rfl zc_X11 iX11 tyX11 tyX11_ok nmX11 (by decide) (Ztb 1136 (by decide +kernel) rfl) rfl hin0 rfl (by decide +kernel) (fun _ => rfl) (fun _ => rfl) dX11_init_56 dX11_init_58 (fun q H locs hw => ?_)
  replace hz0 := Zz_up hz0 (Nat.le_succ _)
  obtain ⟨ad7, hw, ea⟩ : ∃ a : Nat → Nat, PW D cA a A (Zc z) (gto g 69 76) 76 s H locs ∧ ∀ k, k ≠ 75 → a k = ad6 k := ⟨_, hw, fun k hk => if_neg hk⟩
  replace hea : ∀ k, k < 69 ∨ 129 ≤ k → ad7 k = ad k := fun k hk => (ea k (by omega)).trans (hea k hk)
  rw [← ea 68 (by decide)] at hl
  clear ea
  refine lv_aload_n S.1 S.2.1 dX11_init_61 rfl (lv_at hl 0 rfl) ?_
  refine lv_bipush (v := i32 60) S.1 S.2.1 dX11_init_62 (by decide) ?_
  refine ProwF (n := 76) (k1 := 68) (j0 := 7) (a := 69) (t := 0) (len := 60) (i := 0) (N2 := 60) (index := 31) (C := RX11) (T := TX11) (N := 80) (ty := .array .int) S hw hA zd_76 (Zz_1 hz0 (by decide)) (Zz_2 hz0) (Zz_3 hz0) ac_0 rfl (fun _ => rfl) (fun _ _ h => h) (fun _ => rfl) (by decide) (by decide) (by decide) ⟨by decide, by decide⟩ (by decide) (by decide) (by decide +kernel) zd_68 rfl zc_X11 iX11 tyX11 tyX11_ok nmX11 (by decide) (Ztb 1137 (by decide +kernel) rfl) rfl hin0 rfl (by decide +kernel) (fun _ => rfl) (fun _ => rfl) dX11_init_64 dX11_init_66 (fun q H locs hw => ?_)
  replace hz0 := Zz_up hz0 (Nat.le_succ _)
  obtain ⟨ad8, hw, ea⟩ : ∃ a : Nat → Nat, PW D cA a A (Zc z) (gto g 69 77) 77 s H locs ∧ ∀ k, k ≠ 76 → a k = ad7 k := ⟨_, hw, fun k hk => if_neg hk⟩
  replace hea : ∀ k, k < 69 ∨ 129 ≤ k → ad8 k = ad k := fun k hk => (ea k (by omega)).trans (hea k hk)
  rw [← ea 68 (by decide)] at hl
  clear ea
  refine lv_aload_n S.1 S.2.1 dX11_init_69 rfl (lv_at hl 0 rfl) ?_
  refine lv_sipush (v := i32 150) S.1 S.2.1 dX11_init_70 (by decide) ?_
  refine ProwF (n := 77) (k1 := 68) (j0 := 8) (a := 69) (t := 0) (len := 150) (i := 0) (N2 := 150) (index := 34) (C := RX11) (T := TX11) (N := 80) (ty := .array .int) S hw hA zd_77 (Zz_1 hz0 (by decide)) (Zz_2 hz0) (Zz_3 hz0) ac_0 rfl (fun _ => rfl) (fun _ _ h => h) (fun _ => rfl) (by decide) (by decide) (by decide) ⟨by decide, by decide⟩ (by decide) (by decide) (by decide +kernel) zd_68 rfl zc_X11 iX11 tyX11 tyX11_ok nmX11 (by decide) (Ztb 1138 (by decide +kernel) rfl) rfl hin0 rfl (by decide +kernel) (fun _ => rfl) (fun _ => rfl) dX11_init_73 dX11_init_75 (fun q H locs hw => ?_)
  replace hz0 := Zz_up hz0 (Nat.le_succ _)
  obtain ⟨ad9, hw, ea⟩ : ∃ a : Nat → Nat, PW D cA a A (Zc z) (gto g 69 78) 78 s H locs ∧ ∀ k, k ≠ 77 → a k = ad8 k := ⟨_, hw, fun k hk => if_neg hk⟩
  replace hea : ∀ k, k < 69 ∨ 129 ≤ k → ad9 k = ad k := fun k hk => (ea k (by omega)).trans (hea k hk)
  rw [← ea 68 (by decide)] at hl
  clear ea
  refine lv_aload_n S.1 S.2.1 dX11_init_78 rfl (lv_at hl 0 rfl) ?_
  refine lv_sipush (v := i32 150) S.1 S.2.1 dX11_init_79 (by decide) ?_
  refine ProwF (n := 78) (k1 := 68) (j0 := 9) (a := 69) (t := 0) (len := 150) (i := 0) (N2 := 150) (index := 37) (C := RX11) (T := TX11) (N := 80) (ty := .array .int) S hw hA zd_78 (Zz_1 hz0 (by decide)) (Zz_2 hz0) (Zz_3 hz0) ac_0 rfl (fun _ => rfl) (fun _ _ h => h) (fun _ => rfl) (by decide) (by decide) (by decide) ⟨by decide, by decide⟩ (by decide) (by decide) (by decide +kernel) zd_68 rfl zc_X11 iX11 tyX11 tyX11_ok nmX11 (by decide) (Ztb 1139 (by decide +kernel) rfl) rfl hin0 rfl (by decide +kernel) (fun _ => rfl) (fun _ => rfl) dX11_init_82 dX11_init_84 (fun q H locs hw => ?_)
  replace hz0 := Zz_up hz0 (Nat.le_succ _)
  obtain ⟨ad10, hw, ea⟩ : ∃ a : Nat → Nat, PW D cA a A (Zc z) (gto g 69 79) 79 s H locs ∧ ∀ k, k ≠ 78 → a k = ad9 k := ⟨_, hw, fun k hk => if_neg hk⟩
  replace hea : ∀ k, k < 69 ∨ 129 ≤ k → ad10 k = ad k := fun k hk => (ea k (by omega)).trans (hea k hk)
  rw [← ea 68 (by decide)] at hl
  clear ea
  refine lv_aload_n S.1 S.2.1 dX11_init_87 rfl (lv_at hl 0 rfl) ?_
  refine lv_sipush (v := i32 150) S.1 S.2.1 dX11_init_88 (by decide) ?_
  refine ProwF (n := 79) (k1 := 68) (j0 := 10) (a := 69) (t := 0) (len := 150) (i := 0) (N2 := 150) (index := 40) (C := RX11) (T := TX11) (N := 80) (ty := .array .int) S hw hA zd_79 (Zz_1 hz0 (by decide)) (Zz_2 hz0) (Zz_3 hz0) ac_0 rfl (fun _ => rfl) (fun _ _ h => h) (fun _ => rfl) (by decide) (by decide) (by decide) ⟨by decide, by decide⟩ (by decide) (by decide) (by decide +kernel) zd_68 rfl zc_X11 iX11 tyX11 tyX11_ok nmX11 (by decide) (Ztb 1140 (by decide +kernel) rfl) rfl hin0 rfl (by decide +kernel) (fun _ => rfl) (fun _ => rfl) dX11_init_91 dX11_init_93 (fun q H locs hw => ?_)
  replace hz0 := Zz_up hz0 (Nat.le_succ _)
  obtain ⟨ad11, hw, ea⟩ : ∃ a : Nat → Nat, PW D cA a A (Zc z) (gto g 69 80) 80 s H locs ∧ ∀ k, k ≠ 79 → a k = ad10 k := ⟨_, hw, fun k hk => if_neg hk⟩
  replace hea : ∀ k, k < 69 ∨ 129 ≤ k → ad11 k = ad k := fun k hk => (ea k (by omega)).trans (hea k hk)
  rw [← ea 68 (by decide)] at hl
  clear ea
  refine lv_aload_n S.1 S.2.1 dX11_init_96 rfl (lv_at hl 0 rfl) ?_
  refine lv_bipush (v := i32 60) S.1 S.2.1 dX11_init_97 (by decide) ?_
  refine ProwF (n := 80) (k1 := 68) (j0 := 15) (a := 69) (t := 0) (len := 60) (i := 0) (N2 := 60) (index := 43) (C := RX11) (T := TX11) (N := 80) (ty := .array .int) S hw hA zd_80 (Zz_1 hz0 (by decide)) (Zz_2 hz0) (Zz_3 hz0) ac_0 rfl (fun _ => rfl) (fun _ _ h => h) (fun _ => rfl) (by decide) (by decide) (by decide) ⟨by decide, by decide⟩ (by decide) (by decide) (by decide +kernel) zd_68 rfl zc_X11 iX11 tyX11 tyX11_ok nmX11 (by decide) (Ztb 1145 (by decide +kernel) rfl) rfl hin0 rfl (by decide +kernel) (fun _ => rfl) (fun _ => rfl) dX11_init_99 dX11_init_101 (fun q H locs hw => ?_)
  replace hz0 := Zz_up hz0 (Nat.le_succ _)
  obtain ⟨ad12, hw, ea⟩ : ∃ a : Nat → Nat, PW D cA a A (Zc z) (gto g 69 81) 81 s H locs ∧ ∀ k, k ≠ 80 → a k = ad11 k := ⟨_, hw, fun k hk => if_neg hk⟩
  replace hea : ∀ k, k < 69 ∨ 129 ≤ k → ad12 k = ad k := fun k hk => (ea k (by omega)).trans (hea k hk)
  rw [← ea 68 (by decide)] at hl
  clear ea
  refine lv_aload_n S.1 S.2.1 dX11_init_104 rfl (lv_at hl 0 rfl) ?_
  refine lv_sipush (v := i32 1800) S.1 S.2.1 dX11_init_105 (by decide) ?_
  refine ProwF (n := 81) (k1 := 68) (j0 := 16) (a := 69) (t := 0) (len := 1800) (i := 0) (N2 := 1800) (index := 46) (C := RX11) (T := TX11) (N := 80) (ty := .array .int) S hw hA zd_81 (Zz_1 hz0 (by decide)) (Zz_2 hz0) (Zz_3 hz0) ac_0 rfl (fun _ => rfl) (fun _ _ h => h) (fun _ => rfl) (by decide) (by decide) (by decide) ⟨by decide, by decide⟩ (by decide) (by decide) (by decide +kernel) zd_68 rfl zc_X11 iX11 tyX11 tyX11_ok nmX11 (by decide) (Ztb 1146 (by decide +kernel) rfl) rfl hin0 rfl (by decide +kernel) (fun _ => rfl) (fun _ => rfl) dX11_init_108 dX11_init_110 (fun q H locs hw => ?_)
  replace hz0 := Zz_up hz0 (Nat.le_succ _)
  obtain ⟨ad13, hw, ea⟩ : ∃ a : Nat → Nat, PW D cA a A (Zc z) (gto g 69 82) 82 s H locs ∧ ∀ k, k ≠ 81 → a k = ad12 k := ⟨_, hw, fun k hk => if_neg hk⟩
  replace hea : ∀ k, k < 69 ∨ 129 ≤ k → ad13 k = ad k := fun k hk => (ea k (by omega)).trans (hea k hk)
  rw [← ea 68 (by decide)] at hl
  clear ea
  refine lv_aload_n S.1 S.2.1 dX11_init_113 rfl (lv_at hl 0 rfl) ?_
  refine lv_bipush (v := i32 30) S.1 S.2.1 dX11_init_114 (by decide) ?_
  refine ProwF (n := 82) (k1 := 68) (j0 := 17) (a := 69) (t := 0) (len := 30) (i := 0) (N2 := 30) (index := 49) (C := RX11) (T := TX11) (N := 80) (ty := .array .int) S hw hA zd_82 (Zz_1 hz0 (by decide)) (Zz_2 hz0) (Zz_3 hz0) ac_0 rfl (fun _ => rfl) (fun _ _ h => h) (fun _ => rfl) (by decide) (by decide) (by decide) ⟨by decide, by decide⟩ (by decide) (by decide) (by decide +kernel) zd_68 rfl zc_X11 iX11 tyX11 tyX11_ok nmX11 (by decide) (Ztb 1147 (by decide +kernel) rfl) rfl hin0 rfl (by decide +kernel) (fun _ => rfl) (fun _ => rfl) dX11_init_116 dX11_init_118 (fun q H locs hw => ?_)
  replace hz0 := Zz_up hz0 (Nat.le_succ _)
  obtain ⟨ad14, hw, ea⟩ : ∃ a : Nat → Nat, PW D cA a A (Zc z) (gto g 69 83) 83 s H locs ∧ ∀ k, k ≠ 82 → a k = ad13 k := ⟨_, hw, fun k hk => if_neg hk⟩
  replace hea : ∀ k, k < 69 ∨ 129 ≤ k → ad14 k = ad k := fun k hk => (ea k (by omega)).trans (hea k hk)
  rw [← ea 68 (by decide)] at hl
  clear ea
  refine lv_aload_n S.1 S.2.1 dX11_init_121 rfl (lv_at hl 0 rfl) ?_
  refine lv_bipush (v := i32 30) S.1 S.2.1 dX11_init_122 (by decide) ?_
  refine ProwF (n := 83) (k1 := 68) (j0 := 18) (a := 69) (t := 0) (len := 30) (i := 0) (N2 := 30) (index := 52) (C := RX11) (T := TX11) (N := 80) (ty := .array .int) S hw hA zd_83 (Zz_1 hz0 (by decide)) (Zz_2 hz0) (Zz_3 hz0) ac_0 rfl (fun _ => rfl) (fun _ _ h => h) (fun _ => rfl) (by decide) (by decide) (by decide) ⟨by decide, by decide⟩ (by decide) (by decide) (by decide +kernel) zd_68 rfl zc_X11 iX11 tyX11 tyX11_ok nmX11 (by decide) (Ztb 1148 (by decide +kernel) rfl) rfl hin0 rfl (by decide +kernel) (fun _ => rfl) (fun _ => rfl) dX11_init_124 dX11_init_126 (fun q H locs hw => ?_)
  replace hz0 := Zz_up hz0 (Nat.le_succ _)
  obtain ⟨ad15, hw, ea⟩ : ∃ a : Nat → Nat, PW D cA a A (Zc z) (gto g 69 84) 84 s H locs ∧ ∀ k, k ≠ 83 → a k = ad14 k := ⟨_, hw, fun k hk => if_neg hk⟩
  replace hea : ∀ k, k < 69 ∨ 129 ≤ k → ad15 k = ad k := fun k hk => (ea k (by omega)).trans (hea k hk)
  rw [← ea 68 (by decide)] at hl
  clear ea
  refine lv_aload_n S.1 S.2.1 dX11_init_129 rfl (lv_at hl 0 rfl) ?_
  refine lv_bipush (v := i32 30) S.1 S.2.1 dX11_init_130 (by decide) ?_
  refine ProwF (n := 84) (k1 := 68) (j0 := 19) (a := 69) (t := 0) (len := 30) (i := 0) (N2 := 30) (index := 55) (C := RX11) (T := TX11) (N := 80) (ty := .array .int) S hw hA zd_84 (Zz_1 hz0 (by decide)) (Zz_2 hz0) (Zz_3 hz0) ac_0 rfl (fun _ => rfl) (fun _ _ h => h) (fun _ => rfl) (by decide) (by decide) (by decide) ⟨by decide, by decide⟩ (by decide) (by decide) (by decide +kernel) zd_68 rfl zc_X11 iX11 tyX11 tyX11_ok nmX11 (by decide) (Ztb 1149 (by decide +kernel) rfl) rfl hin0 rfl (by decide +kernel) (fun _ => rfl) (fun _ => rfl) dX11_init_132 dX11_init_134 (fun q H locs hw => ?_)
  replace hz0 := Zz_up hz0 (Nat.le_succ _)
  obtain ⟨ad16, hw, ea⟩ : ∃ a : Nat → Nat, PW D cA a A (Zc z) (gto g 69 85) 85 s H locs ∧ ∀ k, k ≠ 84 → a k = ad15 k := ⟨_, hw, fun k hk => if_neg hk⟩
  replace hea : ∀ k, k < 69 ∨ 129 ≤ k → ad16 k = ad k := fun k hk => (ea k (by omega)).trans (hea k hk)
  rw [← ea 68 (by decide)] at hl
  clear ea
  refine lv_aload_n S.1 S.2.1 dX11_init_137 rfl (lv_at hl 0 rfl) ?_
  refine lv_sipush (v := i32 128) S.1 S.2.1 dX11_init_138 (by decide) ?_
  refine ProwF (n := 85) (k1 := 68) (j0 := 20) (a := 69) (t := 0) (len := 128) (i := 0) (N2 := 128) (index := 58) (C := RX11) (T := TX11) (N := 80) (ty := .array .int) S hw hA zd_85 (Zz_1 hz0 (by decide)) (Zz_2 hz0) (Zz_3 hz0) ac_0 rfl (fun _ => rfl) (fun _ _ h => h) (fun _ => rfl) (by decide) (by decide) (by decide) ⟨by decide, by decide⟩ (by decide) (by decide) (by decide +kernel) zd_68 rfl zc_X11 iX11 tyX11 tyX11_ok nmX11 (by decide) (Ztb 1150 (by decide +kernel) rfl) rfl hin0 rfl (by decide +kernel) (fun _ => rfl) (fun _ => rfl) dX11_init_141 dX11_init_143 (fun q H locs hw => ?_)
  replace hz0 := Zz_up hz0 (Nat.le_succ _)
  obtain ⟨ad17, hw, ea⟩ : ∃ a : Nat → Nat, PW D cA a A (Zc z) (gto g 69 86) 86 s H locs ∧ ∀ k, k ≠ 85 → a k = ad16 k := ⟨_, hw, fun k hk => if_neg hk⟩
  replace hea : ∀ k, k < 69 ∨ 129 ≤ k → ad17 k = ad k := fun k hk => (ea k (by omega)).trans (hea k hk)
  rw [← ea 68 (by decide)] at hl
  clear ea
  refine lv_aload_n S.1 S.2.1 dX11_init_146 rfl (lv_at hl 0 rfl) ?_
  refine lv_bipush (v := i32 70) S.1 S.2.1 dX11_init_147 (by decide) ?_
  refine ProwF (n := 86) (k1 := 68) (j0 := 24) (a := 69) (t := 0) (len := 70) (i := 0) (N2 := 70) (index := 61) (C := RX11) (T := TX11) (N := 80) (ty := .array .int) S hw hA zd_86 (Zz_1 hz0 (by decide)) (Zz_2 hz0) (Zz_3 hz0) ac_0 rfl (fun _ => rfl) (fun _ _ h => h) (fun _ => rfl) (by decide) (by decide) (by decide) ⟨by decide, by decide⟩ (by decide) (by decide) (by decide +kernel) zd_68 rfl zc_X11 iX11 tyX11 tyX11_ok nmX11 (by decide) (Ztb 1154 (by decide +kernel) rfl) rfl hin0 rfl (by decide +kernel) (fun _ => rfl) (fun _ => rfl) dX11_init_149 dX11_init_151 (fun q H locs hw => ?_)
  replace hz0 := Zz_up hz0 (Nat.le_succ _)
  obtain ⟨ad18, hw, ea⟩ : ∃ a : Nat → Nat, PW D cA a A (Zc z) (gto g 69 87) 87 s H locs ∧ ∀ k, k ≠ 86 → a k = ad17 k := ⟨_, hw, fun k hk => if_neg hk⟩
  replace hea : ∀ k, k < 69 ∨ 129 ≤ k → ad18 k = ad k := fun k hk => (ea k (by omega)).trans (hea k hk)
  rw [← ea 68 (by decide)] at hl
  clear ea
  refine lv_aload_n S.1 S.2.1 dX11_init_154 rfl (lv_at hl 0 rfl) ?_
  refine lv_bipush (v := i32 70) S.1 S.2.1 dX11_init_155 (by decide) ?_
  refine ProwF (n := 87) (k1 := 68) (j0 := 25) (a := 69) (t := 3) (len := 70) (i := 3) (N2 := 70) (index := 64) (C := RX11) (T := TX11) (N := 80) (ty := .array .long) S hw hA zd_87 (Zz_1 hz0 (by decide)) (Zz_2 hz0) (Zz_3 hz0) ac_3 rfl (fun _ => rfl) (fun _ _ h => h) (fun _ => rfl) (by decide) (by decide) (by decide) ⟨by decide, by decide⟩ (by decide) (by decide) (by decide +kernel) zd_68 rfl zc_X11 iX11 tyX11 tyX11_ok nmX11 (by decide) (Ztb 1155 (by decide +kernel) rfl) rfl hin0 rfl (by decide +kernel) (fun _ => rfl) (fun _ => rfl) dX11_init_157 dX11_init_159 (fun q H locs hw => ?_)
  replace hz0 := Zz_up hz0 (Nat.le_succ _)
  obtain ⟨ad19, hw, ea⟩ : ∃ a : Nat → Nat, PW D cA a A (Zc z) (gto g 69 88) 88 s H locs ∧ ∀ k, k ≠ 87 → a k = ad18 k := ⟨_, hw, fun k hk => if_neg hk⟩
  replace hea : ∀ k, k < 69 ∨ 129 ≤ k → ad19 k = ad k := fun k hk => (ea k (by omega)).trans (hea k hk)
  rw [← ea 68 (by decide)] at hl
  clear ea
  refine lv_aload_n S.1 S.2.1 dX11_init_162 rfl (lv_at hl 0 rfl) ?_
  refine lv_bipush (v := i32 40) S.1 S.2.1 dX11_init_163 (by decide) ?_
  refine ProwF (n := 88) (k1 := 68) (j0 := 28) (a := 69) (t := 0) (len := 40) (i := 0) (N2 := 40) (index := 68) (C := RX11) (T := TX11) (N := 80) (ty := .array .int) S hw hA zd_88 (Zz_1 hz0 (by decide)) (Zz_2 hz0) (Zz_3 hz0) ac_0 rfl (fun _ => rfl) (fun _ _ h => h) (fun _ => rfl) (by decide) (by decide) (by decide) ⟨by decide, by decide⟩ (by decide) (by decide) (by decide +kernel) zd_68 rfl zc_X11 iX11 tyX11 tyX11_ok nmX11 (by decide) (Ztb 1158 (by decide +kernel) rfl) rfl hin0 rfl (by decide +kernel) (fun _ => rfl) (fun _ => rfl) dX11_init_165 dX11_init_167 (fun q H locs hw => ?_)
  replace hz0 := Zz_up hz0 (Nat.le_succ _)
  obtain ⟨ad20, hw, ea⟩ : ∃ a : Nat → Nat, PW D cA a A (Zc z) (gto g 69 89) 89 s H locs ∧ ∀ k, k ≠ 88 → a k = ad19 k := ⟨_, hw, fun k hk => if_neg hk⟩
  replace hea : ∀ k, k < 69 ∨ 129 ≤ k → ad20 k = ad k := fun k hk => (ea k (by omega)).trans (hea k hk)
  rw [← ea 68 (by decide)] at hl
  clear ea
  refine lv_aload_n S.1 S.2.1 dX11_init_170 rfl (lv_at hl 0 rfl) ?_
  refine lv_bipush (v := i32 40) S.1 S.2.1 dX11_init_171 (by decide) ?_
  refine ProwF (n := 89) (k1 := 68) (j0 := 29) (a := 69) (t := 0) (len := 40) (i := 0) (N2 := 40) (index := 71) (C := RX11) (T := TX11) (N := 80) (ty := .array .int) S hw hA zd_89 (Zz_1 hz0 (by decide)) (Zz_2 hz0) (Zz_3 hz0) ac_0 rfl (fun _ => rfl) (fun _ _ h => h) (fun _ => rfl) (by decide) (by decide) (by decide) ⟨by decide, by decide⟩ (by decide) (by decide) (by decide +kernel) zd_68 rfl zc_X11 iX11 tyX11 tyX11_ok nmX11 (by decide) (Ztb 1159 (by decide +kernel) rfl) rfl hin0 rfl (by decide +kernel) (fun _ => rfl) (fun _ => rfl) dX11_init_173 dX11_init_175 (fun q H locs hw => ?_)
  replace hz0 := Zz_up hz0 (Nat.le_succ _)
  obtain ⟨ad21, hw, ea⟩ : ∃ a : Nat → Nat, PW D cA a A (Zc z) (gto g 69 90) 90 s H locs ∧ ∀ k, k ≠ 89 → a k = ad20 k := ⟨_, hw, fun k hk => if_neg hk⟩
  replace hea : ∀ k, k < 69 ∨ 129 ≤ k → ad21 k = ad k := fun k hk => (ea k (by omega)).trans (hea k hk)
  rw [← ea 68 (by decide)] at hl
  clear ea
  refine lv_aload_n S.1 S.2.1 dX11_init_178 rfl (lv_at hl 0 rfl) ?_
  refine lv_bipush (v := i32 40) S.1 S.2.1 dX11_init_179 (by decide) ?_
  refine ProwF (n := 90) (k1 := 68) (j0 := 30) (a := 69) (t := 0) (len := 40) (i := 0) (N2 := 40) (index := 74) (C := RX11) (T := TX11) (N := 80) (ty := .array .int) S hw hA zd_90 (Zz_1 hz0 (by decide)) (Zz_2 hz0) (Zz_3 hz0) ac_0 rfl (fun _ => rfl) (fun _ _ h => h) (fun _ => rfl) (by decide) (by decide) (by decide) ⟨by decide, by decide⟩ (by decide) (by decide) (by decide +kernel) zd_68 rfl zc_X11 iX11 tyX11 tyX11_ok nmX11 (by decide) (Ztb 1160 (by decide +kernel) rfl) rfl hin0 rfl (by decide +kernel) (fun _ => rfl) (fun _ => rfl) dX11_init_181 dX11_init_183 (fun q H locs hw => ?_)
  replace hz0 := Zz_up hz0 (Nat.le_succ _)
  obtain ⟨ad22, hw, ea⟩ : ∃ a : Nat → Nat, PW D cA a A (Zc z) (gto g 69 91) 91 s H locs ∧ ∀ k, k ≠ 90 → a k = ad21 k := ⟨_, hw, fun k hk => if_neg hk⟩
  replace hea : ∀ k, k < 69 ∨ 129 ≤ k → ad22 k = ad k := fun k hk => (ea k (by omega)).trans (hea k hk)
  rw [← ea 68 (by decide)] at hl
  clear ea
  refine lv_aload_n S.1 S.2.1 dX11_init_186 rfl (lv_at hl 0 rfl) ?_
  refine lv_bipush (v := i32 60) S.1 S.2.1 dX11_init_187 (by decide) ?_
  refine ProwF (n := 91) (k1 := 68) (j0 := 31) (a := 69) (t := 0) (len := 60) (i := 0) (N2 := 60) (index := 77) (C := RX11) (T := TX11) (N := 80) (ty := .array .int) S hw hA zd_91 (Zz_1 hz0 (by decide)) (Zz_2 hz0) (Zz_3 hz0) ac_0 rfl (fun _ => rfl) (fun _ _ h => h) (fun _ => rfl) (by decide) (by decide) (by decide) ⟨by decide, by decide⟩ (by decide) (by decide) (by decide +kernel) zd_68 rfl zc_X11 iX11 tyX11 tyX11_ok nmX11 (by decide) (Ztb 1161 (by decide +kernel) rfl) rfl hin0 rfl (by decide +kernel) (fun _ => rfl) (fun _ => rfl) dX11_init_189 dX11_init_191 (fun q H locs hw => ?_)
  replace hz0 := Zz_up hz0 (Nat.le_succ _)
  obtain ⟨ad23, hw, ea⟩ : ∃ a : Nat → Nat, PW D cA a A (Zc z) (gto g 69 92) 92 s H locs ∧ ∀ k, k ≠ 91 → a k = ad22 k := ⟨_, hw, fun k hk => if_neg hk⟩
  replace hea : ∀ k, k < 69 ∨ 129 ≤ k → ad23 k = ad k := fun k hk => (ea k (by omega)).trans (hea k hk)
  rw [← ea 68 (by decide)] at hl
  clear ea
  refine lv_aload_n S.1 S.2.1 dX11_init_194 rfl (lv_at hl 0 rfl) ?_
  refine lv_bipush (v := i32 60) S.1 S.2.1 dX11_init_195 (by decide) ?_
  refine ProwF (n := 92) (k1 := 68) (j0 := 32) (a := 69) (t := 0) (len := 60) (i := 0) (N2 := 60) (index := 80) (C := RX11) (T := TX11) (N := 80) (ty := .array .int) S hw hA zd_92 (Zz_1 hz0 (by decide)) (Zz_2 hz0) (Zz_3 hz0) ac_0 rfl (fun _ => rfl) (fun _ _ h => h) (fun _ => rfl) (by decide) (by decide) (by decide) ⟨by decide, by decide⟩ (by decide) (by decide) (by decide +kernel) zd_68 rfl zc_X11 iX11 tyX11 tyX11_ok nmX11 (by decide) (Ztb 1162 (by decide +kernel) rfl) rfl hin0 rfl (by decide +kernel) (fun _ => rfl) (fun _ => rfl) dX11_init_197 dX11_init_199 (fun q H locs hw => ?_)
  replace hz0 := Zz_up hz0 (Nat.le_succ _)
  obtain ⟨ad24, hw, ea⟩ : ∃ a : Nat → Nat, PW D cA a A (Zc z) (gto g 69 93) 93 s H locs ∧ ∀ k, k ≠ 92 → a k = ad23 k := ⟨_, hw, fun k hk => if_neg hk⟩
  replace hea : ∀ k, k < 69 ∨ 129 ≤ k → ad24 k = ad k := fun k hk => (ea k (by omega)).trans (hea k hk)
  rw [← ea 68 (by decide)] at hl
  clear ea
  refine lv_aload_n S.1 S.2.1 dX11_init_202 rfl (lv_at hl 0 rfl) ?_
  refine lv_bipush (v := i32 60) S.1 S.2.1 dX11_init_203 (by decide) ?_
  refine ProwF (n := 93) (k1 := 68) (j0 := 33) (a := 69) (t := 0) (len := 60) (i := 0) (N2 := 60) (index := 83) (C := RX11) (T := TX11) (N := 80) (ty := .array .int) S hw hA zd_93 (Zz_1 hz0 (by decide)) (Zz_2 hz0) (Zz_3 hz0) ac_0 rfl (fun _ => rfl) (fun _ _ h => h) (fun _ => rfl) (by decide) (by decide) (by decide) ⟨by decide, by decide⟩ (by decide) (by decide) (by decide +kernel) zd_68 rfl zc_X11 iX11 tyX11 tyX11_ok nmX11 (by decide) (Ztb 1163 (by decide +kernel) rfl) rfl hin0 rfl (by decide +kernel) (fun _ => rfl) (fun _ => rfl) dX11_init_205 dX11_init_207 (fun q H locs hw => ?_)
  replace hz0 := Zz_up hz0 (Nat.le_succ _)
  obtain ⟨ad25, hw, ea⟩ : ∃ a : Nat → Nat, PW D cA a A (Zc z) (gto g 69 94) 94 s H locs ∧ ∀ k, k ≠ 93 → a k = ad24 k := ⟨_, hw, fun k hk => if_neg hk⟩
  replace hea : ∀ k, k < 69 ∨ 129 ≤ k → ad25 k = ad k := fun k hk => (ea k (by omega)).trans (hea k hk)
  rw [← ea 68 (by decide)] at hl
  clear ea
  refine lv_aload_n S.1 S.2.1 dX11_init_210 rfl (lv_at hl 0 rfl) ?_
  refine lv_bipush (v := i32 60) S.1 S.2.1 dX11_init_211 (by decide) ?_
  refine ProwF (n := 94) (k1 := 68) (j0 := 36) (a := 69) (t := 2) (len := 60) (i := 2) (N2 := 60) (index := 86) (C := RX11) (T := TX11) (N := 80) (ty := .array .boolean) S hw hA zd_94 (Zz_1 hz0 (by decide)) (Zz_2 hz0) (Zz_3 hz0) ac_2 rfl (fun _ => rfl) (fun _ _ h => h) (fun _ => rfl) (by decide) (by decide) (by decide) ⟨by decide, by decide⟩ (by decide) (by decide) (by decide +kernel) zd_68 rfl zc_X11 iX11 tyX11 tyX11_ok nmX11 (by decide) (Ztb 1166 (by decide +kernel) rfl) rfl hin0 rfl (by decide +kernel) (fun _ => rfl) (fun _ => rfl) dX11_init_213 dX11_init_215 (fun q H locs hw => ?_)
  replace hz0 := Zz_up hz0 (Nat.le_succ _)
  obtain ⟨ad26, hw, ea⟩ : ∃ a : Nat → Nat, PW D cA a A (Zc z) (gto g 69 95) 95 s H locs ∧ ∀ k, k ≠ 94 → a k = ad25 k := ⟨_, hw, fun k hk => if_neg hk⟩
  replace hea : ∀ k, k < 69 ∨ 129 ≤ k → ad26 k = ad k := fun k hk => (ea k (by omega)).trans (hea k hk)
  rw [← ea 68 (by decide)] at hl
  clear ea
  refine lv_aload_n S.1 S.2.1 dX11_init_218 rfl (lv_at hl 0 rfl) ?_
  refine lv_bipush (v := i32 6) S.1 S.2.1 dX11_init_219 (by decide) ?_
  refine ProwF (n := 95) (k1 := 68) (j0 := 37) (a := 69) (t := 0) (len := 6) (i := 0) (N2 := 6) (index := 90) (C := RX11) (T := TX11) (N := 80) (ty := .array .int) S hw hA zd_95 (Zz_1 hz0 (by decide)) (Zz_2 hz0) (Zz_3 hz0) ac_0 rfl (fun _ => rfl) (fun _ _ h => h) (fun _ => rfl) (by decide) (by decide) (by decide) ⟨by decide, by decide⟩ (by decide) (by decide) (by decide +kernel) zd_68 rfl zc_X11 iX11 tyX11 tyX11_ok nmX11 (by decide) (Ztb 1167 (by decide +kernel) rfl) rfl hin0 rfl (by decide +kernel) (fun _ => rfl) (fun _ => rfl) dX11_init_221 dX11_init_223 (fun q H locs hw => ?_)
  replace hz0 := Zz_up hz0 (Nat.le_succ _)
  obtain ⟨ad27, hw, ea⟩ : ∃ a : Nat → Nat, PW D cA a A (Zc z) (gto g 69 96) 96 s H locs ∧ ∀ k, k ≠ 95 → a k = ad26 k := ⟨_, hw, fun k hk => if_neg hk⟩
  replace hea : ∀ k, k < 69 ∨ 129 ≤ k → ad27 k = ad k := fun k hk => (ea k (by omega)).trans (hea k hk)
  rw [← ea 68 (by decide)] at hl
  clear ea
  refine lv_aload_n S.1 S.2.1 dX11_init_226 rfl (lv_at hl 0 rfl) ?_
  refine lv_bipush (v := i32 6) S.1 S.2.1 dX11_init_227 (by decide) ?_
  refine ProwF (n := 96) (k1 := 68) (j0 := 38) (a := 69) (t := 0) (len := 6) (i := 0) (N2 := 6) (index := 93) (C := RX11) (T := TX11) (N := 80) (ty := .array .int) S hw hA zd_96 (Zz_1 hz0 (by decide)) (Zz_2 hz0) (Zz_3 hz0) ac_0 rfl (fun _ => rfl) (fun _ _ h => h) (fun _ => rfl) (by decide) (by decide) (by decide) ⟨by decide, by decide⟩ (by decide) (by decide) (by decide +kernel) zd_68 rfl zc_X11 iX11 tyX11 tyX11_ok nmX11 (by decide) (Ztb 1168 (by decide +kernel) rfl) rfl hin0 rfl (by decide +kernel) (fun _ => rfl) (fun _ => rfl) dX11_init_229 dX11_init_231 (fun q H locs hw => ?_)
  replace hz0 := Zz_up hz0 (Nat.le_succ _)
  obtain ⟨ad28, hw, ea⟩ : ∃ a : Nat → Nat, PW D cA a A (Zc z) (gto g 69 97) 97 s H locs ∧ ∀ k, k ≠ 96 → a k = ad27 k := ⟨_, hw, fun k hk => if_neg hk⟩
  replace hea : ∀ k, k < 69 ∨ 129 ≤ k → ad28 k = ad k := fun k hk => (ea k (by omega)).trans (hea k hk)
  rw [← ea 68 (by decide)] at hl
  clear ea
  refine lv_aload_n S.1 S.2.1 dX11_init_234 rfl (lv_at hl 0 rfl) ?_
  refine lv_bipush (v := i32 6) S.1 S.2.1 dX11_init_235 (by decide) ?_
  refine ProwF (n := 97) (k1 := 68) (j0 := 39) (a := 69) (t := 0) (len := 6) (i := 0) (N2 := 6) (index := 96) (C := RX11) (T := TX11) (N := 80) (ty := .array .int) S hw hA zd_97 (Zz_1 hz0 (by decide)) (Zz_2 hz0) (Zz_3 hz0) ac_0 rfl (fun _ => rfl) (fun _ _ h => h) (fun _ => rfl) (by decide) (by decide) (by decide) ⟨by decide, by decide⟩ (by decide) (by decide) (by decide +kernel) zd_68 rfl zc_X11 iX11 tyX11 tyX11_ok nmX11 (by decide) (Ztb 1169 (by decide +kernel) rfl) rfl hin0 rfl (by decide +kernel) (fun _ => rfl) (fun _ => rfl) dX11_init_237 dX11_init_239 (fun q H locs hw => ?_)
  replace hz0 := Zz_up hz0 (Nat.le_succ _)
  obtain ⟨ad29, hw, ea⟩ : ∃ a : Nat → Nat, PW D cA a A (Zc z) (gto g 69 98) 98 s H locs ∧ ∀ k, k ≠ 97 → a k = ad28 k := ⟨_, hw, fun k hk => if_neg hk⟩
  replace hea : ∀ k, k < 69 ∨ 129 ≤ k → ad29 k = ad k := fun k hk => (ea k (by omega)).trans (hea k hk)
  rw [← ea 68 (by decide)] at hl
  clear ea
  refine lv_aload_n S.1 S.2.1 dX11_init_242 rfl (lv_at hl 0 rfl) ?_
  refine lv_iconst (v := i32 4) S.1 S.2.1 dX11_init_243 (by decide) ?_
  refine ProwF (n := 98) (k1 := 68) (j0 := 40) (a := 69) (t := 0) (len := 4) (i := 0) (N2 := 4) (index := 99) (C := RX11) (T := TX11) (N := 80) (ty := .array .int) S hw hA zd_98 (Zz_1 hz0 (by decide)) (Zz_2 hz0) (Zz_3 hz0) ac_0 rfl (fun _ => rfl) (fun _ _ h => h) (fun _ => rfl) (by decide) (by decide) (by decide) ⟨by decide, by decide⟩ (by decide) (by decide) (by decide +kernel) zd_68 rfl zc_X11 iX11 tyX11 tyX11_ok nmX11 (by decide) (Ztb 1170 (by decide +kernel) rfl) rfl hin0 rfl (by decide +kernel) (fun _ => rfl) (fun _ => rfl) dX11_init_244 dX11_init_246 (fun q H locs hw => ?_)
  replace hz0 := Zz_up hz0 (Nat.le_succ _)
  obtain ⟨ad30, hw, ea⟩ : ∃ a : Nat → Nat, PW D cA a A (Zc z) (gto g 69 99) 99 s H locs ∧ ∀ k, k ≠ 98 → a k = ad29 k := ⟨_, hw, fun k hk => if_neg hk⟩
  replace hea : ∀ k, k < 69 ∨ 129 ≤ k → ad30 k = ad k := fun k hk => (ea k (by omega)).trans (hea k hk)
  rw [← ea 68 (by decide)] at hl
  clear ea
  refine lv_aload_n S.1 S.2.1 dX11_init_249 rfl (lv_at hl 0 rfl) ?_
  refine lv_bipush (v := i32 30) S.1 S.2.1 dX11_init_250 (by decide) ?_
  refine ProwF (n := 99) (k1 := 68) (j0 := 41) (a := 69) (t := 0) (len := 30) (i := 0) (N2 := 30) (index := 102) (C := RX11) (T := TX11) (N := 80) (ty := .array .int) S hw hA zd_99 (Zz_1 hz0 (by decide)) (Zz_2 hz0) (Zz_3 hz0) ac_0 rfl (fun _ => rfl) (fun _ _ h => h) (fun _ => rfl) (by decide) (by decide) (by decide) ⟨by decide, by decide⟩ (by decide) (by decide) (by decide +kernel) zd_68 rfl zc_X11 iX11 tyX11 tyX11_ok nmX11 (by decide) (Ztb 1171 (by decide +kernel) rfl) rfl hin0 rfl (by decide +kernel) (fun _ => rfl) (fun _ => rfl) dX11_init_252 dX11_init_254 (fun q H locs hw => ?_)
  replace hz0 := Zz_up hz0 (Nat.le_succ _)
  obtain ⟨ad31, hw, ea⟩ : ∃ a : Nat → Nat, PW D cA a A (Zc z) (gto g 69 100) 100 s H locs ∧ ∀ k, k ≠ 99 → a k = ad30 k := ⟨_, hw, fun k hk => if_neg hk⟩
  replace hea : ∀ k, k < 69 ∨ 129 ≤ k → ad31 k = ad k := fun k hk => (ea k (by omega)).trans (hea k hk)
  rw [← ea 68 (by decide)] at hl
  clear ea
  refine lv_aload_n S.1 S.2.1 dX11_init_257 rfl (lv_at hl 0 rfl) ?_
  refine lv_bipush (v := i32 30) S.1 S.2.1 dX11_init_258 (by decide) ?_
  refine ProwF (n := 100) (k1 := 68) (j0 := 42) (a := 69) (t := 0) (len := 30) (i := 0) (N2 := 30) (index := 105) (C := RX11) (T := TX11) (N := 80) (ty := .array .int) S hw hA zd_100 (Zz_1 hz0 (by decide)) (Zz_2 hz0) (Zz_3 hz0) ac_0 rfl (fun _ => rfl) (fun _ _ h => h) (fun _ => rfl) (by decide) (by decide) (by decide) ⟨by decide, by decide⟩ (by decide) (by decide) (by decide +kernel) zd_68 rfl zc_X11 iX11 tyX11 tyX11_ok nmX11 (by decide) (Ztb 1172 (by decide +kernel) rfl) rfl hin0 rfl (by decide +kernel) (fun _ => rfl) (fun _ => rfl) dX11_init_260 dX11_init_262 (fun q H locs hw => ?_)
  replace hz0 := Zz_up hz0 (Nat.le_succ _)
  obtain ⟨ad32, hw, ea⟩ : ∃ a : Nat → Nat, PW D cA a A (Zc z) (gto g 69 101) 101 s H locs ∧ ∀ k, k ≠ 100 → a k = ad31 k := ⟨_, hw, fun k hk => if_neg hk⟩
  replace hea : ∀ k, k < 69 ∨ 129 ≤ k → ad32 k = ad k := fun k hk => (ea k (by omega)).trans (hea k hk)
  rw [← ea 68 (by decide)] at hl
  clear ea
  refine lv_aload_n S.1 S.2.1 dX11_init_265 rfl (lv_at hl 0 rfl) ?_
  refine lv_bipush (v := i32 30) S.1 S.2.1 dX11_init_266 (by decide) ?_
  refine ProwF (n := 101) (k1 := 68) (j0 := 43) (a := 69) (t := 0) (len := 30) (i := 0) (N2 := 30) (index := 108) (C := RX11) (T := TX11) (N := 80) (ty := .array .int) S hw hA zd_101 (Zz_1 hz0 (by decide)) (Zz_2 hz0) (Zz_3 hz0) ac_0 rfl (fun _ => rfl) (fun _ _ h => h) (fun _ => rfl) (by decide) (by decide) (by decide) ⟨by decide, by decide⟩ (by decide) (by decide) (by decide +kernel) zd_68 rfl zc_X11 iX11 tyX11 tyX11_ok nmX11 (by decide) (Ztb 1173 (by decide +kernel) rfl) rfl hin0 rfl (by decide +kernel) (fun _ => rfl) (fun _ => rfl) dX11_init_268 dX11_init_270 (fun q H locs hw => ?_)
  replace hz0 := Zz_up hz0 (Nat.le_succ _)
  obtain ⟨ad33, hw, ea⟩ : ∃ a : Nat → Nat, PW D cA a A (Zc z) (gto g 69 102) 102 s H locs ∧ ∀ k, k ≠ 101 → a k = ad32 k := ⟨_, hw, fun k hk => if_neg hk⟩
  replace hea : ∀ k, k < 69 ∨ 129 ≤ k → ad33 k = ad k := fun k hk => (ea k (by omega)).trans (hea k hk)
  rw [← ea 68 (by decide)] at hl
  clear ea
  refine lv_aload_n S.1 S.2.1 dX11_init_273 rfl (lv_at hl 0 rfl) ?_
  refine lv_bipush (v := i32 30) S.1 S.2.1 dX11_init_274 (by decide) ?_
  refine ProwF (n := 102) (k1 := 68) (j0 := 44) (a := 69) (t := 0) (len := 30) (i := 0) (N2 := 30) (index := 111) (C := RX11) (T := TX11) (N := 80) (ty := .array .int) S hw hA zd_102 (Zz_1 hz0 (by decide)) (Zz_2 hz0) (Zz_3 hz0) ac_0 rfl (fun _ => rfl) (fun _ _ h => h) (fun _ => rfl) (by decide) (by decide) (by decide) ⟨by decide, by decide⟩ (by decide) (by decide) (by decide +kernel) zd_68 rfl zc_X11 iX11 tyX11 tyX11_ok nmX11 (by decide) (Ztb 1174 (by decide +kernel) rfl) rfl hin0 rfl (by decide +kernel) (fun _ => rfl) (fun _ => rfl) dX11_init_276 dX11_init_278 (fun q H locs hw => ?_)
  replace hz0 := Zz_up hz0 (Nat.le_succ _)
  obtain ⟨ad34, hw, ea⟩ : ∃ a : Nat → Nat, PW D cA a A (Zc z) (gto g 69 103) 103 s H locs ∧ ∀ k, k ≠ 102 → a k = ad33 k := ⟨_, hw, fun k hk => if_neg hk⟩
  replace hea : ∀ k, k < 69 ∨ 129 ≤ k → ad34 k = ad k := fun k hk => (ea k (by omega)).trans (hea k hk)
  rw [← ea 68 (by decide)] at hl
  clear ea
  refine lv_aload_n S.1 S.2.1 dX11_init_281 rfl (lv_at hl 0 rfl) ?_
  refine lv_iconst (v := i32 4) S.1 S.2.1 dX11_init_282 (by decide) ?_
  refine ProwF (n := 103) (k1 := 68) (j0 := 45) (a := 69) (t := 0) (len := 4) (i := 0) (N2 := 4) (index := 114) (C := RX11) (T := TX11) (N := 80) (ty := .array .int) S hw hA zd_103 (Zz_1 hz0 (by decide)) (Zz_2 hz0) (Zz_3 hz0) ac_0 rfl (fun _ => rfl) (fun _ _ h => h) (fun _ => rfl) (by decide) (by decide) (by decide) ⟨by decide, by decide⟩ (by decide) (by decide) (by decide +kernel) zd_68 rfl zc_X11 iX11 tyX11 tyX11_ok nmX11 (by decide) (Ztb 1175 (by decide +kernel) rfl) rfl hin0 rfl (by decide +kernel) (fun _ => rfl) (fun _ => rfl) dX11_init_283 dX11_init_285 (fun q H locs hw => ?_)
  replace hz0 := Zz_up hz0 (Nat.le_succ _)
  obtain ⟨ad35, hw, ea⟩ : ∃ a : Nat → Nat, PW D cA a A (Zc z) (gto g 69 104) 104 s H locs ∧ ∀ k, k ≠ 103 → a k = ad34 k := ⟨_, hw, fun k hk => if_neg hk⟩
  replace hea : ∀ k, k < 69 ∨ 129 ≤ k → ad35 k = ad k := fun k hk => (ea k (by omega)).trans (hea k hk)
  rw [← ea 68 (by decide)] at hl
  clear ea
  refine lv_aload_n S.1 S.2.1 dX11_init_288 rfl (lv_at hl 0 rfl) ?_
  refine lv_iconst (v := i32 4) S.1 S.2.1 dX11_init_289 (by decide) ?_
  refine ProwF (n := 104) (k1 := 68) (j0 := 46) (a := 69) (t := 0) (len := 4) (i := 0) (N2 := 4) (index := 117) (C := RX11) (T := TX11) (N := 80) (ty := .array .int) S hw hA zd_104 (Zz_1 hz0 (by decide)) (Zz_2 hz0) (Zz_3 hz0) ac_0 rfl (fun _ => rfl) (fun _ _ h => h) (fun _ => rfl) (by decide) (by decide) (by decide) ⟨by decide, by decide⟩ (by decide) (by decide) (by decide +kernel) zd_68 rfl zc_X11 iX11 tyX11 tyX11_ok nmX11 (by decide) (Ztb 1176 (by decide +kernel) rfl) rfl hin0 rfl (by decide +kernel) (fun _ => rfl) (fun _ => rfl) dX11_init_290 dX11_init_292 (fun q H locs hw => ?_)
  replace hz0 := Zz_up hz0 (Nat.le_succ _)
  obtain ⟨ad36, hw, ea⟩ : ∃ a : Nat → Nat, PW D cA a A (Zc z) (gto g 69 105) 105 s H locs ∧ ∀ k, k ≠ 104 → a k = ad35 k := ⟨_, hw, fun k hk => if_neg hk⟩
  replace hea : ∀ k, k < 69 ∨ 129 ≤ k → ad36 k = ad k := fun k hk => (ea k (by omega)).trans (hea k hk)
  rw [← ea 68 (by decide)] at hl
  clear ea
  refine lv_aload_n S.1 S.2.1 dX11_init_295 rfl (lv_at hl 0 rfl) ?_
  refine lv_bipush (v := i32 30) S.1 S.2.1 dX11_init_296 (by decide) ?_
  refine ProwF (n := 105) (k1 := 68) (j0 := 50) (a := 69) (t := 0) (len := 30) (i := 0) (N2 := 30) (index := 120) (C := RX11) (T := TX11) (N := 80) (ty := .array .int) S hw hA zd_105 (Zz_1 hz0 (by decide)) (Zz_2 hz0) (Zz_3 hz0) ac_0 rfl (fun _ => rfl) (fun _ _ h => h) (fun _ => rfl) (by decide) (by decide) (by decide) ⟨by decide, by decide⟩ (by decide) (by decide) (by decide +kernel) zd_68 rfl zc_X11 iX11 tyX11 tyX11_ok nmX11 (by decide) (Ztb 1180 (by decide +kernel) rfl) rfl hin0 rfl (by decide +kernel) (fun _ => rfl) (fun _ => rfl) dX11_init_298 dX11_init_300 (fun q H locs hw => ?_)
  replace hz0 := Zz_up hz0 (Nat.le_succ _)
  obtain ⟨ad37, hw, ea⟩ : ∃ a : Nat → Nat, PW D cA a A (Zc z) (gto g 69 106) 106 s H locs ∧ ∀ k, k ≠ 105 → a k = ad36 k := ⟨_, hw, fun k hk => if_neg hk⟩
  replace hea : ∀ k, k < 69 ∨ 129 ≤ k → ad37 k = ad k := fun k hk => (ea k (by omega)).trans (hea k hk)
  rw [← ea 68 (by decide)] at hl
  clear ea
  refine lv_aload_n S.1 S.2.1 dX11_init_303 rfl (lv_at hl 0 rfl) ?_
  refine lv_bipush (v := i32 6) S.1 S.2.1 dX11_init_304 (by decide) ?_
  refine ProwF (n := 106) (k1 := 68) (j0 := 51) (a := 69) (t := 0) (len := 6) (i := 0) (N2 := 6) (index := 123) (C := RX11) (T := TX11) (N := 80) (ty := .array .int) S hw hA zd_106 (Zz_1 hz0 (by decide)) (Zz_2 hz0) (Zz_3 hz0) ac_0 rfl (fun _ => rfl) (fun _ _ h => h) (fun _ => rfl) (by decide) (by decide) (by decide) ⟨by decide, by decide⟩ (by decide) (by decide) (by decide +kernel) zd_68 rfl zc_X11 iX11 tyX11 tyX11_ok nmX11 (by decide) (Ztb 1181 (by decide +kernel) rfl) rfl hin0 rfl (by decide +kernel) (fun _ => rfl) (fun _ => rfl) dX11_init_306 dX11_init_308 (fun q H locs hw => ?_)
  replace hz0 := Zz_up hz0 (Nat.le_succ _)
  obtain ⟨ad38, hw, ea⟩ : ∃ a : Nat → Nat, PW D cA a A (Zc z) (gto g 69 107) 107 s H locs ∧ ∀ k, k ≠ 106 → a k = ad37 k := ⟨_, hw, fun k hk => if_neg hk⟩
  replace hea : ∀ k, k < 69 ∨ 129 ≤ k → ad38 k = ad k := fun k hk => (ea k (by omega)).trans (hea k hk)
  rw [← ea 68 (by decide)] at hl
  clear ea
  refine lv_aload_n S.1 S.2.1 dX11_init_311 rfl (lv_at hl 0 rfl) ?_
  refine lv_bipush (v := i32 110) S.1 S.2.1 dX11_init_312 (by decide) ?_
  refine ProwF (n := 107) (k1 := 68) (j0 := 52) (a := 69) (t := 0) (len := 110) (i := 0) (N2 := 110) (index := 126) (C := RX11) (T := TX11) (N := 80) (ty := .array .int) S hw hA zd_107 (Zz_1 hz0 (by decide)) (Zz_2 hz0) (Zz_3 hz0) ac_0 rfl (fun _ => rfl) (fun _ _ h => h) (fun _ => rfl) (by decide) (by decide) (by decide) ⟨by decide, by decide⟩ (by decide) (by decide) (by decide +kernel) zd_68 rfl zc_X11 iX11 tyX11 tyX11_ok nmX11 (by decide) (Ztb 1182 (by decide +kernel) rfl) rfl hin0 rfl (by decide +kernel) (fun _ => rfl) (fun _ => rfl) dX11_init_314 dX11_init_316 (fun q H locs hw => ?_)
  replace hz0 := Zz_up hz0 (Nat.le_succ _)
  obtain ⟨ad39, hw, ea⟩ : ∃ a : Nat → Nat, PW D cA a A (Zc z) (gto g 69 108) 108 s H locs ∧ ∀ k, k ≠ 107 → a k = ad38 k := ⟨_, hw, fun k hk => if_neg hk⟩
  replace hea : ∀ k, k < 69 ∨ 129 ≤ k → ad39 k = ad k := fun k hk => (ea k (by omega)).trans (hea k hk)
  rw [← ea 68 (by decide)] at hl
  clear ea
  refine lv_aload_n S.1 S.2.1 dX11_init_319 rfl (lv_at hl 0 rfl) ?_
  refine lv_bipush (v := i32 14) S.1 S.2.1 dX11_init_320 (by decide) ?_
  refine ProwF (n := 108) (k1 := 68) (j0 := 54) (a := 69) (t := 0) (len := 14) (i := 0) (N2 := 14) (index := 129) (C := RX11) (T := TX11) (N := 80) (ty := .array .int) S hw hA zd_108 (Zz_1 hz0 (by decide)) (Zz_2 hz0) (Zz_3 hz0) ac_0 rfl (fun _ => rfl) (fun _ _ h => h) (fun _ => rfl) (by decide) (by decide) (by decide) ⟨by decide, by decide⟩ (by decide) (by decide) (by decide +kernel) zd_68 rfl zc_X11 iX11 tyX11 tyX11_ok nmX11 (by decide) (Ztb 1184 (by decide +kernel) rfl) rfl hin0 rfl (by decide +kernel) (fun _ => rfl) (fun _ => rfl) dX11_init_322 dX11_init_324 (fun q H locs hw => ?_)
  replace hz0 := Zz_up hz0 (Nat.le_succ _)
  obtain ⟨ad40, hw, ea⟩ : ∃ a : Nat → Nat, PW D cA a A (Zc z) (gto g 69 109) 109 s H locs ∧ ∀ k, k ≠ 108 → a k = ad39 k := ⟨_, hw, fun k hk => if_neg hk⟩
  replace hea : ∀ k, k < 69 ∨ 129 ≤ k → ad40 k = ad k := fun k hk => (ea k (by omega)).trans (hea k hk)
  rw [← ea 68 (by decide)] at hl
  clear ea
  refine lv_aload_n S.1 S.2.1 dX11_init_327 rfl (lv_at hl 0 rfl) ?_
  refine lv_bipush (v := i32 14) S.1 S.2.1 dX11_init_328 (by decide) ?_
  refine ProwF (n := 109) (k1 := 68) (j0 := 55) (a := 69) (t := 0) (len := 14) (i := 0) (N2 := 14) (index := 132) (C := RX11) (T := TX11) (N := 80) (ty := .array .int) S hw hA zd_109 (Zz_1 hz0 (by decide)) (Zz_2 hz0) (Zz_3 hz0) ac_0 rfl (fun _ => rfl) (fun _ _ h => h) (fun _ => rfl) (by decide) (by decide) (by decide) ⟨by decide, by decide⟩ (by decide) (by decide) (by decide +kernel) zd_68 rfl zc_X11 iX11 tyX11 tyX11_ok nmX11 (by decide) (Ztb 1185 (by decide +kernel) rfl) rfl hin0 rfl (by decide +kernel) (fun _ => rfl) (fun _ => rfl) dX11_init_330 dX11_init_332 (fun q H locs hw => ?_)
  replace hz0 := Zz_up hz0 (Nat.le_succ _)
  obtain ⟨ad41, hw, ea⟩ : ∃ a : Nat → Nat, PW D cA a A (Zc z) (gto g 69 110) 110 s H locs ∧ ∀ k, k ≠ 109 → a k = ad40 k := ⟨_, hw, fun k hk => if_neg hk⟩
  replace hea : ∀ k, k < 69 ∨ 129 ≤ k → ad41 k = ad k := fun k hk => (ea k (by omega)).trans (hea k hk)
  rw [← ea 68 (by decide)] at hl
  clear ea
  refine lv_aload_n S.1 S.2.1 dX11_init_335 rfl (lv_at hl 0 rfl) ?_
  refine lv_bipush (v := i32 10) S.1 S.2.1 dX11_init_336 (by decide) ?_
  refine ProwF (n := 110) (k1 := 68) (j0 := 56) (a := 69) (t := 0) (len := 10) (i := 0) (N2 := 10) (index := 135) (C := RX11) (T := TX11) (N := 80) (ty := .array .int) S hw hA zd_110 (Zz_1 hz0 (by decide)) (Zz_2 hz0) (Zz_3 hz0) ac_0 rfl (fun _ => rfl) (fun _ _ h => h) (fun _ => rfl) (by decide) (by decide) (by decide) ⟨by decide, by decide⟩ (by decide) (by decide) (by decide +kernel) zd_68 rfl zc_X11 iX11 tyX11 tyX11_ok nmX11 (by decide) (Ztb 1186 (by decide +kernel) rfl) rfl hin0 rfl (by decide +kernel) (fun _ => rfl) (fun _ => rfl) dX11_init_338 dX11_init_340 (fun q H locs hw => ?_)
  replace hz0 := Zz_up hz0 (Nat.le_succ _)
  obtain ⟨ad42, hw, ea⟩ : ∃ a : Nat → Nat, PW D cA a A (Zc z) (gto g 69 111) 111 s H locs ∧ ∀ k, k ≠ 110 → a k = ad41 k := ⟨_, hw, fun k hk => if_neg hk⟩
  replace hea : ∀ k, k < 69 ∨ 129 ≤ k → ad42 k = ad k := fun k hk => (ea k (by omega)).trans (hea k hk)
  rw [← ea 68 (by decide)] at hl
  clear ea
  refine lv_aload_n S.1 S.2.1 dX11_init_343 rfl (lv_at hl 0 rfl) ?_
  refine lv_sipush (v := i32 144) S.1 S.2.1 dX11_init_344 (by decide) ?_
  refine ProwF (n := 111) (k1 := 68) (j0 := 57) (a := 69) (t := 0) (len := 144) (i := 0) (N2 := 144) (index := 138) (C := RX11) (T := TX11) (N := 80) (ty := .array .int) S hw hA zd_111 (Zz_1 hz0 (by decide)) (Zz_2 hz0) (Zz_3 hz0) ac_0 rfl (fun _ => rfl) (fun _ _ h => h) (fun _ => rfl) (by decide) (by decide) (by decide) ⟨by decide, by decide⟩ (by decide) (by decide) (by decide +kernel) zd_68 rfl zc_X11 iX11 tyX11 tyX11_ok nmX11 (by decide) (Ztb 1187 (by decide +kernel) rfl) rfl hin0 rfl (by decide +kernel) (fun _ => rfl) (fun _ => rfl) dX11_init_347 dX11_init_349 (fun q H locs hw => ?_)
  replace hz0 := Zz_up hz0 (Nat.le_succ _)
  obtain ⟨ad43, hw, ea⟩ : ∃ a : Nat → Nat, PW D cA a A (Zc z) (gto g 69 112) 112 s H locs ∧ ∀ k, k ≠ 111 → a k = ad42 k := ⟨_, hw, fun k hk => if_neg hk⟩
  replace hea : ∀ k, k < 69 ∨ 129 ≤ k → ad43 k = ad k := fun k hk => (ea k (by omega)).trans (hea k hk)
  rw [← ea 68 (by decide)] at hl
  clear ea
  refine lv_aload_n S.1 S.2.1 dX11_init_352 rfl (lv_at hl 0 rfl) ?_
  refine lv_sipush (v := i32 144) S.1 S.2.1 dX11_init_353 (by decide) ?_
  refine ProwF (n := 112) (k1 := 68) (j0 := 58) (a := 69) (t := 0) (len := 144) (i := 0) (N2 := 144) (index := 141) (C := RX11) (T := TX11) (N := 80) (ty := .array .int) S hw hA zd_112 (Zz_1 hz0 (by decide)) (Zz_2 hz0) (Zz_3 hz0) ac_0 rfl (fun _ => rfl) (fun _ _ h => h) (fun _ => rfl) (by decide) (by decide) (by decide) ⟨by decide, by decide⟩ (by decide) (by decide) (by decide +kernel) zd_68 rfl zc_X11 iX11 tyX11 tyX11_ok nmX11 (by decide) (Ztb 1188 (by decide +kernel) rfl) rfl hin0 rfl (by decide +kernel) (fun _ => rfl) (fun _ => rfl) dX11_init_356 dX11_init_358 (fun q H locs hw => ?_)
  replace hz0 := Zz_up hz0 (Nat.le_succ _)
  obtain ⟨ad44, hw, ea⟩ : ∃ a : Nat → Nat, PW D cA a A (Zc z) (gto g 69 113) 113 s H locs ∧ ∀ k, k ≠ 112 → a k = ad43 k := ⟨_, hw, fun k hk => if_neg hk⟩
  replace hea : ∀ k, k < 69 ∨ 129 ≤ k → ad44 k = ad k := fun k hk => (ea k (by omega)).trans (hea k hk)
  rw [← ea 68 (by decide)] at hl
  clear ea
  refine lv_aload_n S.1 S.2.1 dX11_init_361 rfl (lv_at hl 0 rfl) ?_
  refine lv_sipush (v := i32 144) S.1 S.2.1 dX11_init_362 (by decide) ?_
  refine ProwF (n := 113) (k1 := 68) (j0 := 59) (a := 69) (t := 2) (len := 144) (i := 2) (N2 := 144) (index := 144) (C := RX11) (T := TX11) (N := 80) (ty := .array .boolean) S hw hA zd_113 (Zz_1 hz0 (by decide)) (Zz_2 hz0) (Zz_3 hz0) ac_2 rfl (fun _ => rfl) (fun _ _ h => h) (fun _ => rfl) (by decide) (by decide) (by decide) ⟨by decide, by decide⟩ (by decide) (by decide) (by decide +kernel) zd_68 rfl zc_X11 iX11 tyX11 tyX11_ok nmX11 (by decide) (Ztb 1189 (by decide +kernel) rfl) rfl hin0 rfl (by decide +kernel) (fun _ => rfl) (fun _ => rfl) dX11_init_365 dX11_init_367 (fun q H locs hw => ?_)
  replace hz0 := Zz_up hz0 (Nat.le_succ _)
  obtain ⟨ad45, hw, ea⟩ : ∃ a : Nat → Nat, PW D cA a A (Zc z) (gto g 69 114) 114 s H locs ∧ ∀ k, k ≠ 113 → a k = ad44 k := ⟨_, hw, fun k hk => if_neg hk⟩
  replace hea : ∀ k, k < 69 ∨ 129 ≤ k → ad45 k = ad k := fun k hk => (ea k (by omega)).trans (hea k hk)
  rw [← ea 68 (by decide)] at hl
  clear ea
  refine lv_aload_n S.1 S.2.1 dX11_init_370 rfl (lv_at hl 0 rfl) ?_
  refine lv_sipush (v := i32 144) S.1 S.2.1 dX11_init_371 (by decide) ?_
  refine ProwF (n := 114) (k1 := 68) (j0 := 60) (a := 69) (t := 2) (len := 144) (i := 2) (N2 := 144) (index := 147) (C := RX11) (T := TX11) (N := 80) (ty := .array .boolean) S hw hA zd_114 (Zz_1 hz0 (by decide)) (Zz_2 hz0) (Zz_3 hz0) ac_2 rfl (fun _ => rfl) (fun _ _ h => h) (fun _ => rfl) (by decide) (by decide) (by decide) ⟨by decide, by decide⟩ (by decide) (by decide) (by decide +kernel) zd_68 rfl zc_X11 iX11 tyX11 tyX11_ok nmX11 (by decide) (Ztb 1190 (by decide +kernel) rfl) rfl hin0 rfl (by decide +kernel) (fun _ => rfl) (fun _ => rfl) dX11_init_374 dX11_init_376 (fun q H locs hw => ?_)
  replace hz0 := Zz_up hz0 (Nat.le_succ _)
  obtain ⟨ad46, hw, ea⟩ : ∃ a : Nat → Nat, PW D cA a A (Zc z) (gto g 69 115) 115 s H locs ∧ ∀ k, k ≠ 114 → a k = ad45 k := ⟨_, hw, fun k hk => if_neg hk⟩
  replace hea : ∀ k, k < 69 ∨ 129 ≤ k → ad46 k = ad k := fun k hk => (ea k (by omega)).trans (hea k hk)
  rw [← ea 68 (by decide)] at hl
  clear ea
  refine lv_aload_n S.1 S.2.1 dX11_init_379 rfl (lv_at hl 0 rfl) ?_
  refine lv_sipush (v := i32 144) S.1 S.2.1 dX11_init_380 (by decide) ?_
  refine ProwF (n := 115) (k1 := 68) (j0 := 63) (a := 69) (t := 0) (len := 144) (i := 0) (N2 := 144) (index := 150) (C := RX11) (T := TX11) (N := 80) (ty := .array .int) S hw hA zd_115 (Zz_1 hz0 (by decide)) (Zz_2 hz0) (Zz_3 hz0) ac_0 rfl (fun _ => rfl) (fun _ _ h => h) (fun _ => rfl) (by decide) (by decide) (by decide) ⟨by decide, by decide⟩ (by decide) (by decide) (by decide +kernel) zd_68 rfl zc_X11 iX11 tyX11 tyX11_ok nmX11 (by decide) (Ztb 1193 (by decide +kernel) rfl) rfl hin0 rfl (by decide +kernel) (fun _ => rfl) (fun _ => rfl) dX11_init_383 dX11_init_385 (fun q H locs hw => ?_)
  replace hz0 := Zz_up hz0 (Nat.le_succ _)
  obtain ⟨ad47, hw, ea⟩ : ∃ a : Nat → Nat, PW D cA a A (Zc z) (gto g 69 116) 116 s H locs ∧ ∀ k, k ≠ 115 → a k = ad46 k := ⟨_, hw, fun k hk => if_neg hk⟩
  replace hea : ∀ k, k < 69 ∨ 129 ≤ k → ad47 k = ad k := fun k hk => (ea k (by omega)).trans (hea k hk)
  rw [← ea 68 (by decide)] at hl
  clear ea
  refine lv_aload_n S.1 S.2.1 dX11_init_388 rfl (lv_at hl 0 rfl) ?_
  refine lv_bipush (v := i32 8) S.1 S.2.1 dX11_init_389 (by decide) ?_
  refine ProwF (n := 116) (k1 := 68) (j0 := 64) (a := 69) (t := 0) (len := 8) (i := 0) (N2 := 8) (index := 153) (C := RX11) (T := TX11) (N := 80) (ty := .array .int) S hw hA zd_116 (Zz_1 hz0 (by decide)) (Zz_2 hz0) (Zz_3 hz0) ac_0 rfl (fun _ => rfl) (fun _ _ h => h) (fun _ => rfl) (by decide) (by decide) (by decide) ⟨by decide, by decide⟩ (by decide) (by decide) (by decide +kernel) zd_68 rfl zc_X11 iX11 tyX11 tyX11_ok nmX11 (by decide) (Ztb 1194 (by decide +kernel) rfl) rfl hin0 rfl (by decide +kernel) (fun _ => rfl) (fun _ => rfl) dX11_init_391 dX11_init_393 (fun q H locs hw => ?_)
  replace hz0 := Zz_up hz0 (Nat.le_succ _)
  obtain ⟨ad48, hw, ea⟩ : ∃ a : Nat → Nat, PW D cA a A (Zc z) (gto g 69 117) 117 s H locs ∧ ∀ k, k ≠ 116 → a k = ad47 k := ⟨_, hw, fun k hk => if_neg hk⟩
  replace hea : ∀ k, k < 69 ∨ 129 ≤ k → ad48 k = ad k := fun k hk => (ea k (by omega)).trans (hea k hk)
  rw [← ea 68 (by decide)] at hl
  clear ea
  refine lv_aload_n S.1 S.2.1 dX11_init_396 rfl (lv_at hl 0 rfl) ?_
  refine lv_bipush (v := i32 30) S.1 S.2.1 dX11_init_397 (by decide) ?_
  refine ProwF (n := 117) (k1 := 68) (j0 := 65) (a := 69) (t := 0) (len := 30) (i := 0) (N2 := 30) (index := 156) (C := RX11) (T := TX11) (N := 80) (ty := .array .int) S hw hA zd_117 (Zz_1 hz0 (by decide)) (Zz_2 hz0) (Zz_3 hz0) ac_0 rfl (fun _ => rfl) (fun _ _ h => h) (fun _ => rfl) (by decide) (by decide) (by decide) ⟨by decide, by decide⟩ (by decide) (by decide) (by decide +kernel) zd_68 rfl zc_X11 iX11 tyX11 tyX11_ok nmX11 (by decide) (Ztb 1195 (by decide +kernel) rfl) rfl hin0 rfl (by decide +kernel) (fun _ => rfl) (fun _ => rfl) dX11_init_399 dX11_init_401 (fun q H locs hw => ?_)
  replace hz0 := Zz_up hz0 (Nat.le_succ _)
  obtain ⟨ad49, hw, ea⟩ : ∃ a : Nat → Nat, PW D cA a A (Zc z) (gto g 69 118) 118 s H locs ∧ ∀ k, k ≠ 117 → a k = ad48 k := ⟨_, hw, fun k hk => if_neg hk⟩
  replace hea : ∀ k, k < 69 ∨ 129 ≤ k → ad49 k = ad k := fun k hk => (ea k (by omega)).trans (hea k hk)
  rw [← ea 68 (by decide)] at hl
  clear ea
  refine lv_aload_n S.1 S.2.1 dX11_init_404 rfl (lv_at hl 0 rfl) ?_
  refine lv_sipush (v := i32 144) S.1 S.2.1 dX11_init_405 (by decide) ?_
  refine ProwF (n := 118) (k1 := 68) (j0 := 66) (a := 69) (t := 0) (len := 144) (i := 0) (N2 := 144) (index := 159) (C := RX11) (T := TX11) (N := 80) (ty := .array .int) S hw hA zd_118 (Zz_1 hz0 (by decide)) (Zz_2 hz0) (Zz_3 hz0) ac_0 rfl (fun _ => rfl) (fun _ _ h => h) (fun _ => rfl) (by decide) (by decide) (by decide) ⟨by decide, by decide⟩ (by decide) (by decide) (by decide +kernel) zd_68 rfl zc_X11 iX11 tyX11 tyX11_ok nmX11 (by decide) (Ztb 1196 (by decide +kernel) rfl) rfl hin0 rfl (by decide +kernel) (fun _ => rfl) (fun _ => rfl) dX11_init_408 dX11_init_410 (fun q H locs hw => ?_)
  replace hz0 := Zz_up hz0 (Nat.le_succ _)
  obtain ⟨ad50, hw, ea⟩ : ∃ a : Nat → Nat, PW D cA a A (Zc z) (gto g 69 119) 119 s H locs ∧ ∀ k, k ≠ 118 → a k = ad49 k := ⟨_, hw, fun k hk => if_neg hk⟩
  replace hea : ∀ k, k < 69 ∨ 129 ≤ k → ad50 k = ad k := fun k hk => (ea k (by omega)).trans (hea k hk)
  rw [← ea 68 (by decide)] at hl
  clear ea
  refine lv_aload_n S.1 S.2.1 dX11_init_413 rfl (lv_at hl 0 rfl) ?_
  refine lv_bipush (v := i32 30) S.1 S.2.1 dX11_init_414 (by decide) ?_
  refine ProwF (n := 119) (k1 := 68) (j0 := 67) (a := 69) (t := 0) (len := 30) (i := 0) (N2 := 30) (index := 162) (C := RX11) (T := TX11) (N := 80) (ty := .array .int) S hw hA zd_119 (Zz_1 hz0 (by decide)) (Zz_2 hz0) (Zz_3 hz0) ac_0 rfl (fun _ => rfl) (fun _ _ h => h) (fun _ => rfl) (by decide) (by decide) (by decide) ⟨by decide, by decide⟩ (by decide) (by decide) (by decide +kernel) zd_68 rfl zc_X11 iX11 tyX11 tyX11_ok nmX11 (by decide) (Ztb 1197 (by decide +kernel) rfl) rfl hin0 rfl (by decide +kernel) (fun _ => rfl) (fun _ => rfl) dX11_init_416 dX11_init_418 (fun q H locs hw => ?_)
  replace hz0 := Zz_up hz0 (Nat.le_succ _)
  obtain ⟨ad51, hw, ea⟩ : ∃ a : Nat → Nat, PW D cA a A (Zc z) (gto g 69 120) 120 s H locs ∧ ∀ k, k ≠ 119 → a k = ad50 k := ⟨_, hw, fun k hk => if_neg hk⟩
  replace hea : ∀ k, k < 69 ∨ 129 ≤ k → ad51 k = ad k := fun k hk => (ea k (by omega)).trans (hea k hk)
  rw [← ea 68 (by decide)] at hl
  clear ea
  refine lv_aload_n S.1 S.2.1 dX11_init_421 rfl (lv_at hl 0 rfl) ?_
  refine lv_bipush (v := i32 30) S.1 S.2.1 dX11_init_422 (by decide) ?_
  refine ProwF (n := 120) (k1 := 68) (j0 := 68) (a := 69) (t := 0) (len := 30) (i := 0) (N2 := 30) (index := 165) (C := RX11) (T := TX11) (N := 80) (ty := .array .int) S hw hA zd_120 (Zz_1 hz0 (by decide)) (Zz_2 hz0) (Zz_3 hz0) ac_0 rfl (fun _ => rfl) (fun _ _ h => h) (fun _ => rfl) (by decide) (by decide) (by decide) ⟨by decide, by decide⟩ (by decide) (by decide) (by decide +kernel) zd_68 rfl zc_X11 iX11 tyX11 tyX11_ok nmX11 (by decide) (Ztb 1198 (by decide +kernel) rfl) rfl hin0 rfl (by decide +kernel) (fun _ => rfl) (fun _ => rfl) dX11_init_424 dX11_init_426 (fun q H locs hw => ?_)
  replace hz0 := Zz_up hz0 (Nat.le_succ _)
  obtain ⟨ad52, hw, ea⟩ : ∃ a : Nat → Nat, PW D cA a A (Zc z) (gto g 69 121) 121 s H locs ∧ ∀ k, k ≠ 120 → a k = ad51 k := ⟨_, hw, fun k hk => if_neg hk⟩
  replace hea : ∀ k, k < 69 ∨ 129 ≤ k → ad52 k = ad k := fun k hk => (ea k (by omega)).trans (hea k hk)
  rw [← ea 68 (by decide)] at hl
  clear ea
  refine lv_aload_n S.1 S.2.1 dX11_init_429 rfl (lv_at hl 0 rfl) ?_
  refine lv_bipush (v := i32 30) S.1 S.2.1 dX11_init_430 (by decide) ?_
  refine ProwF (n := 121) (k1 := 68) (j0 := 69) (a := 69) (t := 2) (len := 30) (i := 2) (N2 := 30) (index := 168) (C := RX11) (T := TX11) (N := 80) (ty := .array .boolean) S hw hA zd_121 (Zz_1 hz0 (by decide)) (Zz_2 hz0) (Zz_3 hz0) ac_2 rfl (fun _ => rfl) (fun _ _ h => h) (fun _ => rfl) (by decide) (by decide) (by decide) ⟨by decide, by decide⟩ (by decide) (by decide) (by decide +kernel) zd_68 rfl zc_X11 iX11 tyX11 tyX11_ok nmX11 (by decide) (Ztb 1199 (by decide +kernel) rfl) rfl hin0 rfl (by decide +kernel) (fun _ => rfl) (fun _ => rfl) dX11_init_432 dX11_init_434 (fun q H locs hw => ?_)
  replace hz0 := Zz_up hz0 (Nat.le_succ _)
  obtain ⟨ad53, hw, ea⟩ : ∃ a : Nat → Nat, PW D cA a A (Zc z) (gto g 69 122) 122 s H locs ∧ ∀ k, k ≠ 121 → a k = ad52 k := ⟨_, hw, fun k hk => if_neg hk⟩
  replace hea : ∀ k, k < 69 ∨ 129 ≤ k → ad53 k = ad k := fun k hk => (ea k (by omega)).trans (hea k hk)
  rw [← ea 68 (by decide)] at hl
  clear ea
  refine lv_aload_n S.1 S.2.1 dX11_init_437 rfl (lv_at hl 0 rfl) ?_
  refine lv_bipush (v := i32 60) S.1 S.2.1 dX11_init_438 (by decide) ?_
  refine ProwF (n := 122) (k1 := 68) (j0 := 71) (a := 69) (t := 0) (len := 60) (i := 0) (N2 := 60) (index := 171) (C := RX11) (T := TX11) (N := 80) (ty := .array .int) S hw hA zd_122 (Zz_1 hz0 (by decide)) (Zz_2 hz0) (Zz_3 hz0) ac_0 rfl (fun _ => rfl) (fun _ _ h => h) (fun _ => rfl) (by decide) (by decide) (by decide) ⟨by decide, by decide⟩ (by decide) (by decide) (by decide +kernel) zd_68 rfl zc_X11 iX11 tyX11 tyX11_ok nmX11 (by decide) (Ztb 1201 (by decide +kernel) rfl) rfl hin0 rfl (by decide +kernel) (fun _ => rfl) (fun _ => rfl) dX11_init_440 dX11_init_442 (fun q H locs hw => ?_)
  replace hz0 := Zz_up hz0 (Nat.le_succ _)
  obtain ⟨ad54, hw, ea⟩ : ∃ a : Nat → Nat, PW D cA a A (Zc z) (gto g 69 123) 123 s H locs ∧ ∀ k, k ≠ 122 → a k = ad53 k := ⟨_, hw, fun k hk => if_neg hk⟩
  replace hea : ∀ k, k < 69 ∨ 129 ≤ k → ad54 k = ad k := fun k hk => (ea k (by omega)).trans (hea k hk)
  rw [← ea 68 (by decide)] at hl
  clear ea
  refine lv_aload_n S.1 S.2.1 dX11_init_445 rfl (lv_at hl 0 rfl) ?_
  refine lv_bipush (v := i32 60) S.1 S.2.1 dX11_init_446 (by decide) ?_
  refine ProwF (n := 123) (k1 := 68) (j0 := 72) (a := 69) (t := 0) (len := 60) (i := 0) (N2 := 60) (index := 174) (C := RX11) (T := TX11) (N := 80) (ty := .array .int) S hw hA zd_123 (Zz_1 hz0 (by decide)) (Zz_2 hz0) (Zz_3 hz0) ac_0 rfl (fun _ => rfl) (fun _ _ h => h) (fun _ => rfl) (by decide) (by decide) (by decide) ⟨by decide, by decide⟩ (by decide) (by decide) (by decide +kernel) zd_68 rfl zc_X11 iX11 tyX11 tyX11_ok nmX11 (by decide) (Ztb 1202 (by decide +kernel) rfl) rfl hin0 rfl (by decide +kernel) (fun _ => rfl) (fun _ => rfl) dX11_init_448 dX11_init_450 (fun q H locs hw => ?_)
  replace hz0 := Zz_up hz0 (Nat.le_succ _)
  obtain ⟨ad55, hw, ea⟩ : ∃ a : Nat → Nat, PW D cA a A (Zc z) (gto g 69 124) 124 s H locs ∧ ∀ k, k ≠ 123 → a k = ad54 k := ⟨_, hw, fun k hk => if_neg hk⟩
  replace hea : ∀ k, k < 69 ∨ 129 ≤ k → ad55 k = ad k := fun k hk => (ea k (by omega)).trans (hea k hk)
  rw [← ea 68 (by decide)] at hl
  clear ea
  refine lv_aload_n S.1 S.2.1 dX11_init_453 rfl (lv_at hl 0 rfl) ?_
  refine lv_bipush (v := i32 60) S.1 S.2.1 dX11_init_454 (by decide) ?_
  refine ProwF (n := 124) (k1 := 68) (j0 := 73) (a := 69) (t := 0) (len := 60) (i := 0) (N2 := 60) (index := 177) (C := RX11) (T := TX11) (N := 80) (ty := .array .int) S hw hA zd_124 (Zz_1 hz0 (by decide)) (Zz_2 hz0) (Zz_3 hz0) ac_0 rfl (fun _ => rfl) (fun _ _ h => h) (fun _ => rfl) (by decide) (by decide) (by decide) ⟨by decide, by decide⟩ (by decide) (by decide) (by decide +kernel) zd_68 rfl zc_X11 iX11 tyX11 tyX11_ok nmX11 (by decide) (Ztb 1203 (by decide +kernel) rfl) rfl hin0 rfl (by decide +kernel) (fun _ => rfl) (fun _ => rfl) dX11_init_456 dX11_init_458 (fun q H locs hw => ?_)
  replace hz0 := Zz_up hz0 (Nat.le_succ _)
  obtain ⟨ad56, hw, ea⟩ : ∃ a : Nat → Nat, PW D cA a A (Zc z) (gto g 69 125) 125 s H locs ∧ ∀ k, k ≠ 124 → a k = ad55 k := ⟨_, hw, fun k hk => if_neg hk⟩
  replace hea : ∀ k, k < 69 ∨ 129 ≤ k → ad56 k = ad k := fun k hk => (ea k (by omega)).trans (hea k hk)
  rw [← ea 68 (by decide)] at hl
  clear ea
  refine lv_aload_n S.1 S.2.1 dX11_init_461 rfl (lv_at hl 0 rfl) ?_
  refine lv_bipush (v := i32 40) S.1 S.2.1 dX11_init_462 (by decide) ?_
  refine ProwF (n := 125) (k1 := 68) (j0 := 74) (a := 69) (t := 0) (len := 40) (i := 0) (N2 := 40) (index := 180) (C := RX11) (T := TX11) (N := 80) (ty := .array .int) S hw hA zd_125 (Zz_1 hz0 (by decide)) (Zz_2 hz0) (Zz_3 hz0) ac_0 rfl (fun _ => rfl) (fun _ _ h => h) (fun _ => rfl) (by decide) (by decide) (by decide) ⟨by decide, by decide⟩ (by decide) (by decide) (by decide +kernel) zd_68 rfl zc_X11 iX11 tyX11 tyX11_ok nmX11 (by decide) (Ztb 1204 (by decide +kernel) rfl) rfl hin0 rfl (by decide +kernel) (fun _ => rfl) (fun _ => rfl) dX11_init_464 dX11_init_466 (fun q H locs hw => ?_)
  replace hz0 := Zz_up hz0 (Nat.le_succ _)
  obtain ⟨ad57, hw, ea⟩ : ∃ a : Nat → Nat, PW D cA a A (Zc z) (gto g 69 126) 126 s H locs ∧ ∀ k, k ≠ 125 → a k = ad56 k := ⟨_, hw, fun k hk => if_neg hk⟩
  replace hea : ∀ k, k < 69 ∨ 129 ≤ k → ad57 k = ad k := fun k hk => (ea k (by omega)).trans (hea k hk)
  rw [← ea 68 (by decide)] at hl
  clear ea
  refine lv_aload_n S.1 S.2.1 dX11_init_469 rfl (lv_at hl 0 rfl) ?_
  refine lv_bipush (v := i32 40) S.1 S.2.1 dX11_init_470 (by decide) ?_
  refine ProwF (n := 126) (k1 := 68) (j0 := 75) (a := 69) (t := 0) (len := 40) (i := 0) (N2 := 40) (index := 183) (C := RX11) (T := TX11) (N := 80) (ty := .array .int) S hw hA zd_126 (Zz_1 hz0 (by decide)) (Zz_2 hz0) (Zz_3 hz0) ac_0 rfl (fun _ => rfl) (fun _ _ h => h) (fun _ => rfl) (by decide) (by decide) (by decide) ⟨by decide, by decide⟩ (by decide) (by decide) (by decide +kernel) zd_68 rfl zc_X11 iX11 tyX11 tyX11_ok nmX11 (by decide) (Ztb 1205 (by decide +kernel) rfl) rfl hin0 rfl (by decide +kernel) (fun _ => rfl) (fun _ => rfl) dX11_init_472 dX11_init_474 (fun q H locs hw => ?_)
  replace hz0 := Zz_up hz0 (Nat.le_succ _)
  obtain ⟨ad58, hw, ea⟩ : ∃ a : Nat → Nat, PW D cA a A (Zc z) (gto g 69 127) 127 s H locs ∧ ∀ k, k ≠ 126 → a k = ad57 k := ⟨_, hw, fun k hk => if_neg hk⟩
  replace hea : ∀ k, k < 69 ∨ 129 ≤ k → ad58 k = ad k := fun k hk => (ea k (by omega)).trans (hea k hk)
  rw [← ea 68 (by decide)] at hl
  clear ea
  refine lv_aload_n S.1 S.2.1 dX11_init_477 rfl (lv_at hl 0 rfl) ?_
  refine lv_bipush (v := i32 40) S.1 S.2.1 dX11_init_478 (by decide) ?_
  refine ProwF (n := 127) (k1 := 68) (j0 := 76) (a := 69) (t := 0) (len := 40) (i := 0) (N2 := 40) (index := 186) (C := RX11) (T := TX11) (N := 80) (ty := .array .int) S hw hA zd_127 (Zz_1 hz0 (by decide)) (Zz_2 hz0) (Zz_3 hz0) ac_0 rfl (fun _ => rfl) (fun _ _ h => h) (fun _ => rfl) (by decide) (by decide) (by decide) ⟨by decide, by decide⟩ (by decide) (by decide) (by decide +kernel) zd_68 rfl zc_X11 iX11 tyX11 tyX11_ok nmX11 (by decide) (Ztb 1206 (by decide +kernel) rfl) rfl hin0 rfl (by decide +kernel) (fun _ => rfl) (fun _ => rfl) dX11_init_480 dX11_init_482 (fun q H locs hw => ?_)
  replace hz0 := Zz_up hz0 (Nat.le_succ _)
  obtain ⟨ad59, hw, ea⟩ : ∃ a : Nat → Nat, PW D cA a A (Zc z) (gto g 69 128) 128 s H locs ∧ ∀ k, k ≠ 127 → a k = ad58 k := ⟨_, hw, fun k hk => if_neg hk⟩
  replace hea : ∀ k, k < 69 ∨ 129 ≤ k → ad59 k = ad k := fun k hk => (ea k (by omega)).trans (hea k hk)
  rw [← ea 68 (by decide)] at hl
  clear ea
  refine lv_aload_n S.1 S.2.1 dX11_init_485 rfl (lv_at hl 0 rfl) ?_
  refine lv_bipush (v := i32 40) S.1 S.2.1 dX11_init_486 (by decide) ?_
  refine ProwF (n := 128) (k1 := 68) (j0 := 77) (a := 69) (t := 0) (len := 40) (i := 0) (N2 := 40) (index := 189) (C := RX11) (T := TX11) (N := 80) (ty := .array .int) S hw hA zd_128 (Zz_1 hz0 (by decide)) (Zz_2 hz0) (Zz_3 hz0) ac_0 rfl (fun _ => rfl) (fun _ _ h => h) (fun _ => rfl) (by decide) (by decide) (by decide) ⟨by decide, by decide⟩ (by decide) (by decide) (by decide +kernel) zd_68 rfl zc_X11 iX11 tyX11 tyX11_ok nmX11 (by decide) (Ztb 1207 (by decide +kernel) rfl) rfl hin0 rfl (by decide +kernel) (fun _ => rfl) (fun _ => rfl) dX11_init_488 dX11_init_490 (fun q H locs hw => ?_)
  replace hz0 := Zz_up hz0 (Nat.le_succ _)
  obtain ⟨ad60, hw, ea⟩ : ∃ a : Nat → Nat, PW D cA a A (Zc z) (gto g 69 129) 129 s H locs ∧ ∀ k, k ≠ 128 → a k = ad59 k := ⟨_, hw, fun k hk => if_neg hk⟩
  replace hea : ∀ k, k < 69 ∨ 129 ≤ k → ad60 k = ad k := fun k hk => (ea k (by omega)).trans (hea k hk)
  rw [← ea 68 (by decide)] at hl
  clear ea
  refine lv_iconst (v := i32 0) S.1 S.2.1 dX11_init_493 (by decide) ?_
  refine lv_istore_n (lv' := [(1, .int (i32 0)), (0, .ref (ad60 68))]) S.1 S.2.1 dX11_init_494 rfl hl (by decide) rfl (fun ls hl => ?_)
  refine wl_h (g := gto g 69 129) S hw.1 (gto_t (by decide)) (z := z) 144 0 H locs ls (Int.le_refl 0) (by omega) (by rw [Zfi_0]; exact hw) hl (fun H locs ls hw hl => ?_)
  refine lv_iconst (v := i32 0) S.1 S.2.1 dX11_init_516 (by decide) ?_
  refine lv_istore_n (lv' := [(1, .int (i32 0)), (0, .ref (ad60 68))]) S.1 S.2.1 dX11_init_517 rfl hl (by decide) rfl (fun ls hl => ?_)
  refine wl_b (g := gto g 69 129) S hw.1 (gto_t (by decide)) (z := (Zfi z 70 144 50)) 4 0 H locs ls (Int.le_refl 0) (by omega) (by rw [Zfi_0]; exact hw) hl (fun H locs ls hw hl => ?_)
  exact W.vret S.1 S.2.1 hr (fun t ht hW => ⟨⟨ad60, rfl, hea, by rw [ht]; exact hw.2.1, hw.2.2.1⟩, hw.2.2.2.1.F ht⟩) hw.2.2.2.1.2.2 dX11_init_537 hlk
