/-! the start: what the tables give -/
theorem Zts {args : Array Value} {s : State} (hts : ∀ w ∈ lw_tbl, w.before args s = true) : ∀ w ∈ Ztbl, w.before args s = true := fun w hw => hts w (List.mem_filter.mp hw).1
theorem st_classes {args : Array Value} {s : State} (hts : ∀ w ∈ Ztbl, w.before args s = true) : ∃ D : va_G, ∀ (k : Nat) (q : vw_C), ZCL[k]? = some q → u_Kn s q.1 q.2.1 q.2.2 (D.1 k) (D.2 k) := by
  have h : ∀ k : Nat, ∃ x : ClassId × (Nat → Nat), ∀ q, ZCL[k]? = some q → u_Kn s q.1 q.2.1 q.2.2 x.1 x.2 := by
    intro k
    match k with
    | 0 =>
      obtain ⟨c, f, h⟩ := u_known (C := RX0) (T := TX0) (N := 4) (n := 4) hts iX0 (hts _ (Ztb 210 (by decide +kernel) rfl))
      exact ⟨(c, f), fun q hq => by cases hq; exact h⟩
    | 1 =>
      obtain ⟨c, f, h⟩ := u_known (C := RX1) (T := TX1) (N := 5) (n := 5) hts iX1 (hts _ (Ztb 354 (by decide +kernel) rfl))
      exact ⟨(c, f), fun q hq => by cases hq; exact h⟩
    | 2 =>
      obtain ⟨c, f, h⟩ := u_known (C := RX2) (T := TX2) (N := 5) (n := 5) hts iX2 (hts _ (Ztb 307 (by decide +kernel) rfl))
      exact ⟨(c, f), fun q hq => by cases hq; exact h⟩
    | 3 =>
      obtain ⟨c, f, h⟩ := u_known (C := RX3) (T := TX3) (N := 15) (n := 15) hts iX3 (hts _ (Ztb 79 (by decide +kernel) rfl))
      exact ⟨(c, f), fun q hq => by cases hq; exact h⟩
    | 4 =>
      obtain ⟨c, f, h⟩ := u_known (C := RX4) (T := TX4) (N := 11) (n := 11) hts iX4 (hts _ (Ztb 31 (by decide +kernel) rfl))
      exact ⟨(c, f), fun q hq => by cases hq; exact h⟩
    | 5 =>
      obtain ⟨c, f, h⟩ := u_known (C := RX5) (T := TX5) (N := 5) (n := 5) hts iX5 (hts _ (Ztb 331 (by decide +kernel) rfl))
      exact ⟨(c, f), fun q hq => by cases hq; exact h⟩
    | 6 =>
      obtain ⟨c, f, h⟩ := u_known (C := RX6) (T := TX6) (N := 5) (n := 5) hts iX6 (hts _ (Ztb 147 (by decide +kernel) rfl))
      exact ⟨(c, f), fun q hq => by cases hq; exact h⟩
    | 7 =>
      obtain ⟨c, f, h⟩ := u_known (C := RX7) (T := TX7) (N := 8) (n := 8) hts iX7 (hts _ (Ztb 141 (by decide +kernel) rfl))
      exact ⟨(c, f), fun q hq => by cases hq; exact h⟩
    | 8 =>
      obtain ⟨c, f, h⟩ := u_known (C := RX8) (T := TX8) (N := 4) (n := 4) hts iX8 (hts _ (Ztb 230 (by decide +kernel) rfl))
      exact ⟨(c, f), fun q hq => by cases hq; exact h⟩
    | 9 =>
      obtain ⟨c, f, h⟩ := u_known (C := RX9) (T := TX9) (N := 16) (n := 16) hts iX9 (hts _ (Ztb 250 (by decide +kernel) rfl))
      exact ⟨(c, f), fun q hq => by cases hq; exact h⟩
    | 10 =>
      obtain ⟨c, f, h⟩ := u_known (C := RX10) (T := TX10) (N := 11) (n := 11) hts iX10 (hts _ (Ztb 23 (by decide +kernel) rfl))
      exact ⟨(c, f), fun q hq => by cases hq; exact h⟩
    | 11 =>
      obtain ⟨c, f, h⟩ := u_known (C := RX11) (T := TX11) (N := 80) (n := 80) hts iX11 (hts _ (Ztb 1125 (by decide +kernel) rfl))
      exact ⟨(c, f), fun q hq => by cases hq; exact h⟩
    | k + 12 => exact ⟨(0, fun _ => 0), fun q hq => by simp at hq⟩
  obtain ⟨f, hf⟩ := Classical.axiomOfChoice h
  exact ⟨(fun k => (f k).1, fun k => (f k).2), fun k q hq => hf k q hq⟩
theorem st_arr {args : Array Value} {s : State} {ty : FieldType} (h : (Cond.arrayClass ty).before args s = true) (hp : ∀ c2 : ClassId, s.vm.findClass ("[" ++ ty.toString) = some c2 → va_RA s c2 ty) : ∃ c2 : ClassId, ArrOfT s c2 ty ∧ va_RA s c2 ty := by
  obtain ⟨c2, kA, comp, h1, h2, h3⟩ := Cond.arrayClass_spec h
  exact ⟨c2, fun n z => ⟨fun k h => (by cases h), kA, h2, comp, h3⟩, hp c2 h1⟩
theorem st_nest {args : Array Value} {s : State} (hts : ∀ w ∈ lw_tbl, w.before args s = true) : ∀ w ∈ Znl, va_Nw w s := by
  intro w hw
  have hm : w ∈ lw_tbl := List.mem_append_right _ (List.mem_filter.mp hw).1
  have hi := (List.mem_filter.mp hw).2
  refine va_Nw.of ?_ (hts w hm)
  cases w <;> first | rfl | cases hi
set_option maxHeartbeats 2000000 in
theorem st_ZE {b : Nat} {s : State} {A : Nat → Prop} (hts : ∀ w ∈ lw_tbl, w.before #[Value.ref b] s = true) (hgv : (Jvm.Cond.and given_1 narrow_1).before #[Value.ref b] s = true) (hA : ∀ a : Nat, a < s.heap.size → ¬ A a) : ∃ (D : va_G) (cA : Nat → ClassId) (ad : Nat → Nat), ZE D cA ad A s := by
  have ht := Zts hts
  have hs := flat_of_before _ hgv
  obtain ⟨D, hD⟩ := st_classes ht
  obtain ⟨c0, h0⟩ := st_arr (ht _ ac_0) (fun _ h => h)
  obtain ⟨c1, h1⟩ := st_arr (ht _ ac_1) (fun _ h => h)
  obtain ⟨c2, h2⟩ := st_arr (ht _ ac_2) (fun _ h => h)
  obtain ⟨c3, h3⟩ := st_arr (ht _ ac_3) (fun _ h => h)
  obtain ⟨t0, e0, hT0⟩ := va_Tof (args := #[Value.ref b]) (s := s) (tm := .static "CampCards$Land" "SIDES_BY_CELL" "[I") (ty := .int) (N := 4) (f := fun j => .int (Zsides j)) (A := A) (by decide) (hs _ (by decide +kernel)) (va_eqt (hs (.eq (.length (.static "CampCards$Land" "SIDES_BY_CELL" "[I")) (.int 4)) (by decide +kernel))) (fun j hj => by
    rcases (show j = 0 ∨ j = 1 ∨ j = 2 ∨ j = 3 by omega) with rfl | rfl | rfl | rfl
    · exact va_eqt (hs (.eq (.elem (.static "CampCards$Land" "SIDES_BY_CELL" "[I") (.int 0)) (.int 3)) (by decide +kernel))
    · exact va_eqt (hs (.eq (.elem (.static "CampCards$Land" "SIDES_BY_CELL" "[I") (.int 1)) (.int 2)) (by decide +kernel))
    · exact va_eqt (hs (.eq (.elem (.static "CampCards$Land" "SIDES_BY_CELL" "[I") (.int 2)) (.int 0)) (by decide +kernel))
    · exact va_eqt (hs (.eq (.elem (.static "CampCards$Land" "SIDES_BY_CELL" "[I") (.int 3)) (.int 1)) (by decide +kernel))) hA
  have hZ0 : va_Z "CampCards$Land" "SIDES_BY_CELL" "[I" (.ref t0) A s s.heap := va_Zof (args := #[Value.ref b]) (hts _ (List.mem_append_right _ (List.mem_of_getElem? (i := 441) rfl))) (ht _ (Ztb 2 (by decide +kernel) rfl)) e0 hA
  have hZ1 : va_Z "java/lang/String" "COMPACT_STRINGS" "Z" (.int 1) A s s.heap := va_Zof (args := #[Value.ref b]) (hts _ (List.mem_append_right _ (List.mem_of_getElem? (i := 162) rfl))) (ht _ (Ztb 7 (by decide +kernel) rfl)) (va_eqt (hs (.eq (.static "java/lang/String" "COMPACT_STRINGS" "Z") (.int 1)) (by decide +kernel))) hA
  obtain ⟨aK, aV, hSt, hEv⟩ := vk_Sof (args := #[Value.ref b]) (s := s) (N := 1) (tm := fun _ => .string "CampCards$Reader" 11) (len := [8]) (byt := [[110, 107, 111, 115, 100, 97, 116, 99]]) (A := A) (fun i hi => by
    obtain rfl : i = 0 := by omega
    decide) (fun i hi => hs _ (by decide +kernel)) (fun i hi => hs _ (by decide +kernel)) (fun i hi => hs _ (by decide +kernel)) (fun i hi => by
    obtain rfl : i = 0 := by omega
    exact hs _ (by decide +kernel)) (fun i hi j hj => by
    obtain rfl : i = 0 := by omega
    have hj : j < 8 := hj
    rcases (show j = 0 ∨ j = 1 ∨ j = 2 ∨ j = 3 ∨ j = 4 ∨ j = 5 ∨ j = 6 ∨ j = 7 by omega) with rfl | rfl | rfl | rfl | rfl | rfl | rfl | rfl <;> exact hs _ (by decide +kernel)) (fun i j hi hj h => absurd (show i = j by omega) h) hA
  have hR : vk_R "CampCards$Reader" 11 "nkosdatc" (aK 0) s := vk_R.of (A := #[Value.ref b]) (hts _ (List.mem_append_right _ (List.mem_of_getElem? (i := 152) rfl))) (hEv 0 (by decide))
  refine ⟨D, fun k => match k with
    | 0 => c0
    | 1 => c1
    | 2 => c2
    | _ => c3, fun k => if k = 300 then t0 else if k = 301 then aK 0 else if k = 302 then aV 0 else 0, ⟨hD, fun k q hq => ?_⟩, st_nest hts, hZ0, hT0, hZ1, hR, ?_⟩
  · match k with
    | 0 => cases hq; exact h0
    | 1 => cases hq; exact h1
    | 2 => cases hq; exact h2
    | 3 => cases hq; exact h3
    | k + 4 => simp [Ztys] at hq
  · refine ⟨fun i hi => ?_, fun i j hi hj _ => by omega⟩
    obtain rfl : i = 0 := by omega
    exact hSt.1 0 hi
