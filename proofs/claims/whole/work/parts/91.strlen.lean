/-! String.length of the letters, with no world -/
section STRLEN
variable {p : Program} {l : Launch} {e : Env} {R : Room} {s : State} {m : MethodId} {args : Array Value} {below : List Frame} {meth : Method} {c : Code}
variable {D : va_G} {cA : Nat → ClassId} {ad : Nat → Nat} {A : Nat → Prop}
abbrev ZPe (D : va_G) (cA : Nat → ClassId) (ad : Nat → Nat) (A : Nat → Prop) (avs : List Value) : Array Value → State → Prop := va_Pc avs (fun U => ZE D cA ad A U)
abbrev ZQe (r : Int) : Array Value → State → Outcome → State → Prop := va_Qi (fun (r' : Int32) (_ : Unit) => r' = i32 r) (fun _ _ => True) (fun _ => False)
theorem ZPe_blind {avs : List Value} : FrameBlind (ZPe D cA ad A avs) := by
  intro a U gg mk q
  obtain ⟨q0, qK, qT⟩ := q
  exact ⟨q0, va_K.moved (u := U) (U := U.calling gg mk a) (Vm.Alike.refl U.vm) qK, ZT.call (U := U) (V := U.calling gg mk a) qT rfl rfl⟩
theorem ZPe_down {avs : List Value} {H : Heap} {locs : List Loc} (hE : ZE D cA ad A s) (hS : va_S A s.heap H locs) : ∀ U : State, U.heap = H → s.WarmedH U.vm → ZPe D cA ad A avs avs.toArray U := by
  intro U hU hW
  exact ⟨rfl, va_K.moved hW.alike hE.1, ZT.down hE.2 hW hU hS (fun q h => h)⟩
set_option maxRecDepth 100000 in
set_option maxHeartbeats 4000000 in
theorem c_coderP : Met l yJ0_coder_7d493 (ZV yJ0_coder_7d493 cJ0_coder_7d493 1 (some .byte)) (Zrm 0) (ZPe D cA ad A [.ref (ad 301)]) (ZQe 0) 0 0 (fun _ => False) := by
  refine Met.ofW (cc := cJ0_coder_7d493) (maxL := 1) (ret := some .byte) (by decide) rfl ?_
  intro p e s m args below meth c s₁ B hml hv2
  obtain ⟨rfl, hE⟩ := hv2
  have hts := atoms_spec (ws := ZV yJ0_coder_7d493 cJ0_coder_7d493 1 (some .byte)) B.pre
  have hown : s.vm.findClass yJ0_coder_7d493.cls = some m.cls := findClass_of_methodNamed B.named
  have hl := lv_entry [Value.ref (ad 301)] (n := 1) (Nat.le_of_ble_eq_true rfl)
  rw [lg_entry_eq]
  generalize (lg_sl [Value.ref (ad 301)] ++ List.replicate (1 - (lg_sl [Value.ref (ad 301)]).length) Slot.unset).toArray = ls at hl ⊢
  have hl : lv_has ls 1 [(0, .ref (ad 301))] := hl
  have S : CallFix p m c cJ0_coder_7d493 1 s [Value.ref (ad 301)].toArray Ztbl RJ0 := ⟨B.exec, B.bytes, hml, hown, fun w hw => hts w (List.mem_cons_of_mem _ hw)⟩
  have hr := B.returns
  have hlk := B.notSynchronized
  have hS : va_S A s.heap s.heap [] := va_S.rf
  show W p l e (Zrm 0) s m _ below meth c s.heap [] 0 0 _ _
  refine va_gets S.1 S.2.1 hE.2.2.2.2.1 hS S.2.2.2.1 (S.2.2.2.2 _ (Ztb 161 (by decide +kernel) rfl : Cond.fieldLink RJ0 38 "java/lang/String" "COMPACT_STRINGS" "Z" ∈ Ztbl)) (fun _ h9 => h9) dJ0_coder_7d493_0 ?_
  refine Yif_eq (tgt := 13) S r_1 dJ0_coder_7d493_3 (by decide) (fun c1_ => absurd c1_ (by decide)) (fun _ => ?_)
  refine lv_aload_n S.1 S.2.1 dJ0_coder_7d493_6 rfl (lv_at hl 0 rfl) ?_
  refine vk_getf S.1 S.2.1 (hE.2.2.2.2.2.2.1 0 (by decide)).2.1 hS S.2.2.2.1 (S.2.2.2.2 _ (Ztb 1741 (by decide +kernel) rfl : Cond.fieldLink RJ0 15 "java/lang/String" "coder" "B" ∈ Ztbl)) (fun _ h9 => h9) dJ0_coder_7d493_7 ?_
  refine lv_goto (tgt := 14) S.1 S.2.1 dJ0_coder_7d493_10 (by decide) ?_
  exact W.zret (v := i32 0) S.1 S.2.1 hr rfl (fun t ht hW => ⟨⟨i32 0, (), rfl, rfl, trivial⟩, by rw [ht]; exact Nat.le_refl _, fun q _ _ => by rw [ht]⟩) (fun q hq => by cases hq) dJ0_coder_7d493_14 hlk
set_option maxRecDepth 100000 in
set_option maxHeartbeats 4000000 in
theorem c_lengthP : Met l yJ0_length_8abf5 (ZV yJ0_length_8abf5 cJ0_length_8abf5 1 (some .int)) (Zrm 1) (ZPe D cA ad A [.ref (ad 301)]) (ZQe 8) 0 0 (fun _ => False) := by
  refine Met.ofW (cc := cJ0_length_8abf5) (maxL := 1) (ret := some .int) (by decide) rfl ?_
  intro p e s m args below meth c s₁ B hml hv2
  obtain ⟨rfl, hE⟩ := hv2
  have hts := atoms_spec (ws := ZV yJ0_length_8abf5 cJ0_length_8abf5 1 (some .int)) B.pre
  have hown : s.vm.findClass yJ0_length_8abf5.cls = some m.cls := findClass_of_methodNamed B.named
  have hl := lv_entry [Value.ref (ad 301)] (n := 1) (Nat.le_of_ble_eq_true rfl)
  rw [lg_entry_eq]
  generalize (lg_sl [Value.ref (ad 301)] ++ List.replicate (1 - (lg_sl [Value.ref (ad 301)]).length) Slot.unset).toArray = ls at hl ⊢
  have hl : lv_has ls 1 [(0, .ref (ad 301))] := hl
  have S : CallFix p m c cJ0_length_8abf5 1 s [Value.ref (ad 301)].toArray Ztbl RJ0 := ⟨B.exec, B.bytes, hml, hown, fun w hw => hts w (List.mem_cons_of_mem _ hw)⟩
  have hr := B.returns
  have hlk := B.notSynchronized
  have hS : va_S A s.heap s.heap [] := va_S.rf
  show W p l e (Zrm 1) s m _ below meth c s.heap [] 0 0 _ _
  refine lv_aload_n S.1 S.2.1 dJ0_length_8abf5_0 rfl (lv_at hl 0 rfl) ?_
  refine vk_getf S.1 S.2.1 (hE.2.2.2.2.2.2.1 0 (by decide)).2.2.1 hS S.2.2.2.1 (S.2.2.2.2 _ (Ztb 1740 (by decide +kernel) rfl : Cond.fieldLink RJ0 9 "java/lang/String" "value" "[B" ∈ Ztbl)) (fun _ h9 => h9) dJ0_length_8abf5_1 ?_
  refine va_tlen S.1 S.2.1 (hE.2.2.2.2.2.2.1 0 (by decide)).2.2.2 hS (v := i32 8) rfl dJ0_length_8abf5_4 ?_
  refine lv_aload_n S.1 S.2.1 dJ0_length_8abf5_5 rfl (lv_at hl 0 rfl) ?_
  have cb := Zcb (R := Zrm 1) S my_J0_coder_7d493 ml_J0_335 (h := 0) ⟨by decide, by decide⟩
  refine va_calli (va_runV (C := yJ0_coder_7d493.cls) (As := []) (rest := [.int (i32 8)]) S (c_coderP (l := l) (D := D) (cA := cA) (ad := ad) (A := A)) ⟨cb, S.2.2.2.2 _ mi_J0_coder_7d493.1, S.2.2.2.2 _ mi_J0_coder_7d493.2⟩ ⟨ZPe_blind, vk_recv (i := 0) hE.2.2.2.2.2.2 (by decide) hS, ZPe_down hE hS⟩ rfl rfl hl.1 rfl (lv_room (Nat.le_of_ble_eq_true rfl)) dJ0_length_8abf5_6 ⟨Nat.zero_le _, Nat.zero_le _⟩) (A0 := fun _ => False) va_S.rf (fun q _ h => h) (fun q h => h) (fun r' u t H1 locs1 ht hvm hp hB hsz hk hS1 => ?_)
  subst hp
  refine Yishr S dJ0_length_8abf5_9 ?_
  exact W.iret (v := i32 8) S.1 S.2.1 hr (fun t ht hW => ⟨⟨i32 8, (), rfl, rfl, trivial⟩, by rw [ht]; exact hsz, fun q hq _ => by rw [ht]; exact hk q hq (fun h => h)⟩) hS1.2.2 dJ0_length_8abf5_10 hlk
end STRLEN
