/-! best's first call: a row comes -/
def fk41 : List (Option Nat) := [none, some 42, some 43, some 44, some 45, none, some 46, some 47, some 48, some 49, some 50, some 51, some 52, some 53, none, none]
def adk (ad : Nat → Nat) (k0 q : Nat) : Nat → Nat := fun k => if k = k0 then q else ad k
def Znk (z : ZI) (k0 : Nat) : ZI := fun k i => if k = k0 then 0 else if k = 200 ∧ i = (k0 : Int) then 4096 else z k i
def chk (k0 : Nat) : Bool := (List.range 129).all (fun k => match ZDS[k]? with
  | some (.inl q) => k == 41 || !(q.2.contains (some k0))
  | _ => true)
theorem chk_52 : chk 52 = true := by decide +kernel
theorem chk_53 : chk 53 = true := by decide +kernel
theorem once_52 : ∀ j, j < 16 → fk41[j]? = some (some 52) → j = 12 := by decide +kernel
theorem once_53 : ∀ j, j < 16 → fk41[j]? = some (some 53) → j = 13 := by decide +kernel
theorem chk_no {k0 k ci : Nat} {fk : List (Option Nat)} (h : chk k0 = true) (hd : ZDS[k]? = some (.inl (ci, fk))) (hk : k ≠ 41) : some k0 ∉ fk := by
  have hlt := ZDS_lt hd
  have := List.all_eq_true.mp h k (List.mem_range.mpr hlt)
  rw [hd] at this
  simpa [hk] using this
theorem Zfv_ad {ad : Nat → Nat} {k0 q : Nat} {f : Nat → Int32} {fk : List (Option Nat)} (h : some k0 ∉ fk) : Zfv (adk ad k0 q) f fk = Zfv ad f fk := by
  apply List.ext_getElem?
  intro j
  simp only [Zfv, List.getElem?_mapIdx]
  cases hj : fk[j]? with
  | none => rfl
  | some o => cases o with
    | none => rfl
    | some k =>
      have hk : k ≠ k0 := fun e => h (e ▸ List.mem_of_getElem? hj)
      simp [adk, hk]
theorem Zfv_at {ad : Nat → Nat} {k0 q j0 : Nat} {f : Nat → Int32} (h : fk41[j0]? = some (some k0)) (h1 : ∀ j, j < 16 → fk41[j]? = some (some k0) → j = j0) : Zfv (adk ad k0 q) f fk41 = (Zfv ad f fk41).set j0 (.ref q) := by
  apply List.ext_getElem?
  intro j
  by_cases hj : j = j0
  · subst hj
    rw [List.getElem?_set_self (by rw [Zfv_len]; exact (List.getElem?_eq_some_iff.mp h).1), Zfv_ref h]
    simp [adk]
  · rw [List.getElem?_set_ne (Ne.symm hj)]
    simp only [Zfv, List.getElem?_mapIdx]
    cases ho : fk41[j]? with
    | none => rfl
    | some o => cases o with
      | none => rfl
      | some k =>
        have hk : k ≠ k0 := fun e => hj (h1 j (List.getElem?_eq_some_iff.mp ho).1 (e ▸ ho))
        simp [adk, hk]
theorem Znk_o {z : ZI} {k0 k : Nat} {j : Int} (hk : k ≠ k0) (h2 : ¬ (k = 200 ∧ j = (k0 : Int))) : Znk z k0 k j = z k j := by
  unfold Znk
  rw [if_neg hk, if_neg h2]
theorem Znk_k {z : ZI} {k0 : Nat} {j : Int} : Znk z k0 k0 j = 0 := by
  unfold Znk
  rw [if_pos rfl]
theorem Znk_n {z : ZI} {k0 : Nat} (hk : k0 < 129) : Znk z k0 200 k0 = 4096 := by
  unfold Znk
  rw [if_neg (by omega), if_pos ⟨rfl, rfl⟩]
theorem Znk_1 {z : ZI} {k0 k : Nat} (hk : k ≠ k0) (h2 : k < 200) : (Zc (Znk z k0)).1 k = (Zc z).1 k := by
  funext j
  rw [Zc1 (by omega), Zc1 (by omega), Znk_o hk (fun t => by omega)]
theorem Znk_2 {z : ZI} {k0 k : Nat} (hk : k0 < 129) : (Zc (Znk z k0)).2 k = (Zc z).2 k := by
  funext j
  show i64 (Znk z k0 (k + 1000) j) = i64 (z (k + 1000) j)
  rw [Znk_o (by omega) (fun t => by omega)]
theorem Znk_3 {z : ZI} {k0 k : Nat} (hk0 : k0 < 129) (hk : k ≠ k0) : (Zc (Znk z k0)).1 200 k = (Zc z).1 200 k := by
  rw [Zc1 (by omega), Zc1 (by omega), Znk_o (by omega) (fun t => by omega)]
theorem Znk_4 {z : ZI} {k0 : Nat} (hk0 : k0 < 129) : ((Zc (Znk z k0)).1 200 k0).toNatClampNeg = 4096 := by
  rw [Zc1 (by omega), Znk_n hk0]
  decide
theorem Znk_5 {z : ZI} {k0 : Nat} (hk0 : k0 < 129) : (Zc (Znk z k0)).1 k0 = fun _ => 0 := by
  funext j
  rw [Zc1 (by omega), Znk_k]
  rfl
theorem Zen_new {cA : Nat → ClassId} {ad : Nat → Nat} {z : ZI} {k0 q k : Nat} {d : ZD} (hk0 : k0 < 129) (hk : k ≠ k0) (h41 : k ≠ 41) (hd : ZDS[k]? = some d) (hc : chk k0 = true) : Zen cA (adk ad k0 q) (Zc (Znk z k0)) k d = Zen cA ad (Zc z) k d := by
  have hlt := ZDS_lt hd
  have e1 := Znk_1 (z := z) hk (by omega)
  have e2 := Znk_2 (z := z) (k := k) hk0
  have e3 := Znk_3 (z := z) hk0 hk
  have e4 : adk ad k0 q k = ad k := if_neg hk
  cases d with
  | inl c =>
    obtain ⟨ci, fk⟩ := c
    simp only [Zen, e1, e4, Zfv_ad (chk_no hc hd h41)]
  | inr c => simp only [Zen, e1, e2, e3, e4]
def newE (cA : Nat → ClassId) (q : Nat) : Nat × va_E := (q, .inl (cA 0, ((4096 : Nat), .inl fun _ => 0)))
theorem new_P {D : va_G} {cA : Nat → ClassId} {ad : Nat → Nat} {q : Nat} {z : ZI} {k0 j0 : Nat} {H1 : Heap} (hk0 : k0 < 129) (h41 : k0 ≠ 41) (hc : chk k0 = true) (hd : ZDS[k0]? = some (.inr (4, 0))) (hj : fk41[j0]? = some (some k0)) (h1 : ∀ j, j < 16 → fk41[j]? = some (some k0) → j = j0) (hP : va_P D ZCL ((Zws cA ad (Zc z) ++ [newE cA q]).set 41 (ad 41, .inr (9, (Zfv ad ((Zc z).1 41) fk41).set j0 (.ref q)))) H1) : va_P D ZCL (Zws cA (adk ad k0 q) (Zc (Znk z k0))) H1 := by
  intro k qd hk
  obtain ⟨d, e1, rfl⟩ := Zws_of hk
  have hlt := ZDS_lt e1
  have hlen : (Zws cA ad (Zc z)).length = 129 := by simp [Zws, ZDS_len]
  by_cases c1 : k = 41
  · subst c1
    rw [zd_41] at e1
    obtain rfl := Option.some.inj e1
    have e : Zen cA (adk ad k0 q) (Zc (Znk z k0)) 41 (.inl (9, fk41)) = (ad 41, .inr (9, (Zfv ad ((Zc z).1 41) fk41).set j0 (.ref q))) := by
      have e4 : adk ad k0 q 41 = ad 41 := if_neg (Ne.symm h41)
      simp only [Zen]
      rw [e4, Znk_1 (Ne.symm h41) (by decide), Zfv_at hj h1]
    have e2 : va_at D ZCL (Zen cA (adk ad k0 q) (Zc (Znk z k0)) 41 (.inl (9, fk41))) H1 := by
      rw [e]
      exact hP 41 _ (List.getElem?_set_self (by rw [List.length_append, hlen]; exact Nat.lt_of_lt_of_le hlt (Nat.le_add_right _ _)))
    exact e2
  · by_cases c2 : k = k0
    · subst c2
      rw [hd] at e1
      obtain rfl := Option.some.inj e1
      have e : Zen cA (adk ad k q) (Zc (Znk z k)) k (.inr (4, 0)) = newE cA q := by
        have e4 : adk ad k q k = q := if_pos rfl
        simp only [Zen]
        rw [e4, Znk_4 hk0, Znk_5 hk0]
        rfl
      rw [e]
      exact hP 129 _ (by rw [List.getElem?_set_ne (by decide), List.getElem?_append_right (by omega), hlen]; rfl)
    · rw [Zen_new hk0 c2 c1 e1 hc]
      exact hP k _ (by rw [List.getElem?_set_ne (Ne.symm c1), List.getElem?_append_left (by omega)]; exact Zws_get e1)
theorem ac_int : Cond.arrayClass .int ∈ Ztbl := Ztb 76 (by decide +kernel) rfl
theorem ZE_adk {D : va_G} {cA : Nat → ClassId} {ad : Nat → Nat} {A : Nat → Prop} {U : State} {k0 q : Nat} (hk : k0 < 129) (h : ZE D cA ad A U) : ZE D cA (adk ad k0 q) A U := by
  have e0 : adk ad k0 q 300 = ad 300 := if_neg (by omega)
  have e1 : adk ad k0 q 301 = ad 301 := if_neg (by omega)
  have e2 : adk ad k0 q 302 = ad 302 := if_neg (by omega)
  refine ⟨h.1, ?_⟩
  have h2 := h.2
  unfold ZT at h2 ⊢
  rw [e0, e1, e2]
  exact h2
theorem Zdj_adk {cA : Nat → ClassId} {ad : Nat → Nat} {z : ZS} {A : Nat → Prop} {k0 q : Nat} {x : va_E} (h : va_D A (Zws cA ad z ++ [(q, x)])) : Zdj (adk ad k0 q) ∧ ∀ k, k < 129 → A (adk ad k0 q k) := by
  have hlen : (Zws cA ad z).length = 129 := by simp [Zws, ZDS_len]
  have key : ∀ k, k < 129 → ∃ d, (Zws cA ad z ++ [(q, x)])[k]? = some (Zen cA ad z k d) := fun k hk => by
    have hk' : k < ZDS.length := by rw [ZDS_len]; exact hk
    exact ⟨ZDS[k], by rw [List.getElem?_append_left (by omega)]; exact Zws_get (List.getElem?_eq_getElem hk')⟩
  have kq : (Zws cA ad z ++ [(q, x)])[129]? = some (q, x) := by
    rw [List.getElem?_append_right (by omega), hlen]
    rfl
  refine ⟨fun i j hi hj e => ?_, fun k hk => ?_⟩
  · obtain ⟨di, h1⟩ := key i hi
    obtain ⟨dj, h2⟩ := key j hj
    unfold adk at e
    by_cases c1 : i = k0
    · by_cases c2 : j = k0
      · omega
      · rw [if_pos c1, if_neg c2] at e
        have := h.1 129 j _ _ kq h2 e
        omega
    · by_cases c2 : j = k0
      · rw [if_neg c1, if_pos c2] at e
        have := h.1 i 129 _ _ h1 kq e
        omega
      · rw [if_neg c1, if_neg c2] at e
        exact h.1 i j _ _ h1 h2 e
  · obtain ⟨d, h1⟩ := key k hk
    unfold adk
    by_cases c : k = k0
    · rw [if_pos c]
      exact h.2 129 _ kq
    · rw [if_neg c]
      exact h.2 k _ h1
section NEWROW
variable {p : Program} {l : Launch} {e : Env} {R : Room} {s : State} {m : MethodId} {args : Array Value} {below : List Frame} {meth : Method} {c : Code} {H : Heap} {locs : List Loc} {cells slots : Nat} {Q : State → Prop}
variable {cc : ByteArray} {nL pc : Nat} {ls : Array Slot} {rest : List Value}
variable {D : va_G} {cA : Nat → ClassId} {ad : Nat → Nat} {A : Nat → Prop} {z : ZI}
theorem Lrow {index k0 j0 : Nat} (S : CallFix p m c cc nL s args Ztbl RX9) (hw : ZW D cA ad A (Zc z) s H locs) (hA : ∀ q, s.heap.size ≤ q → A q) (hcs : cells + 1 ≤ R.cells ∧ slots + 4096 ≤ R.slots) (hk0 : k0 < 129) (h41 : k0 ≠ 41) (hc : chk k0 = true) (hd : ZDS[k0]? = some (.inr (4, 0))) (hj : fk41[j0]? = some (some k0)) (h1 : ∀ j, j < 16 → fk41[j]? = some (some k0) → j = j0) (hj0 : j0 < 16) (hl : Cond.fieldLink RX9 index (TX9 j0).1 (TX9 j0).2.1 (TX9 j0).2.2.1 ∈ Ztbl) (hfin : (TX9 j0).2.2.2 = false) (hty : parseFieldDescriptor (TX9 j0).2.2.1 = some (.array .int)) (d1 : decode cc pc = .ok (.sipush 4096, 3)) (d2 : decode cc (pc + 3) = .ok (.newarray .int, 2)) (d3 : decode cc (pc + 5) = .ok (.putfield index, 3))
    (kk : ∀ (q : Nat) (H1 : Heap) (locs1 : List Loc), Zdj (adk ad k0 q) → ZW D cA (adk ad k0 q) A (Zc (Znk z k0)) s H1 locs1 → W p l e R s m args below meth c H1 locs1 (cells + 1) (slots + 4096) Q (F0 m (pc + 8) ls rest)) : W p l e R s m args below meth c H locs cells slots Q (F0 m pc ls (.ref (ad 41) :: rest)) := by
  refine lv_sipush (v := i32 4096) S.1 S.2.1 d1 sp_4096 ?_
  refine va_newa (atype := .int) (ty := .int) (a0 := (4096, .inl fun _ => 0)) (N' := 4096) S.1 S.2.1 (S.2.2.2.2 _ ac_int) rfl hw.1.1 hw.2.1 hw.2.2.1 hw.2.2.2 hA (fun cA => rfl) (by decide) (by decide) (by decide) hcs.1 hcs.2 d2 (fun q cA2 H1 hK1 hP1 hD1 hS1 => ?_)
  have hcA : cA2 = cA 0 := by
    have a : s.vm.findClass ("[" ++ FieldType.int.toString) = some cA2 := (hK1.2 4 (cA2, .int) rfl).2
    have b : s.vm.findClass ("[" ++ FieldType.int.toString) = some (cA 0) := (hw.1.1.2 0 (cA 0, .int) rfl).2
    exact Option.some.inj (a.symm.trans b)
  subst hcA
  have hlen : (Zws cA ad (Zc z)).length = 129 := by simp [Zws, ZDS_len]
  have he : (Zws cA ad (Zc z) ++ [newE cA q])[41]? = some (ad 41, .inr (9, Zfv ad ((Zc z).1 41) fk41)) := by
    rw [List.getElem?_append_left (by omega)]
    exact Zws_get zd_41
  refine va_put (v := .ref q) (ty := .array .int) S.1 S.2.1 S.2.2.2.2 iX9 tyX9 tyX9_ok nmX9 S.2.2.2.1 hw.1.1 hP1 hD1 hS1 41 he zc_X9 j0 hj0 (S.2.2.2.2 _ hl) (fun _ h => h) hfin hty rfl rfl (by rw [Zfv_len]; exact hj0) d3 (fun H2 locs2 hP2 hD2 hS2 => ?_)
  obtain ⟨a1, a2⟩ := Zdj_adk (k0 := k0) hD1
  exact kk q H2 locs2 a1 ⟨ZE_adk hk0 hw.1, new_P hk0 h41 hc hd hj h1 hP2, Zd a1 a2, hS2⟩
end NEWROW
