/-! Arrays.fill over the memory while it is made -/
def Zfi (z : ZI) (k0 : Nat) (i v : Int) : ZI := fun k j => if k = k0 ∧ 0 ≤ j ∧ j < i then v else z k j
theorem Zfi_0 (z : ZI) (k0 : Nat) (v : Int) : Zfi z k0 0 v = z := by
  funext k j
  unfold Zfi
  rw [if_neg (by omega)]
theorem Zfi_s (z : ZI) (k0 : Nat) {i : Int} (v : Int) (hi : 0 ≤ i) : Zup (Zfi z k0 i v) k0 i v = Zfi z k0 (i + 1) v := by
  funext k j
  unfold Zup Zfi
  by_cases c : k = k0 ∧ j = i
  · rw [if_pos c, if_pos (by omega)]
  · rw [if_neg c]
    by_cases d : k = k0 ∧ 0 ≤ j ∧ j < i
    · rw [if_pos d, if_pos (by omega)]
    · rw [if_neg d, if_neg (by omega)]
theorem Zqw_arr {cA : Nat → ClassId} {ad : Nat → Nat} {z : ZS} {g : Nat → Bool} {n k len : Nat} {f : Nat → Int32} (hd : ZDS[k]? = some (.inr (0, len))) (hk : k < n) (hn : n ≤ 129) : (Zqw cA ad z g n).set k (ad k, .inl (cA 0, len, .inl f)) = Zqw cA ad (Zset z k f) g n := by
  have hlen := Zqw_len (cA := cA) (ad := ad) (z := z) (g := g) hn
  apply List.ext_getElem?
  intro i
  by_cases h1 : i = k
  · subst h1
    rw [List.getElem?_set_self (by omega), Zqw_get hd hk]
    simp only [Zenp, Zen, Zset_self]
    rfl
  · rw [List.getElem?_set_ne (Ne.symm h1)]
    by_cases h2 : i < n
    · have hk' : i < ZDS.length := by rw [ZDS_len]; omega
      have hdk : ZDS[i]? = some ZDS[i] := List.getElem?_eq_getElem hk'
      rw [Zqw_get hdk h2, Zqw_get hdk h2]
      generalize ZDS[i] = dk at hdk
      cases dk with
      | inl c => simp only [Zenp, Zset_ne z f h1]
      | inr c =>
        simp only [Zenp]
        rw [Zen_other (ZDS_lt hd) i (.inr c) h1]
    · rw [Zqw_none (by omega), Zqw_none (by omega)]
abbrev ZPf (D : va_G) (cA : Nat → ClassId) (ad : Nat → Nat) (A : Nat → Prop) (g : Nat → Bool) (n : Nat) (avs : List Value) (z : ZI) : Array Value → State → Prop := va_Pc avs (fun U => ZE D cA ad A U ∧ va_P D ZCL (Zqw cA ad (Zc z) g n) U.heap ∧ va_D A (Zqw cA ad (Zc z) g n))
abbrev ZQf (D : va_G) (cA : Nat → ClassId) (ad : Nat → Nat) (A : Nat → Prop) (g : Nat → Bool) (n : Nat) (z : ZI) : Array Value → State → Outcome → State → Prop := va_Qv (fun _ : Unit => True) (fun _ t => va_P D ZCL (Zqw cA ad (Zc z) g n) t.heap ∧ va_D A (Zqw cA ad (Zc z) g n)) A
section FILLP
variable {p : Program} {l : Launch} {e : Env} {R : Room} {s : State} {m : MethodId} {args : Array Value} {below : List Frame} {meth : Method} {c : Code}
variable {D : va_G} {cA : Nat → ClassId} {ad : Nat → Nat} {A : Nat → Prop} {g : Nat → Bool} {n : Nat}
set_option maxRecDepth 100000 in
set_option maxHeartbeats 4000000 in
theorem w_fillP {z : ZI} {k0 len : Nat} {v : Int} (hd : ZDS[k0]? = some (.inr (0, len))) (hk : k0 < n) (hn : n ≤ 129) (hlen : InR (len : Int)) (hv : InR v) (S : CallFix p m c cJ7_fill_53178 4 s args Ztbl RJ7) (hr : meth.sig.returnType = none) (hlk : meth.locks = false) (hE : ZE D cA ad A s) : ∀ (d : Nat) (i : Int) (H : Heap) (locs : List Loc) (ls : Array Slot), 0 ≤ i → i + d = len → va_P D ZCL (Zqw cA ad (Zc (Zfi z k0 i v)) g n) H → va_D A (Zqw cA ad (Zc (Zfi z k0 i v)) g n) → va_S A s.heap H locs → lv_has ls 4 [(2, .int (i32 i)), (3, .int (i32 (len : Int))), (0, .ref (ad k0)), (1, .int (i32 v))] → W p l e R s m args below meth c H locs 0 0 (MQ below (ZQf D cA ad A g n (Zfi z k0 len v)) args s 0 0 A) (F0 m 5 ls []) := by
  intro d
  induction d with
  | zero =>
    intro i H locs ls h0 hi hP hD hS hl
    have e : i = len := by omega
    have ri : InR i := by rw [e]; exact hlen
    refine lv_iload_n S.1 S.2.1 dJ7_fill_53178_5 rfl (lv_at hl 0 rfl) ?_
    refine lv_iload_n S.1 S.2.1 dJ7_fill_53178_6 rfl (lv_at hl 1 rfl) ?_
    refine Yicmp_ge (tgt := 20) S ri hlen dJ7_fill_53178_7 (by decide) (fun _ => ?_) (fun c1 => absurd (by omega) c1)
    rw [e] at hP hD
    exact W.vret S.1 S.2.1 hr (fun t ht hW => ⟨⟨(), rfl, trivial, by rw [ht]; exact hP, hD⟩, hS.F ht⟩) hS.2.2 dJ7_fill_53178_20 hlk
  | succ d ih =>
    intro i H locs ls h0 hi hP hD hS hl
    have hlt : i < len := by omega
    have ri : InR i := ⟨by omega, by have := hlen.2; omega⟩
    refine lv_iload_n S.1 S.2.1 dJ7_fill_53178_5 rfl (lv_at hl 0 rfl) ?_
    refine lv_iload_n S.1 S.2.1 dJ7_fill_53178_6 rfl (lv_at hl 1 rfl) ?_
    refine Yicmp_ge (tgt := 20) S ri hlen dJ7_fill_53178_7 (by decide) (fun c1 => absurd hlt (by omega)) (fun _ => ?_)
    refine lv_aload_n S.1 S.2.1 dJ7_fill_53178_10 rfl (lv_at hl 2 rfl) ?_
    refine lv_iload_n S.1 S.2.1 dJ7_fill_53178_11 rfl (lv_at hl 0 rfl) ?_
    refine lv_iload_n S.1 S.2.1 dJ7_fill_53178_12 rfl (lv_at hl 3 rfl) ?_
    refine va_iast S.1 S.2.1 hE.1 hP hD hS k0 0 (Zqw_get hd hk) rfl (Zin (IJ_b ri ⟨h0, hlt⟩)) dJ7_fill_53178_13 (fun H1 locs1 hP1 hD1 hS1 => ?_)
    have hz : (Zqw cA ad (Zc (Zfi z k0 i v)) g n).set k0 (ad k0, .inl (cA 0, len, .inl (upd ((Zc (Zfi z k0 i v)).1 k0) (i32 i).toNatClampNeg (i32 v)))) = Zqw cA ad (Zc (Zfi z k0 (i + 1) v)) g n := by
      rw [Zqw_arr hd hk hn, i32_clamp ri, Zc_up (by have := ZDS_lt hd; omega), Int.toNat_of_nonneg h0, Zfi_s z k0 v h0]
    rw [hz] at hP1 hD1
    refine lv_iinc (v := i32 (i + 1)) (lv' := [(2, .int (i32 (i + 1))), (3, .int (i32 (len : Int))), (0, .ref (ad k0)), (1, .int (i32 v))]) S.1 S.2.1 dJ7_fill_53178_14 hl (k := 0) rfl Yiinc (by decide) rfl (fun ls hl => ?_)
    refine lv_goto (tgt := 5) S.1 S.2.1 dJ7_fill_53178_17 (by decide) ?_
    exact ih (i + 1) H1 locs1 ls (by omega) (by omega) hP1 hD1 hS1 hl
end FILLP
theorem ZPf_blind {D : va_G} {cA : Nat → ClassId} {ad : Nat → Nat} {A : Nat → Prop} {g : Nat → Bool} {n : Nat} {avs : List Value} {z : ZI} : FrameBlind (ZPf D cA ad A g n avs z) := by
  intro a U gg mk q
  obtain ⟨q0, ⟨qK, qT⟩, qP⟩ := q
  exact ⟨q0, ⟨va_K.moved (u := U) (U := U.calling gg mk a) (Vm.Alike.refl U.vm) qK, ZT.call (U := U) (V := U.calling gg mk a) qT rfl rfl⟩, qP⟩
theorem ZPf_down {D : va_G} {cA : Nat → ClassId} {ad : Nat → Nat} {A : Nat → Prop} {g : Nat → Bool} {n : Nat} {avs : List Value} {z : ZI} {s : State} {H : Heap} {locs : List Loc} (hw : PW D cA ad A (Zc z) g n s H locs) : ∀ U : State, U.heap = H → s.WarmedH U.vm → ZPf D cA ad A g n avs z avs.toArray U := by
  intro U hU hW
  exact ⟨rfl, ⟨va_K.moved hW.alike hw.1.1, ZT.down hw.1.2 hW hU hw.2.2.2.1 (fun q h => h)⟩, by rw [hU]; exact hw.2.1, hw.2.2.1⟩
set_option maxRecDepth 100000 in
set_option maxHeartbeats 4000000 in
theorem c_fillP {l : Launch} {D : va_G} {cA : Nat → ClassId} {ad : Nat → Nat} {A : Nat → Prop} {g : Nat → Bool} {n : Nat} {z : ZI} {k0 len : Nat} {v : Int} (hd : ZDS[k0]? = some (.inr (0, len))) (hk : k0 < n) (hn : n ≤ 129) (hlen : InR (len : Int)) (hv : InR v) : Met l yJ7_fill_53178 (ZV yJ7_fill_53178 cJ7_fill_53178 4 none) (Zrm 0) (ZPf D cA ad A g n [.ref (ad k0), .int (i32 v)] z) (ZQf D cA ad A g n (Zfi z k0 len v)) 0 0 A := by
  refine Met.ofW (cc := cJ7_fill_53178) (maxL := 4) (ret := none) (by decide) rfl ?_
  intro p e s m args below meth c s₁ B hml hv2
  obtain ⟨rfl, hE, hP, hD⟩ := hv2
  have hts := atoms_spec (ws := ZV yJ7_fill_53178 cJ7_fill_53178 4 none) B.pre
  have hown : s.vm.findClass yJ7_fill_53178.cls = some m.cls := findClass_of_methodNamed B.named
  have hl := lv_entry [Value.ref (ad k0), .int (i32 v)] (n := 4) (Nat.le_of_ble_eq_true rfl)
  rw [lg_entry_eq]
  generalize (lg_sl [Value.ref (ad k0), .int (i32 v)] ++ List.replicate (4 - (lg_sl [Value.ref (ad k0), .int (i32 v)]).length) Slot.unset).toArray = ls at hl ⊢
  have hl : lv_has ls 4 [(0, .ref (ad k0)), (1, .int (i32 v))] := hl
  have S : CallFix p m c cJ7_fill_53178 4 s [Value.ref (ad k0), .int (i32 v)].toArray Ztbl RJ7 := ⟨B.exec, B.bytes, hml, hown, fun w hw => hts w (List.mem_cons_of_mem _ hw)⟩
  have hr := B.returns
  have hlk := B.notSynchronized
  show W p l e (Zrm 0) s m _ below meth c s.heap [] 0 0 _ _
  refine lv_iconst (v := i32 0) S.1 S.2.1 dJ7_fill_53178_0 ic_0 ?_
  refine lv_istore_n (lv' := [(2, .int (i32 0)), (0, .ref (ad k0)), (1, .int (i32 v))]) S.1 S.2.1 dJ7_fill_53178_1 rfl hl (by decide) rfl (fun ls hl => ?_)
  refine lv_aload_n S.1 S.2.1 dJ7_fill_53178_2 rfl (lv_at hl 1 rfl) ?_
  refine va_alen S.1 S.2.1 hE.1 hP k0 0 (Zqw_get hd hk) (ty := .int) rfl rfl dJ7_fill_53178_3 ?_
  rw [show Int32.ofNat len = i32 (len : Int) from rfl]
  refine lv_istore_n (lv' := [(3, .int (i32 (len : Int))), (2, .int (i32 0)), (0, .ref (ad k0)), (1, .int (i32 v))]) S.1 S.2.1 dJ7_fill_53178_4 rfl hl (by decide) rfl (fun ls hl => ?_)
  exact w_fillP hd hk hn hlen hv S hr hlk hE len 0 s.heap [] ls (Int.le_refl 0) (by omega) (by rw [Zfi_0]; exact hP) (by rw [Zfi_0]; exact hD) va_S.rf (lv_sub hl [1, 0, 2, 3] rfl)
