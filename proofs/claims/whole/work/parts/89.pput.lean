/-! a row made and put in its place -/
section PPUT
variable {p : Program} {l : Launch} {e : Env} {R : Room} {s : State} {m : MethodId} {args : Array Value} {below : List Frame} {meth : Method} {c : Code} {H : Heap} {locs : List Loc} {cells slots : Nat} {Q : State → Prop}
variable {cc : ByteArray} {nL pc : Nat} {ls : Array Slot} {rest : List Value} {own : String}
variable {D : va_G} {cA : Nat → ClassId} {ad : Nat → Nat} {A : Nat → Prop} {z : ZS} {g : Nat → Bool} {n : Nat}
theorem PputF {k0 k1 j0 : Nat} {ci N index : Nat} {fk : List (Option Nat)} {C : String} {T : u_T} {ty : FieldType} (S : CallFix p m c cc nL s args Ztbl own) (hE : ZE D cA ad A s) (hP : va_P D ZCL (Zqw cA ad z g n) H) (hD : va_D A (Zqw cA ad z g n)) (hS : va_S A s.heap H locs) (hn : n ≤ 129) (hk1 : k1 < n) (hch : chq k0 k1 j0 = true) (hd : ZDS[k1]? = some (.inl (ci, fk))) (hj : fk[j0]? = some (some k0)) (hc : ZCL[ci]? = some (C, T, N)) (hin : ∀ w ∈ u_ws C T N, w ∈ Ztbl) (ty0 : Nat → FieldType) (hty : ∀ k, k < N → parseFieldDescriptor (T k).2.2.1 = some (ty0 k)) (hnm : ∀ a, a < N → ∀ b, b < N → a ≠ b → (T a).2.1 ≠ (T b).2.1) (hj0 : j0 < N) (hl : Cond.fieldLink own index (T j0).1 (T j0).2.1 (T j0).2.2.1 ∈ Ztbl) (hfin : (T j0).2.2.2 = true) (hinit : meth.name = "<init>") (hdecl : (T j0).1 = own) (hdT : parseFieldDescriptor (T j0).2.2.1 = some ty) (hnr : ∀ a : Nat, narrow ty (.ref a) = .ref a) (hfit : ∀ a : Nat, fits ty (.ref a) = true) (hdg : decode cc pc = .ok (.putfield index, 3))
    (kk : ∀ (H1 : Heap) (locs1 : List Loc), va_P D ZCL (Zqw cA ad z (gup g k0) n) H1 → va_D A (Zqw cA ad z (gup g k0) n) → va_S A s.heap H1 locs1 → W p l e R s m args below meth c H1 locs1 cells slots Q (F0 m (pc + 3) ls rest)) : W p l e R s m args below meth c H locs cells slots Q (F0 m pc ls (.ref (ad k0) :: .ref (ad k1) :: rest)) := by
  have e := Zqw_set (cA := cA) (ad := ad) (z := z) (g := g) hch hd hj hk1 hn
  have hlen : j0 < fk.length := (List.getElem?_eq_some_iff.mp hj).1
  refine va_putF (v := .ref (ad k0)) (ty := ty) S.1 S.2.1 S.2.2.2.2 hin ty0 hty hnm S.2.2.2.1 hE.1 hP hD hS k1 (fs := Zfvp g ad (z.1 k1) fk) (Zqw_get hd hk1) hc j0 hj0 (S.2.2.2.2 _ hl) (fun _ h => h) hfin hinit hdecl hdT (hnr _) (hfit _) (by rw [Zfvp_len]; exact hlen) hdg (fun H1 locs1 hP1 hD1 hS1 => ?_)
  rw [e] at hP1 hD1
  exact kk H1 locs1 hP1 hD1 hS1
/-- cell n: newarray, putfield -/
theorem ProwF {k1 j0 a t len : Nat} {aty : ArrayType} {tya : FieldType} {i : Nat} {ci N index : Nat} {fk : List (Option Nat)} {C : String} {T : u_T} {ty : FieldType} (S : CallFix p m c cc nL s args Ztbl own) (hw : PW D cA ad A z (gto g a n) n s H locs) (hA : ∀ q, s.heap.size ≤ q → A q) (hdn : ZDS[n]? = some (.inr (t, len))) (h1 : z.1 n = fun _ => 0) (h2 : z.2 n = fun _ => 0) (h3 : z.1 200 n = 0) (hac : Cond.arrayClass (newarray.typeOf aty) ∈ Ztbl) (htya : newarray.typeOf aty = tya) (hti : ∀ cA, (Ztys cA)[i]? = some (cA (if t = 4 then 0 else t), tya)) (hra : ∀ (U : State) (c2 : ClassId), va_RA U c2 tya → U.vm.findClass ("[" ++ tya.toString) = some c2) {v : Int32} {N2 : Nat} (ha : ∀ c2 : ClassId, vp_cell c2 (nwA t len) = arrV c2 N2 (fun _ => defaultValue tya)) (hv : ¬ v < 0) (hN : v.toNatClampNeg = N2) (hby : N2 * componentBytes tya ≤ 536870912) (hcs : cells + 1 ≤ R.cells ∧ slots + N2 ≤ R.slots) (han : a ≤ n) (hk1 : k1 < n) (hch : chq n k1 j0 = true) (hd : ZDS[k1]? = some (.inl (ci, fk))) (hj : fk[j0]? = some (some n)) (hc : ZCL[ci]? = some (C, T, N)) (hin : ∀ w ∈ u_ws C T N, w ∈ Ztbl) (ty0 : Nat → FieldType) (hty : ∀ k, k < N → parseFieldDescriptor (T k).2.2.1 = some (ty0 k)) (hnm : ∀ a, a < N → ∀ b, b < N → a ≠ b → (T a).2.1 ≠ (T b).2.1) (hj0 : j0 < N) (hl : Cond.fieldLink own index (T j0).1 (T j0).2.1 (T j0).2.2.1 ∈ Ztbl) (hfin : (T j0).2.2.2 = true) (hinit : meth.name = "<init>") (hdecl : (T j0).1 = own) (hdT : parseFieldDescriptor (T j0).2.2.1 = some ty) (hnr : ∀ a : Nat, narrow ty (.ref a) = .ref a) (hfit : ∀ a : Nat, fits ty (.ref a) = true) (hdg : decode cc pc = .ok (.newarray aty, 2)) (hdg2 : decode cc (pc + 2) = .ok (.putfield index, 3))
    (kk : ∀ (q : Nat) (H1 : Heap) (locs1 : List Loc), PW D cA (adk ad n q) A z (gto g a (n + 1)) (n + 1) s H1 locs1 → W p l e R s m args below meth c H1 locs1 (cells + 1) (slots + N2) Q (F0 m (pc + 5) ls rest)) : W p l e R s m args below meth c H locs cells slots Q (F0 m pc ls (.int v :: .ref (ad k1) :: rest)) := by
  refine Pnewa S hw hA hdn h1 h2 h3 hac htya hti hra ha hv hN hby hcs hdg (fun q H1 hE1 hP1 hD1 hS1 => ?_)
  have e1 : adk ad n q k1 = ad k1 := if_neg (by omega)
  have e2 : adk ad n q n = q := if_pos rfl
  have hn := ZDS_lt hdn
  have hgo : W p l e R s m args below meth c H1 locs (cells + 1) (slots + N2) Q (F0 m (pc + 2) ls (.ref (adk ad n q n) :: .ref (adk ad n q k1) :: rest)) := by
    refine PputF (k0 := n) S hE1 hP1 hD1 hS1 (by omega) (by omega) hch hd hj hc hin ty0 hty hnm hj0 hl hfin hinit hdecl hdT hnr hfit hdg2 (fun H2 locs2 hP2 hD2 hS2 => ?_)
    rw [gup_to han] at hP2 hD2
    refine kk q H2 locs2 ⟨hE1, hP2, hD2, hS2, by omega, fun k hk => ?_⟩
    have q1 := hw.2.2.2.2.2 k (by omega)
    unfold gto at q1 ⊢
    rw [if_neg (by omega)] at q1 ⊢
    exact q1
  rw [e1, e2] at hgo
  exact hgo
theorem PputN {k0 k1 j0 : Nat} {ci N index : Nat} {fk : List (Option Nat)} {C : String} {T : u_T} {ty : FieldType} (S : CallFix p m c cc nL s args Ztbl own) (hE : ZE D cA ad A s) (hP : va_P D ZCL (Zqw cA ad z g n) H) (hD : va_D A (Zqw cA ad z g n)) (hS : va_S A s.heap H locs) (hn : n ≤ 129) (hk1 : k1 < n) (hch : chq k0 k1 j0 = true) (hd : ZDS[k1]? = some (.inl (ci, fk))) (hj : fk[j0]? = some (some k0)) (hc : ZCL[ci]? = some (C, T, N)) (hin : ∀ w ∈ u_ws C T N, w ∈ Ztbl) (ty0 : Nat → FieldType) (hty : ∀ k, k < N → parseFieldDescriptor (T k).2.2.1 = some (ty0 k)) (hnm : ∀ a, a < N → ∀ b, b < N → a ≠ b → (T a).2.1 ≠ (T b).2.1) (hj0 : j0 < N) (hl : Cond.fieldLink own index (T j0).1 (T j0).2.1 (T j0).2.2.1 ∈ Ztbl) (hfin : (T j0).2.2.2 = false) (hdT : parseFieldDescriptor (T j0).2.2.1 = some ty) (hnr : ∀ a : Nat, narrow ty (.ref a) = .ref a) (hfit : ∀ a : Nat, fits ty (.ref a) = true) (hdg : decode cc pc = .ok (.putfield index, 3))
    (kk : ∀ (H1 : Heap) (locs1 : List Loc), va_P D ZCL (Zqw cA ad z (gup g k0) n) H1 → va_D A (Zqw cA ad z (gup g k0) n) → va_S A s.heap H1 locs1 → W p l e R s m args below meth c H1 locs1 cells slots Q (F0 m (pc + 3) ls rest)) : W p l e R s m args below meth c H locs cells slots Q (F0 m pc ls (.ref (ad k0) :: .ref (ad k1) :: rest)) := by
  have e := Zqw_set (cA := cA) (ad := ad) (z := z) (g := g) hch hd hj hk1 hn
  have hlen : j0 < fk.length := (List.getElem?_eq_some_iff.mp hj).1
  refine va_put (v := .ref (ad k0)) (ty := ty) S.1 S.2.1 S.2.2.2.2 hin ty0 hty hnm S.2.2.2.1 hE.1 hP hD hS k1 (fs := Zfvp g ad (z.1 k1) fk) (Zqw_get hd hk1) hc j0 hj0 (S.2.2.2.2 _ hl) (fun _ h => h) hfin hdT (hnr _) (hfit _) (by rw [Zfvp_len]; exact hlen) hdg (fun H1 locs1 hP1 hD1 hS1 => ?_)
  rw [e] at hP1 hD1
  exact kk H1 locs1 hP1 hD1 hS1
/-- cell n: newarray, putfield -/
theorem ProwN {k1 j0 a t len : Nat} {aty : ArrayType} {tya : FieldType} {i : Nat} {ci N index : Nat} {fk : List (Option Nat)} {C : String} {T : u_T} {ty : FieldType} (S : CallFix p m c cc nL s args Ztbl own) (hw : PW D cA ad A z (gto g a n) n s H locs) (hA : ∀ q, s.heap.size ≤ q → A q) (hdn : ZDS[n]? = some (.inr (t, len))) (h1 : z.1 n = fun _ => 0) (h2 : z.2 n = fun _ => 0) (h3 : z.1 200 n = 0) (hac : Cond.arrayClass (newarray.typeOf aty) ∈ Ztbl) (htya : newarray.typeOf aty = tya) (hti : ∀ cA, (Ztys cA)[i]? = some (cA (if t = 4 then 0 else t), tya)) (hra : ∀ (U : State) (c2 : ClassId), va_RA U c2 tya → U.vm.findClass ("[" ++ tya.toString) = some c2) {v : Int32} {N2 : Nat} (ha : ∀ c2 : ClassId, vp_cell c2 (nwA t len) = arrV c2 N2 (fun _ => defaultValue tya)) (hv : ¬ v < 0) (hN : v.toNatClampNeg = N2) (hby : N2 * componentBytes tya ≤ 536870912) (hcs : cells + 1 ≤ R.cells ∧ slots + N2 ≤ R.slots) (han : a ≤ n) (hk1 : k1 < n) (hch : chq n k1 j0 = true) (hd : ZDS[k1]? = some (.inl (ci, fk))) (hj : fk[j0]? = some (some n)) (hc : ZCL[ci]? = some (C, T, N)) (hin : ∀ w ∈ u_ws C T N, w ∈ Ztbl) (ty0 : Nat → FieldType) (hty : ∀ k, k < N → parseFieldDescriptor (T k).2.2.1 = some (ty0 k)) (hnm : ∀ a, a < N → ∀ b, b < N → a ≠ b → (T a).2.1 ≠ (T b).2.1) (hj0 : j0 < N) (hl : Cond.fieldLink own index (T j0).1 (T j0).2.1 (T j0).2.2.1 ∈ Ztbl) (hfin : (T j0).2.2.2 = false) (hdT : parseFieldDescriptor (T j0).2.2.1 = some ty) (hnr : ∀ a : Nat, narrow ty (.ref a) = .ref a) (hfit : ∀ a : Nat, fits ty (.ref a) = true) (hdg : decode cc pc = .ok (.newarray aty, 2)) (hdg2 : decode cc (pc + 2) = .ok (.putfield index, 3))
    (kk : ∀ (q : Nat) (H1 : Heap) (locs1 : List Loc), PW D cA (adk ad n q) A z (gto g a (n + 1)) (n + 1) s H1 locs1 → W p l e R s m args below meth c H1 locs1 (cells + 1) (slots + N2) Q (F0 m (pc + 5) ls rest)) : W p l e R s m args below meth c H locs cells slots Q (F0 m pc ls (.int v :: .ref (ad k1) :: rest)) := by
  refine Pnewa S hw hA hdn h1 h2 h3 hac htya hti hra ha hv hN hby hcs hdg (fun q H1 hE1 hP1 hD1 hS1 => ?_)
  have e1 : adk ad n q k1 = ad k1 := if_neg (by omega)
  have e2 : adk ad n q n = q := if_pos rfl
  have hn := ZDS_lt hdn
  have hgo : W p l e R s m args below meth c H1 locs (cells + 1) (slots + N2) Q (F0 m (pc + 2) ls (.ref (adk ad n q n) :: .ref (adk ad n q k1) :: rest)) := by
    refine PputN (k0 := n) S hE1 hP1 hD1 hS1 (by omega) (by omega) hch hd hj hc hin ty0 hty hnm hj0 hl hfin hdT hnr hfit hdg2 (fun H2 locs2 hP2 hD2 hS2 => ?_)
    rw [gup_to han] at hP2 hD2
    refine kk q H2 locs2 ⟨hE1, hP2, hD2, hS2, by omega, fun k hk => ?_⟩
    have q1 := hw.2.2.2.2.2 k (by omega)
    unfold gto at q1 ⊢
    rw [if_neg (by omega)] at q1 ⊢
    exact q1
  rw [e1, e2] at hgo
  exact hgo
end PPUT
