/-! an object made, its constructor called, put in its place -/
def fdef (fk : List (Option Nat)) : List Value := fk.map (fun o => match o with
  | none => .int 0
  | some _ => .null)
theorem Zfvp_def {g : Nat → Bool} {ad : Nat → Nat} {fk : List (Option Nat)} (h : ∀ k, some k ∈ fk → g k = false) : Zfvp g ad (fun _ => 0) fk = fdef fk := by
  apply List.ext_getElem?
  intro j
  simp only [Zfvp, fdef, List.getElem?_mapIdx, List.getElem?_map]
  cases hj : fk[j]? with
  | none => rfl
  | some o => cases o with
    | none => rfl
    | some k => simp [h k (List.mem_of_getElem? hj)]
def geA (n : Nat) (fk : List (Option Nat)) : Bool := fk.all (fun o => match o with
  | some k => decide (n ≤ k)
  | none => true)
theorem geA_t {n k : Nat} {fk : List (Option Nat)} (h : geA n fk = true) (hk : some k ∈ fk) : n ≤ k := by
  have b := List.all_eq_true.mp h (some k) hk
  simpa using b
theorem ZE_eq {D : va_G} {cA : Nat → ClassId} {ad u : Nat → Nat} {A : Nat → Prop} {U : State} (h : ∀ k, 129 ≤ k → u k = ad k) (hE : ZE D cA ad A U) : ZE D cA u A U := by
  refine ⟨hE.1, ?_⟩
  have h2 := hE.2
  unfold ZT at h2 ⊢
  rw [h 300 (by decide), h 301 (by decide), h 302 (by decide)]
  exact h2
theorem ZPi_blind {D : va_G} {cA : Nat → ClassId} {ad : Nat → Nat} {A : Nat → Prop} {g : Nat → Bool} {n : Nat} {avs : List Value} {z : ZI} : FrameBlind (ZPi D cA ad A g n avs z) := by
  intro a U gg mk q
  obtain ⟨q0, qA, ⟨qK, qT⟩, qP⟩ := q
  exact ⟨q0, qA, ⟨va_K.moved (u := U) (U := U.calling gg mk a) (Vm.Alike.refl U.vm) qK, ZT.call (U := U) (V := U.calling gg mk a) qT rfl rfl⟩, qP⟩
theorem ZPi_down {D : va_G} {cA : Nat → ClassId} {ad : Nat → Nat} {A : Nat → Prop} {g : Nat → Bool} {n : Nat} {avs : List Value} {z : ZI} {s : State} {H : Heap} {locs : List Loc} (hw : PW D cA ad A (Zc z) g n s H locs) (hA : ∀ q, s.heap.size ≤ q → A q) : ∀ U : State, U.heap = H → s.WarmedH U.vm → ZPi D cA ad A g n avs z avs.toArray U := by
  intro U hU hW
  exact ⟨rfl, fun q hq => hA q (Nat.le_trans hw.2.2.2.1.1 (by rw [hU] at hq; exact hq)), ⟨va_K.moved hW.alike hw.1.1, ZT.down hw.1.2 hW hU hw.2.2.2.1 (fun q h => h)⟩, by rw [hU]; exact hw.2.1, hw.2.2.1⟩
theorem Zqw_seti {cA : Nat → ClassId} {ad : Nat → Nat} {z : ZS} {g : Nat → Bool} {n k1 j0 ci : Nat} {fk : List (Option Nat)} {x : Int32} (hd : ZDS[k1]? = some (.inl (ci, fk))) (hj : fk[j0]? = some none) (hn : k1 < n) (hn2 : n ≤ 129) : (Zqw cA ad z g n).set k1 (ad k1, .inr (ci, (Zfvp g ad (z.1 k1) fk).set j0 (.int x))) = Zqw cA ad (Zset z k1 (upd (z.1 k1) j0 x)) g n := by
  have hlen := Zqw_len (cA := cA) (ad := ad) (z := z) (g := g) hn2
  apply List.ext_getElem?
  intro k
  by_cases h1 : k = k1
  · subst h1
    rw [List.getElem?_set_self (by omega), Zqw_get hd hn]
    simp only [Zenp, Zset_self]
    congr 4
    apply List.ext_getElem?
    intro j
    by_cases hjj : j = j0
    · subst hjj
      rw [List.getElem?_set_self (by rw [Zfvp_len]; exact (List.getElem?_eq_some_iff.mp hj).1)]
      simp [Zfvp, List.getElem?_mapIdx, hj, upd]
    · rw [List.getElem?_set_ne (Ne.symm hjj)]
      simp only [Zfvp, List.getElem?_mapIdx]
      cases ho : fk[j]? with
      | none => rfl
      | some o => cases o with
        | none => simp [upd, hjj]
        | some k2 => rfl
  · rw [List.getElem?_set_ne (Ne.symm h1)]
    by_cases h2 : k < n
    · have hk' : k < ZDS.length := by rw [ZDS_len]; omega
      have hdk : ZDS[k]? = some ZDS[k] := List.getElem?_eq_getElem hk'
      rw [Zqw_get hdk h2, Zqw_get hdk h2]
      generalize ZDS[k] = dk at hdk
      cases dk with
      | inl c => simp only [Zenp, Zset_ne z _ h1]
      | inr c =>
        simp only [Zenp]
        rw [Zen_other (ZDS_lt hd) k (.inr c) h1]
    · rw [Zqw_none (by omega), Zqw_none (by omega)]
section POBJ
variable {p : Program} {l : Launch} {e : Env} {R : Room} {s : State} {m : MethodId} {args : Array Value} {below : List Frame} {meth : Method} {c : Code} {H : Heap} {locs : List Loc} {cells slots : Nat} {Q : State → Prop}
variable {cc : ByteArray} {nL pc : Nat} {ls : Array Slot} {rest : List Value} {own : String}
variable {D : va_G} {cA : Nat → ClassId} {ad : Nat → Nat} {A : Nat → Prop} {z : ZI} {g : Nat → Bool} {n : Nat}
theorem Pnew {ix ci N : Nat} {fk : List (Option Nat)} {C : String} {T : u_T} (S : CallFix p m c cc nL s args Ztbl own) (hw : PW D cA ad A (Zc z) g n s H locs) (hA : ∀ q, s.heap.size ≤ q → A q) (hz : Zzero z n) (hdn : ZDS[n]? = some (.inl (ci, fk))) (hge : geA n fk = true) (hc : ZCL[ci]? = some (C, T, N)) (hin : ∀ w ∈ u_ws C T N, w ∈ Ztbl) (ty : Nat → FieldType) (hty : ∀ k, k < N → parseFieldDescriptor (T k).2.2.1 = some (ty k)) (hcl : Cond.classLink own ix C ∈ Ztbl) (hinst : Cond.instantiable C N ∈ Ztbl) (hini : Cond.initialized C ∈ Ztbl) (hfs : ∀ j, j < N → defaultValue (ty j) = vp_V (fdef fk) j) (hcs : cells + 1 ≤ R.cells ∧ slots + N ≤ R.slots) (hdg : decode cc pc = .ok (.new ix, 3))
    (kk : ∀ (ad1 : Nat → Nat) (H1 : Heap), (∀ k, k ≠ n → ad1 k = ad k) → PW D cA ad1 A (Zc z) g (n + 1) s H1 locs → W p l e R s m args below meth c H1 locs (cells + 1) (slots + N) Q (F0 m (pc + 3) ls (.ref (ad1 n) :: rest))) : W p l e R s m args below meth c H locs cells slots Q (F0 m pc ls rest) := by
  have hn := ZDS_lt hdn
  refine va_new (ci := ci) (fs := fdef fk) S.1 S.2.1 S.2.2.2.2 hin ty hty S.2.2.2.1 (S.2.2.2.2 _ hcl) (S.2.2.2.2 _ hinst) (S.2.2.2.2 _ hini) hw.1.1 hw.2.1 hw.2.2.1 hw.2.2.2.1 hA hc hfs hcs.1 hcs.2 hdg (fun q H1 hP1 hD1 hS1 => ?_)
  have hx : Zenp cA (adk ad n q) (Zc z) g n (.inl (ci, fk)) = (q, .inr (ci, fdef fk)) := by
    have e4 : adk ad n q n = q := if_pos rfl
    simp only [Zenp]
    rw [e4, Zz_1 hz hn, Zfvp_def (fun k hk => hw.2.2.2.2.2 k (geA_t hge hk))]
  obtain ⟨a1, a2, a3, a4⟩ := PW_push (q := q) hw hdn hx hP1 hD1 hS1
  have h := kk (adk ad n q) H1 (fun k hk => if_neg hk) ⟨a1, a2, a3, a4, by omega, fun k hk => hw.2.2.2.2.2 k (by omega)⟩
  rw [show adk ad n q n = q from if_pos rfl] at h
  exact h
theorem Pobj {a n2 k1 j0 h mc ms ix iy index ci N cik Nk : Nat} {fk fkk : List (Option Nat)} {C Ck : String} {T Tk : u_T} {tyr : FieldType} {y : MethodName} {b : ByteArray} {z2 : ZI} (S : CallFix p m c cc nL s args Ztbl own) (hw : PW D cA ad A (Zc z) (gto g a n) n s H locs) (hA : ∀ q, s.heap.size ≤ q → A q) (hz : Zzero z n) (hdn : ZDS[n]? = some (.inl (ci, fk))) (hge : geA n fk = true) (hc : ZCL[ci]? = some (C, T, N)) (hin : ∀ w ∈ u_ws C T N, w ∈ Ztbl) (ty : Nat → FieldType) (hty : ∀ k, k < N → parseFieldDescriptor (T k).2.2.1 = some (ty k)) (hcl : Cond.classLink own ix C ∈ Ztbl) (hinst : Cond.instantiable C N ∈ Ztbl) (hini : Cond.initialized C ∈ Ztbl) (hfs : ∀ j, j < N → defaultValue (ty j) = vp_V (fdef fk) j)
    (hM : ∀ ad1 : Nat → Nat, Met l y (ZV y b 1 none) (Rmi h mc ms) (ZPi D cA ad1 A (gto g a n) (n + 1) [.ref (ad1 n)] z) (ZQn D cA ad1 A (gto g a n) (n + 1) n2 z2) mc ms A) (hy : ZyV y b 1 none 0) (hyn : y.name = "<init>") (hyi : Cond.instanceMethod y ∈ Ztbl) (hyl : Cond.methodLink own iy y ∈ Ztbl) (hRf : h + 1 ≤ R.frames ∧ 20 + 60 * h ≤ R.locals) (hcs : cells + (1 + mc) ≤ R.cells ∧ slots + (N + ms) ≤ R.slots) (hsz : ls.size = nL) (hro : ((Value.ref 0 :: Value.ref 0 :: rest).map fun v => v.category).sum ≤ 8)
    (han : a < n) (hn2 : n < n2 ∧ n2 ≤ 129) (hk1 : k1 < n) (hch : chq n k1 j0 = true) (hdk : ZDS[k1]? = some (.inl (cik, fkk))) (hj : fkk[j0]? = some (some n)) (hck : ZCL[cik]? = some (Ck, Tk, Nk)) (hink : ∀ w ∈ u_ws Ck Tk Nk, w ∈ Ztbl) (tyk : Nat → FieldType) (htyk : ∀ k, k < Nk → parseFieldDescriptor (Tk k).2.2.1 = some (tyk k)) (hnmk : ∀ a, a < Nk → ∀ b, b < Nk → a ≠ b → (Tk a).2.1 ≠ (Tk b).2.1) (hj0 : j0 < Nk) (hl : Cond.fieldLink own index (Tk j0).1 (Tk j0).2.1 (Tk j0).2.2.1 ∈ Ztbl) (hfin : (Tk j0).2.2.2 = true) (hinit : meth.name = "<init>") (hdecl : (Tk j0).1 = own) (hdT : parseFieldDescriptor (Tk j0).2.2.1 = some tyr) (hnr : ∀ a : Nat, narrow tyr (.ref a) = .ref a) (hfit : ∀ a : Nat, fits tyr (.ref a) = true)
    (d1 : decode cc pc = .ok (.new ix, 3)) (d2 : decode cc (pc + 3) = .ok (.dup, 1)) (d3 : decode cc (pc + 4) = .ok (.invokespecial iy, 3)) (d4 : decode cc (pc + 7) = .ok (.putfield index, 3))
    (kk : ∀ (ad2 : Nat → Nat) (H1 : Heap) (locs1 : List Loc), (∀ k, k < n ∨ 129 ≤ k → ad2 k = ad k) → PW D cA ad2 A (Zc z2) (gto g a n2) n2 s H1 locs1 → W p l e R s m args below meth c H1 locs1 (cells + 1 + mc) (slots + N + ms) Q (F0 m (pc + 10) ls rest)) : W p l e R s m args below meth c H locs cells slots Q (F0 m pc ls (.ref (ad k1) :: rest)) := by
  have hn := ZDS_lt hdn
  refine Pnew S hw hA hz hdn hge hc hin ty hty hcl hinst hini hfs ⟨by omega, by omega⟩ d1 (fun ad1 H1 e1 hw1 => ?_)
  refine lv_dup S.1 S.2.1 d2 rfl ?_
  have cb : CallB R s args own iy y b 1 none (ZV y b 1 none) (Rmi h mc ms) mc ms 0 := callB_of 0 S.2.2.2.2 (ZV_in hy.1) rfl rfl rfl (S.2.2.2.2 _ hy.2.1) (S.2.2.2.2 _ hyl) hy.2.2.1 ⟨hRf.1, by have := hRf.2; show 8 + (1 + 11) + 60 * h ≤ R.locals; omega⟩
  refine va_callv (va_runI (As := []) (rest := .ref (ad1 n) :: .ref (ad k1) :: rest) S (hM ad1) ⟨cb, hyn, S.2.2.2.2 _ hyi⟩ ⟨ZPi_blind, ZPi_down hw1 hA⟩ rfl rfl hsz rfl (lv_room hro) d3 ⟨by omega, by omega⟩) hw1.2.2.2.1 (fun q _ h => h) (fun q h => h) (fun u t H2 locs2 ht hvm hp hB hsz2 hk hS => ?_)
  have eu : ∀ k, k < n ∨ 129 ≤ k → u k = ad k := fun k hk => (hp k (by omega)).trans (e1 k (by omega))
  have hE2 : ZE D cA u A s := ZE_eq (fun k hk => eu k (Or.inr hk)) hw.1
  have hgo : W p l e R s m args below meth c H2 locs2 (cells + 1 + mc) (slots + N + ms) Q (F0 m (pc + 7) ls (.ref (u n) :: .ref (u k1) :: rest)) := by
    refine PputF (k0 := n) S hE2 (by rw [← ht]; exact hB.1) hB.2 hS hn2.2 (by omega) hch hdk hj hck hink tyk htyk hnmk hj0 hl hfin hinit hdecl hdT hnr hfit d4 (fun H3 locs3 hP3 hD3 hS3 => ?_)
    rw [gto_in han (by omega), show max (n + 1) n2 = n2 by omega] at hP3 hD3
    refine kk u H3 locs3 eu ⟨hE2, hP3, hD3, hS3, hn2.2, fun k hk => ?_⟩
    have q1 := hw.2.2.2.2.2 k (by omega)
    unfold gto at q1 ⊢
    rw [if_neg (by omega)] at q1 ⊢
    exact q1
  rw [hp n (by omega), eu k1 (Or.inl hk1)] at hgo
  exact hgo
end POBJ
