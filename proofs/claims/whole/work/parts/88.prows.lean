/-! rows over the memory while it is made -/
def gto (g : Nat → Bool) (a b : Nat) : Nat → Bool := fun k => if a ≤ k ∧ k < b then true else g k
theorem gto_0 (g : Nat → Bool) (a : Nat) : gto g a a = g := by
  funext k
  unfold gto
  rw [if_neg (by omega)]
theorem gup_to {g : Nat → Bool} {a b : Nat} (h : a ≤ b) : gup (gto g a b) b = gto g a (b + 1) := by
  funext k
  unfold gup gto
  by_cases c : k = b
  · rw [if_pos c, if_pos (by omega)]
  · rw [if_neg c]
    by_cases d : a ≤ k ∧ k < b
    · rw [if_pos d, if_pos (by omega)]
    · rw [if_neg d, if_neg (by omega)]
theorem gto_in {g : Nat → Bool} {a b c : Nat} (h : a < b) (h2 : b ≤ c) : gup (gto (gto g a b) (b + 1) c) b = gto g a (max (b + 1) c) := by
  funext k
  unfold gup gto
  by_cases c1 : k = b
  · rw [if_pos c1, if_pos (by omega)]
  · rw [if_neg c1]
    by_cases c2 : b + 1 ≤ k ∧ k < c
    · rw [if_pos c2, if_pos (by omega)]
    · rw [if_neg c2]
      by_cases c3 : a ≤ k ∧ k < b
      · rw [if_pos c3, if_pos (by omega)]
      · rw [if_neg c3, if_neg (by omega)]
def PW (D : va_G) (cA : Nat → ClassId) (ad : Nat → Nat) (A : Nat → Prop) (z : ZS) (g : Nat → Bool) (n : Nat) (s : State) (H : Heap) (locs : List Loc) : Prop := ZE D cA ad A s ∧ va_P D ZCL (Zqw cA ad z g n) H ∧ va_D A (Zqw cA ad z g n) ∧ va_S A s.heap H locs ∧ n ≤ 129 ∧ ∀ k, n ≤ k → g k = false
/-- a row's cell, as newarray makes it -/
def nwA (t len : Nat) : vp_A := if t = 3 then (len, .inr (.inl fun _ => 0)) else (if t = 4 then 0 else len, .inl fun _ => 0)
theorem Zenp_new {cA : Nat → ClassId} {ad : Nat → Nat} {z : ZS} {g : Nat → Bool} {n q t len : Nat} (h1 : z.1 n = fun _ => 0) (h2 : z.2 n = fun _ => 0) (h3 : z.1 200 n = 0) : Zenp cA (adk ad n q) z g n (.inr (t, len)) = (q, .inl (cA (if t = 4 then 0 else t), nwA t len)) := by
  have e4 : adk ad n q n = q := if_pos rfl
  simp only [Zenp, Zen, nwA]
  rw [e4, h1, h2, h3]
  by_cases c3 : t = 3
  · subst c3
    rfl
  · by_cases c4 : t = 4
    · subst c4
      rfl
    · rw [if_neg c3, if_neg c4, if_neg c4, if_neg c3, if_neg c4]
section PROWS
variable {p : Program} {l : Launch} {e : Env} {R : Room} {s : State} {m : MethodId} {args : Array Value} {below : List Frame} {meth : Method} {c : Code} {H : Heap} {locs : List Loc} {cells slots : Nat} {Q : State → Prop}
variable {cc : ByteArray} {nL pc : Nat} {ls : Array Slot} {rest : List Value} {own : String}
variable {D : va_G} {cA : Nat → ClassId} {ad : Nat → Nat} {A : Nat → Prop} {z : ZS} {g : Nat → Bool} {n : Nat}
theorem PW_push {q : Nat} {H1 : Heap} {d : ZD} (hw : PW D cA ad A z g n s H locs) (hd : ZDS[n]? = some d) {x : Nat × va_E} (hx : Zenp cA (adk ad n q) z g n d = x) (hP : va_P D ZCL (Zqw cA ad z g n ++ [x]) H1) (hD : va_D A (Zqw cA ad z g n ++ [x])) (hS : va_S A s.heap H1 locs) : ZE D cA (adk ad n q) A s ∧ va_P D ZCL (Zqw cA (adk ad n q) z g (n + 1)) H1 ∧ va_D A (Zqw cA (adk ad n q) z g (n + 1)) ∧ va_S A s.heap H1 locs := by
  have hn := ZDS_lt hd
  rw [Zqw_push hd (hw.2.2.2.2.2 n (Nat.le_refl n)), hx]
  exact ⟨ZE_adk hn hw.1, hP, hD, hS⟩
/-- newarray of cell n -/
theorem Pnewa {t len : Nat} {aty : ArrayType} {ty : FieldType} {i : Nat} (S : CallFix p m c cc nL s args Ztbl own) (hw : PW D cA ad A z g n s H locs) (hA : ∀ q, s.heap.size ≤ q → A q) (hd : ZDS[n]? = some (.inr (t, len))) (h1 : z.1 n = fun _ => 0) (h2 : z.2 n = fun _ => 0) (h3 : z.1 200 n = 0) (hac : Cond.arrayClass (newarray.typeOf aty) ∈ Ztbl) (hty : newarray.typeOf aty = ty) (hti : ∀ cA, (Ztys cA)[i]? = some (cA (if t = 4 then 0 else t), ty)) (hra : ∀ (U : State) (c2 : ClassId), va_RA U c2 ty → U.vm.findClass ("[" ++ ty.toString) = some c2) {v : Int32} {N : Nat} (ha : ∀ c2 : ClassId, vp_cell c2 (nwA t len) = arrV c2 N (fun _ => defaultValue ty)) (hv : ¬ v < 0) (hN : v.toNatClampNeg = N) (hby : N * componentBytes ty ≤ 536870912) (hcs : cells + 1 ≤ R.cells ∧ slots + N ≤ R.slots) (hdg : decode cc pc = .ok (.newarray aty, 2))
    (kk : ∀ (q : Nat) (H1 : Heap), ZE D cA (adk ad n q) A s → va_P D ZCL (Zqw cA (adk ad n q) z g (n + 1)) H1 → va_D A (Zqw cA (adk ad n q) z g (n + 1)) → va_S A s.heap H1 locs → W p l e R s m args below meth c H1 locs (cells + 1) (slots + N) Q (F0 m (pc + 2) ls (.ref q :: rest))) : W p l e R s m args below meth c H locs cells slots Q (F0 m pc ls (.int v :: rest)) := by
  refine va_newa (a0 := nwA t len) (N' := N) S.1 S.2.1 (S.2.2.2.2 _ hac) hty hw.1.1 hw.2.1 hw.2.2.1 hw.2.2.2.1 hA ha hv hN hby hcs.1 hcs.2 hdg (fun q cA2 H1 hK1 hP1 hD1 hS1 => ?_)
  have hcA : cA2 = cA (if t = 4 then 0 else t) := by
    have a := hra s _ (hK1.2 4 (cA2, ty) rfl).2
    have b := hra s _ (hw.1.1.2 i (cA (if t = 4 then 0 else t), ty) (hti cA)).2
    exact Option.some.inj (a.symm.trans b)
  subst hcA
  obtain ⟨a1, a2, a3, a4⟩ := PW_push (q := q) hw hd (Zenp_new h1 h2 h3) hP1 hD1 hS1
  exact kk q H1 a1 a2 a3 a4
end PROWS
