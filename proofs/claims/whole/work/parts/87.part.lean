/-! the memory while it is made: the first n cells, a field holds its row where g says so -/
def Zfvp (g : Nat → Bool) (ad : Nat → Nat) (f : Nat → Int32) (fk : List (Option Nat)) : List Value := fk.mapIdx (fun j o => match o with
  | none => .int (f j)
  | some k => if g k = true then .ref (ad k) else .null)
def Zenp (cA : Nat → ClassId) (ad : Nat → Nat) (z : ZS) (g : Nat → Bool) (k : Nat) (d : ZD) : Nat × va_E := (ad k, match d with
  | .inl q => .inr (q.1, Zfvp g ad (z.1 k) q.2)
  | .inr q => (Zen cA ad z k (.inr q)).2)
def Zqw (cA : Nat → ClassId) (ad : Nat → Nat) (z : ZS) (g : Nat → Bool) (n : Nat) : va_W := (ZDS.take n).mapIdx (fun k d => Zenp cA ad z g k d)
theorem Zqw_get {cA : Nat → ClassId} {ad : Nat → Nat} {z : ZS} {g : Nat → Bool} {n k : Nat} {d : ZD} (h : ZDS[k]? = some d) (hk : k < n) : (Zqw cA ad z g n)[k]? = some (Zenp cA ad z g k d) := by
  simp [Zqw, List.getElem?_mapIdx, List.getElem?_take, hk, h]
theorem Zqw_none {cA : Nat → ClassId} {ad : Nat → Nat} {z : ZS} {g : Nat → Bool} {n k : Nat} (hk : n ≤ k) : (Zqw cA ad z g n)[k]? = none := by
  simp [Zqw, List.getElem?_mapIdx, List.getElem?_take, Nat.not_lt.mpr hk]
theorem Zqw_of {cA : Nat → ClassId} {ad : Nat → Nat} {z : ZS} {g : Nat → Bool} {n k : Nat} {q : Nat × va_E} (h : (Zqw cA ad z g n)[k]? = some q) : ∃ d, k < n ∧ ZDS[k]? = some d ∧ q = Zenp cA ad z g k d := by
  by_cases hk : k < n
  · cases hd : ZDS[k]? with
    | none => simp [Zqw, List.getElem?_mapIdx, List.getElem?_take, hk, hd] at h
    | some d =>
      rw [Zqw_get hd hk] at h
      exact ⟨d, hk, rfl, (Option.some.inj h).symm⟩
  · rw [Zqw_none (by omega)] at h
    cases h
theorem Zqw_len {cA : Nat → ClassId} {ad : Nat → Nat} {z : ZS} {g : Nat → Bool} {n : Nat} (h : n ≤ 129) : (Zqw cA ad z g n).length = n := by
  simp [Zqw, ZDS_len]
  omega
theorem Zfvp_len {g : Nat → Bool} {ad : Nat → Nat} {f : Nat → Int32} {fk : List (Option Nat)} : (Zfvp g ad f fk).length = fk.length := by simp [Zfvp]
theorem Zfvp_all {g : Nat → Bool} {ad : Nat → Nat} {f : Nat → Int32} {fk : List (Option Nat)} (h : ∀ k, some k ∈ fk → g k = true) : Zfvp g ad f fk = Zfv ad f fk := by
  apply List.ext_getElem?
  intro j
  simp only [Zfvp, Zfv, List.getElem?_mapIdx]
  cases hj : fk[j]? with
  | none => rfl
  | some o => cases o with
    | none => rfl
    | some k => simp [h k (List.mem_of_getElem? hj)]
/-- all made: the memory of the walks -/
theorem Zqw_full {cA : Nat → ClassId} {ad : Nat → Nat} {z : ZS} {g : Nat → Bool} (h : ∀ k, k < 129 → k ≠ 0 → k ≠ 68 → g k = true) (hin : ∀ (k ci : Nat) (fk : List (Option Nat)) (j : Nat), ZDS[k]? = some (.inl (ci, fk)) → some j ∈ fk → j < 129 ∧ j ≠ 0 ∧ j ≠ 68) : Zqw cA ad z g 129 = Zws cA ad z := by
  apply List.ext_getElem?
  intro k
  by_cases hk : k < 129
  · have hk' : k < ZDS.length := by rw [ZDS_len]; exact hk
    have hd : ZDS[k]? = some ZDS[k] := List.getElem?_eq_getElem hk'
    rw [Zqw_get hd hk, Zws_get hd]
    generalize ZDS[k] = d at hd
    cases d with
    | inl c =>
      obtain ⟨ci, fk⟩ := c
      simp only [Zenp, Zen]
      rw [Zfvp_all (fun j hj => h j (hin k ci fk j hd hj).1 (hin k ci fk j hd hj).2.1 (hin k ci fk j hd hj).2.2)]
    | inr c => rfl
  · rw [Zqw_none (by omega)]
    cases hq : (Zws cA ad z)[k]? with
    | none => rfl
    | some q =>
      obtain ⟨d, hd, -⟩ := Zws_of hq
      exact absurd (ZDS_lt hd) hk
theorem Zfvp_ad {g : Nat → Bool} {ad : Nat → Nat} {n q : Nat} {f : Nat → Int32} {fk : List (Option Nat)} (h : g n = false) : Zfvp g (adk ad n q) f fk = Zfvp g ad f fk := by
  apply List.ext_getElem?
  intro j
  simp only [Zfvp, List.getElem?_mapIdx]
  cases hj : fk[j]? with
  | none => rfl
  | some o => cases o with
    | none => rfl
    | some k =>
      by_cases hk : k = n
      · subst hk
        simp [h]
      · simp [adk, hk]
/-- one more cell -/
theorem Zqw_push {cA : Nat → ClassId} {ad : Nat → Nat} {z : ZS} {g : Nat → Bool} {n q : Nat} {d : ZD} (hd : ZDS[n]? = some d) (hg : g n = false) : Zqw cA (adk ad n q) z g (n + 1) = Zqw cA ad z g n ++ [Zenp cA (adk ad n q) z g n d] := by
  have hn := ZDS_lt hd
  have hlen := Zqw_len (cA := cA) (ad := ad) (z := z) (g := g) (n := n) (by omega)
  apply List.ext_getElem?
  intro k
  by_cases h1 : k < n
  · have hk' : k < ZDS.length := by rw [ZDS_len]; omega
    have hdk : ZDS[k]? = some ZDS[k] := List.getElem?_eq_getElem hk'
    rw [List.getElem?_append_left (by omega), Zqw_get hdk (by omega), Zqw_get hdk h1]
    have e4 : adk ad n q k = ad k := if_neg (by omega)
    generalize ZDS[k] = dk
    cases dk with
    | inl c => simp only [Zenp, e4, Zfvp_ad hg]
    | inr c => simp only [Zenp, Zen, e4]
  · by_cases h2 : k = n
    · subst h2
      rw [Zqw_get hd (by omega), List.getElem?_append_right (by omega), hlen, Nat.sub_self]
      rfl
    · rw [Zqw_none (by omega), List.getElem?_append_right (by omega), hlen]
      rw [List.getElem?_eq_none]
      simp
      omega
def gup (g : Nat → Bool) (k0 : Nat) : Nat → Bool := fun k => if k = k0 then true else g k
/-- a row's place: field j0 of the object in cell k1, and nowhere else -/
def chq (k0 k1 j0 : Nat) : Bool := (List.range 129).all (fun k => match ZDS[k]? with
  | some (.inl q) => (List.range q.2.length).all (fun j => !(q.2[j]? == some (some k0)) || (k == k1 && j == j0))
  | _ => true)
theorem chq_at {k0 k1 j0 k ci j : Nat} {fk : List (Option Nat)} (h : chq k0 k1 j0 = true) (hd : ZDS[k]? = some (.inl (ci, fk))) (hj : fk[j]? = some (some k0)) : k = k1 ∧ j = j0 := by
  have hlt := ZDS_lt hd
  have a := List.all_eq_true.mp h k (List.mem_range.mpr hlt)
  rw [hd] at a
  have b := List.all_eq_true.mp a j (List.mem_range.mpr (List.getElem?_eq_some_iff.mp hj).1)
  simpa [hj] using b
theorem Zqw_set {cA : Nat → ClassId} {ad : Nat → Nat} {z : ZS} {g : Nat → Bool} {n k0 k1 j0 ci : Nat} {fk : List (Option Nat)} (h : chq k0 k1 j0 = true) (hd : ZDS[k1]? = some (.inl (ci, fk))) (hj : fk[j0]? = some (some k0)) (hn : k1 < n) (hn2 : n ≤ 129) : (Zqw cA ad z g n).set k1 (ad k1, .inr (ci, (Zfvp g ad (z.1 k1) fk).set j0 (.ref (ad k0)))) = Zqw cA ad z (gup g k0) n := by
  have hlen := Zqw_len (cA := cA) (ad := ad) (z := z) (g := g) hn2
  apply List.ext_getElem?
  intro k
  by_cases h1 : k = k1
  · subst h1
    rw [List.getElem?_set_self (by omega), Zqw_get hd hn]
    simp only [Zenp]
    congr 4
    apply List.ext_getElem?
    intro j
    by_cases hjj : j = j0
    · subst hjj
      rw [List.getElem?_set_self (by rw [Zfvp_len]; exact (List.getElem?_eq_some_iff.mp hj).1)]
      simp [Zfvp, List.getElem?_mapIdx, hj, gup]
    · rw [List.getElem?_set_ne (Ne.symm hjj)]
      simp only [Zfvp, List.getElem?_mapIdx]
      cases ho : fk[j]? with
      | none => rfl
      | some o => cases o with
        | none => rfl
        | some k2 =>
          have hk : k2 ≠ k0 := fun e => hjj (chq_at h hd (e ▸ ho)).2
          simp [gup, hk]
  · rw [List.getElem?_set_ne (Ne.symm h1)]
    by_cases h2 : k < n
    · have hk' : k < ZDS.length := by rw [ZDS_len]; omega
      have hdk : ZDS[k]? = some ZDS[k] := List.getElem?_eq_getElem hk'
      rw [Zqw_get hdk h2, Zqw_get hdk h2]
      generalize ZDS[k] = dk at hdk
      cases dk with
      | inl c =>
        obtain ⟨ci2, fk2⟩ := c
        simp only [Zenp]
        congr 4
        apply List.ext_getElem?
        intro j
        simp only [Zfvp, List.getElem?_mapIdx]
        cases ho : fk2[j]? with
        | none => rfl
        | some o => cases o with
          | none => rfl
          | some k2 =>
            have hk : k2 ≠ k0 := fun e => h1 (chq_at h hdk (e ▸ ho)).1
            simp [gup, hk]
      | inr c => rfl
    · rw [Zqw_none (by omega), Zqw_none (by omega)]
def chi : Bool := (List.range 129).all (fun k => match ZDS[k]? with
  | some (.inl q) => q.2.all (fun o => match o with
    | some j => decide (j < 129 ∧ j ≠ 0 ∧ j ≠ 68)
    | none => true)
  | _ => true)
theorem chi_t : chi = true := by decide +kernel
theorem Zin129 (k ci : Nat) (fk : List (Option Nat)) (j : Nat) (hd : ZDS[k]? = some (.inl (ci, fk))) (hj : some j ∈ fk) : j < 129 ∧ j ≠ 0 ∧ j ≠ 68 := by
  have a := List.all_eq_true.mp chi_t k (List.mem_range.mpr (ZDS_lt hd))
  rw [hd] at a
  have b := List.all_eq_true.mp a (some j) hj
  simpa using b
