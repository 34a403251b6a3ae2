/-! wells: what a way costs -/
def cH (z : ZI) (way h : Int) : Int := if sV z (hrW way) h < 0 then 1000 else sV z (hrW way) h
theorem cost_sum (z : ZI) (way : Int) : cost z way = sumR (fun h => cH z way h) (z 68 12).toNat := by
  have key : ∀ n : Nat, costR (z 72) (hrW way) (needF z) (goesF z) (z 96) (z 97) (z 68 12).toNat n = sumR (fun h => cH z way h) n := by
    intro n
    induction n with
    | zero => rfl
    | succ n ih =>
      rw [sumR_s, ← ih]
      rfl
  exact key _
theorem hourR_bg {bl bg bg2 : Int → Int} {hr : Int} : ∀ (l : List Int) (now : Int) (lk sv : Int → Int), (∀ h ∈ l, bg (bl h) = bg2 (bl h)) → hourR bl bg hr l now lk sv = hourR bl bg2 hr l now lk sv
  | [], _, _, _, _ => rfl
  | h :: t, now, lk, sv, e => by
    have e1 := e h List.mem_cons_self
    have e2 := fun x hx => e x (List.mem_cons_of_mem _ hx)
    by_cases c : hr < bg (bl h) ∨ lk h = 0
    · rw [hourR_skip c, hourR_skip (by rw [← e1]; exact c)]
      exact hourR_bg t now lk sv e2
    · by_cases c2 : now < lk h
      · rw [hourR_brk c c2, hourR_brk (by rw [← e1]; exact c) c2]
      · rw [hourR_srv c c2, hourR_srv (by rw [← e1]; exact c) c2]
        exact hourR_bg t _ _ _ e2
theorem dayR_bg {bl bg bg2 : Int → Int} {yi : Int} {l : List Int} (e : ∀ h ∈ l, bg (bl h) = bg2 (bl h)) : ∀ (n : Nat) (left : Int) (lk sv : Int → Int), dayR bl bg yi l n left lk sv = dayR bl bg2 yi l n left lk sv
  | 0, _, _, _ => rfl
  | n + 1, left, lk, sv => by
    rw [dayR_s, dayR_s, hourR_bg l (min left yi) lk sv e]
    exact dayR_bg e n _ _ _
theorem hourR_v {bl bg : Int → Int} {hr : Int} (h0 : 0 ≤ hr ∧ hr ≤ 23) : ∀ (l : List Int) (now : Int) (lk sv : Int → Int), (∀ h, sv h = -9 ∨ (0 ≤ sv h ∧ sv h ≤ 23)) → ∀ h, (hourR bl bg hr l now lk sv).2.2 h = -9 ∨ (0 ≤ (hourR bl bg hr l now lk sv).2.2 h ∧ (hourR bl bg hr l now lk sv).2.2 h ≤ 23)
  | [], _, _, _, hs => hs
  | x :: t, now, lk, sv, hs => by
    by_cases c : hr < bg (bl x) ∨ lk x = 0
    · rw [hourR_skip c]
      exact hourR_v h0 t now lk sv hs
    · by_cases c2 : now < lk x
      · rw [hourR_brk c c2]
        exact hs
      · rw [hourR_srv c c2]
        exact hourR_v h0 t _ _ _ (fun h => by
          unfold fupd
          by_cases e : h = x
          · rw [if_pos e]; omega
          · rw [if_neg e]; exact hs h)
theorem dayR_v {bl bg : Int → Int} {yi : Int} {l : List Int} : ∀ (n : Nat) (left : Int) (lk sv : Int → Int), n ≤ 23 → (∀ h, sv h = -9 ∨ (0 ≤ sv h ∧ sv h ≤ 23)) → ∀ h, dayR bl bg yi l n left lk sv h = -9 ∨ (0 ≤ dayR bl bg yi l n left lk sv h ∧ dayR bl bg yi l n left lk sv h ≤ 23)
  | 0, _, _, _, _, hs => hs
  | n + 1, left, lk, sv, hn, hs => by
    rw [dayR_s]
    exact dayR_v n _ _ _ (by omega) (hourR_v (by omega) l _ _ _ hs)
theorem sV_r {z : ZI} {bg : Int → Int} (hbg : ∀ b, 0 ≤ bg b ∧ bg b ≤ 23) (h : Int) : sV z bg h = -9 ∨ (0 ≤ sV z bg h ∧ sV z bg h ≤ 23) := by
  unfold sV srvH
  by_cases c : needF z h = 0
  · rw [if_pos c]
    have := hbg (z 72 h)
    omega
  · rw [if_neg c]
    by_cases c2 : goesF z h < 0
    · rw [if_pos c2]; exact Or.inl rfl
    · rw [if_neg c2]
      exact dayR_v 20 _ _ _ (by decide) (fun _ => Or.inl rfl) h
theorem cH_r {z : ZI} {way : Int} (hw : 0 ≤ way) (h : Int) : 0 ≤ cH z way h ∧ cH z way h ≤ 1000 := by
  have := sV_r (z := z) (bg := hrW way) (fun b => by have := hrW_r hw b; omega) h
  unfold cH
  split <;> omega
/-- without the lines of the wells from k on -/
def pcS (z : ZI) (k way : Int) : Int := sumR (fun h => if needF z h = 0 ∨ goesF z h < k then cH z way h else 0) (z 68 12).toNat
theorem lsm_line (f go nd : Int → Int) (w : Int) : ∀ n : Nat, lsm f (lineR go nd w n) = sumR (fun h => if go h = w ∧ nd h ≠ 0 then f h else 0) n
  | 0 => rfl
  | n + 1 => by
    have i := lsm_line f go nd w n
    have u : lineR go nd w (n + 1) = if go n = w ∧ nd n ≠ 0 then lineR go nd w n ++ [(n : Int)] else lineR go nd w n := rfl
    rw [sumR_s, ← i, u]
    by_cases c : go n = w ∧ nd n ≠ 0
    · rw [if_pos c, lsm_snoc, if_pos c]
    · rw [if_neg c, if_neg c, Int.add_zero]
theorem pcS_s (z : ZI) (k : Nat) (way : Int) : pcS z ((k + 1 : Nat) : Int) way = pcS z k way + lsm (cH z way) (lnS z k (z 68 12).toNat) := by
  have e := lsm_line (cH z way) (goesF z) (needF z) k (z 68 12).toNat
  have e2 : lnS z k (z 68 12).toNat = lineR (goesF z) (needF z) k (z 68 12).toNat := rfl
  rw [e2, e]
  unfold pcS
  rw [← sumR_add]
  refine sumR_cg _ (fun j hj => ?_)
  show (if needF z j = 0 ∨ goesF z j < ((k + 1 : Nat) : Int) then cH z way j else 0) = (if needF z j = 0 ∨ goesF z j < k then cH z way j else 0) + (if goesF z j = k ∧ needF z j ≠ 0 then cH z way j else 0)
  by_cases c1 : needF z j = 0
  · rw [if_pos (Or.inl c1), if_pos (Or.inl c1), if_neg (fun t => t.2 c1), Int.add_zero]
  · by_cases c2 : goesF z j < k
    · rw [if_pos (Or.inr (by omega)), if_pos (Or.inr c2), if_neg (fun t => by omega), Int.add_zero]
    · by_cases c3 : goesF z j = k
      · rw [if_pos (Or.inr (by omega)), if_neg (fun t => by rcases t with t | t <;> omega), if_pos ⟨c3, c1⟩, Int.zero_add]
      · rw [if_neg (fun t => by rcases t with t | t <;> omega), if_neg (fun t => by rcases t with t | t <;> omega), if_neg (fun t => c3 t.1)]
        rfl
theorem pcS_end {z : ZI} (hW : JW z) (way : Int) : pcS z (z 68 47) way = cost z way := by
  rw [cost_sum]
  refine sumR_cg _ (fun j hj => ?_)
  have r := goesF_r hW j
  have w0 := hW.2.1
  show (if needF z j = 0 ∨ goesF z j < z 68 47 then cH z way j else 0) = cH z way j
  rw [if_pos (Or.inr (by omega))]
theorem pcS_b {z : ZI} (hH : JH z) (k : Int) {way : Int} (hw : 0 ≤ way) : 0 ≤ pcS z k way ∧ pcS z k way ≤ 30000 := by
  have h30 := hH.2.1
  have a := sumR_nn (f := fun h : Nat => if needF z h = 0 ∨ goesF z h < k then cH z way h else 0) (z 68 12).toNat (fun j hj => by
    show 0 ≤ if needF z j = 0 ∨ goesF z j < k then cH z way j else 0
    have := cH_r (z := z) hw j
    split <;> omega)
  have b := sumR_mono (f := fun h : Nat => if needF z h = 0 ∨ goesF z h < k then cH z way h else 0) (g := fun _ => 1000) (z 68 12).toNat (fun j hj => by
    show (if needF z j = 0 ∨ goesF z j < k then cH z way j else 0) ≤ 1000
    have := cH_r (z := z) hw j
    split <;> omega)
  have c := sumR_k 1000 (z 68 12).toNat
  unfold pcS
  omega
theorem lsm_cH {z : ZI} {way : Int} (hw : 0 ≤ way) (l : List Int) : 0 ≤ lsm (cH z way) l ∧ lsm (cH z way) l ≤ 1000 * l.length :=
  ⟨lsm_nn (fun h => (cH_r hw h).1) l, lsm_le (fun h => (cH_r hw h).2) l⟩
/-- a way that begins alike in the line's blocks costs alike there -/
theorem lsm_same {z : ZI} {w v v2 : Int} {n : Nat} (e : ∀ h ∈ lnS z w n, hrW v (z 72 h) = hrW v2 (z 72 h)) (hn : (z 68 12).toNat = n) (hw : 0 ≤ w) : lsm (cH z v) (lnS z w n) = lsm (cH z v2) (lnS z w n) := by
  refine lsm_cg (fun h hh => ?_)
  have m := (lineR_mem (goesF z) (needF z) w n h).mp hh
  have es : sV z (hrW v) h = sV z (hrW v2) h := by
    unfold sV srvH srvW
    rw [if_neg m.2.2.2, if_neg m.2.2.2, if_neg (by omega), if_neg (by omega), m.2.2.1, hn]
    have e2 : ∀ x ∈ lineR (goesF z) (needF z) w n, hrW v (z 72 x) = hrW v2 (z 72 x) := e
    rw [dayR_bg e2]
  unfold cH
  rw [es]
theorem cH_mem {z : ZI} {w way h : Int} (hw : 0 ≤ w) (m : h ∈ lnS z w (z 68 12).toNat) : cH z way h = if dayR (z 72) (hrW way) (z 96 w) (lnS z w (z 68 12).toNat) 20 (z 97 w) (needF z) (fun _ => -9) h = -9 then 1000 else dayR (z 72) (hrW way) (z 96 w) (lnS z w (z 68 12).toNat) 20 (z 97 w) (needF z) (fun _ => -9) h := by
  have q := (lineR_mem (goesF z) (needF z) w (z 68 12).toNat h).mp m
  have es : sV z (hrW way) h = dayR (z 72) (hrW way) (z 96 w) (lnS z w (z 68 12).toNat) 20 (z 97 w) (needF z) (fun _ => -9) h := by
    unfold sV srvH srvW
    rw [if_neg q.2.2.2, if_neg (by omega), q.2.2.1]
    rfl
  have r := dayR_v (bl := z 72) (bg := hrW way) (yi := z 96 w) (l := lnS z w (z 68 12).toNat) 20 (z 97 w) (needF z) (fun _ => -9) (by decide) (fun _ => Or.inl rfl) h
  unfold cH
  rw [es]
  generalize dayR (z 72) (hrW way) (z 96 w) (lnS z w (z 68 12).toNat) 20 (z 97 w) (needF z) (fun _ => -9) h = v at *
  by_cases c : v = -9
  · rw [if_pos c, if_pos (by omega)]
  · rw [if_neg c, if_neg (by omega)]
