/-! words for what the methods answer -/
def rng (v l m : Int) : Int := if v < l then -4 else if m < v then -6 else 0
def zR (z : ZI) (w : Int) : ZI := Zup z 1 (-w) (z 1 (-w) + 1)
def mR (z : ZI) (w : Int) : ZI := Zup z 69 (-w) (z 69 (-w) + 1)
theorem zR_k {z : ZI} {w : Int} {k : Nat} (h : k ≠ 1) : zR z w k = z k := Zup_k h
theorem mR_k {z : ZI} {w : Int} {k : Nat} (h : k ≠ 69) : mR z w k = z k := Zup_k h
theorem zR_d (z : ZI) (w : Int) (k : Nat) (i : Int) : zR z w k i = if k = 1 ∧ i = -w then z 1 (-w) + 1 else z k i := rfl
theorem mR_d (z : ZI) (w : Int) (k : Nat) (i : Int) : mR z w k i = if k = 69 ∧ i = -w then z 69 (-w) + 1 else z k i := rfl
theorem Zup_d (z : ZI) (k : Nat) (i v : Int) (k' : Nat) (i' : Int) : Zup z k i v k' i' = if k' = k ∧ i' = i then v else z k' i' := rfl
/-- the first place from k on, of n, where a is c; -9 -/
def srch (a : Int → Int) (c : Int) : Nat → Int → Int
  | 0, _ => -9
  | n + 1, k => if a k = c then k else srch a c n (k + 1)
/-- the last of the first n where a is c; -9 -/
def srchL (a : Int → Int) (c : Int) : Nat → Int
  | 0 => -9
  | n + 1 => if a n = c then n else srchL a c n
def stR (sp sd sa : Int → Int) (p d : Int) : Nat → Int
  | 0 => 0
  | n + 1 => if sp n = p ∧ sd n ≤ d then sa n else stR sp sd sa p d n
def stOn (ca sp sd sa : Int → Int) (n p d : Int) : Int := if d < ca p then -9 else stR sp sd sa p d n.toNat
def stF (z : ZI) : Int → Int → Int := stOn (z 76) (z 77) (z 79) (z 78) (z 68 14)
theorem stF_d (z : ZI) (p d : Int) : stF z p d = if d < z 76 p then -9 else stR (z 77) (z 79) (z 78) p d (z 68 14).toNat := rfl
def deadR (sp sa : Int → Int) (p : Int) : Nat → Int
  | 0 => 0
  | n + 1 => if deadR sp sa p n = 0 then (if sp n = p ∧ sa n = 4 then 1 else 0) else 1
def hereR (ph : Int → Int) (st : Int → Int → Int) (h d : Int) : Nat → Int
  | 0 => 0
  | n + 1 => hereR ph st h d n + (if ph n = h ∧ (st n d = 0 ∨ st n d = 2) then 1 else 0)
theorem hereR_s (ph : Int → Int) (st : Int → Int → Int) (h d : Int) (n : Nat) : hereR ph st h d (n + 1) = hereR ph st h d n + (if ph n = h ∧ (st n d = 0 ∨ st n d = 2) then 1 else 0) := rfl
def hereH (z : ZI) (h d : Int) : Int := hereR (z 73) (stF z) h d (z 68 13).toNat
/-! cells -/
def farS (a b : Int) : Int := jabs (a % 12 - b % 12) + jabs (a / 12 - b / 12)
/-- the nearest well among the first n; -9 -/
def nearR (wc : Int → Int) (c : Int) : Nat → Int
  | 0 => -9
  | n + 1 => if nearR wc c n < 0 ∨ farS c (wc n) < farS c (wc (nearR wc c n)) then n else nearR wc c n
/-- one step of looking for the lowest: to is beside c -/
def lowr (ht : Int → Int) (c best to : Int) : Int := if ht to < ht c ∧ (best < 0 ∨ ht to < ht best) then to else best
def dn1 (ht : Int → Int) (c : Int) : Int := if c < 12 then -9 else lowr ht c (-9) (c - 12)
def dn2 (ht : Int → Int) (c : Int) : Int := if c % 12 ≤ 0 then dn1 ht c else lowr ht c (dn1 ht c) (c - 1)
def dn3 (ht : Int → Int) (c : Int) : Int := if 11 ≤ c % 12 then dn2 ht c else lowr ht c (dn2 ht c) (c + 1)
def dnH (ht : Int → Int) (c : Int) : Int := if 132 ≤ c then dn3 ht c else lowr ht c (dn3 ht c) (c + 12)
/-! wells -/
def fupd (f : Int → Int) (i v : Int) : Int → Int := fun j => if j = i then v else f j
def hourR (bl bg : Int → Int) (hr : Int) : List Int → Int → (Int → Int) → (Int → Int) → Int × (Int → Int) × (Int → Int)
  | [], now, lk, sv => (now, lk, sv)
  | h :: t, now, lk, sv =>
    if hr < bg (bl h) ∨ lk h = 0 then hourR bl bg hr t now lk sv
    else if now < lk h then (0, fupd lk h (lk h - now), sv)
    else hourR bl bg hr t (now - lk h) (fupd lk h 0) (fupd sv h hr)
/-- the last n hours of a day -/
def dayR (bl bg : Int → Int) (yi : Int) (l : List Int) : Nat → Int → (Int → Int) → (Int → Int) → (Int → Int)
  | 0, _, _, sv => sv
  | n + 1, left, lk, sv => dayR bl bg yi l n (left - (min left yi - (hourR bl bg (23 - n) l (min left yi) lk sv).1)) (hourR bl bg (23 - n) l (min left yi) lk sv).2.1 (hourR bl bg (23 - n) l (min left yi) lk sv).2.2
/-- the line at a well: of the first n houses -/
def lineR (go nd : Int → Int) (w : Int) : Nat → List Int
  | 0 => []
  | n + 1 => if go n = w ∧ nd n ≠ 0 then lineR go nd w n ++ [(n : Int)] else lineR go nd w n
def srvW (bl bg nd go yi de : Int → Int) (nh : Nat) (w : Int) : Int → Int := dayR bl bg (yi w) (lineR go nd w nh) 20 (de w) nd (fun _ => -9)
/-- the hour in which a house is served; -9 -/
def srvH (bl bg nd go yi de : Int → Int) (nh : Nat) (h : Int) : Int := if nd h = 0 then bg (bl h) else if go h < 0 then -9 else srvW bl bg nd go yi de nh (go h) h
def costR (bl bg nd go yi de : Int → Int) (nh : Nat) : Nat → Int
  | 0 => 0
  | n + 1 => costR bl bg nd go yi de nh n + (if srvH bl bg nd go yi de nh n < 0 then 1000 else srvH bl bg nd go yi de nh n)
def hrW (way b : Int) : Int := 6 + (way / (if b = 0 then 512 else if b = 1 then 64 else if b = 2 then 8 else 1)) % 8
def costW (bl nd go yi de : Int → Int) (nh : Nat) (way : Int) : Int := costR bl (hrW way) nd go yi de nh nh
def needF (z : ZI) : Int → Int := fun h => 5 * hereH z h (z 68 11)
def goesF (z : ZI) : Int → Int := fun h => nearR (z 95) (z 71 h) (z 68 47).toNat
def cost (z : ZI) (way : Int) : Int := costW (z 72) (needF z) (goesF z) (z 96) (z 97) (z 68 12).toNat way
/-- of all ways the first of the least -/
def isBest (f : Int → Int) (w : Int) : Prop := 0 ≤ w ∧ w < 4096 ∧ (∀ v, 0 ≤ v → v < 4096 → f w ≤ f v) ∧ (∀ v, 0 ≤ v → v < w → f w < f v)
/-! texts: what the reference's reading does, on the bytes a, n of them -/
def sgA (a : Int → Int) (n t : Int) : Int := if n ≤ t then -1 else a t
abbrev isLet (b : Int) : Prop := b = 110 ∨ b = 107 ∨ b = 111 ∨ b = 115 ∨ b = 100 ∨ b = 97 ∨ b = 116 ∨ b = 99
abbrev isDig (b : Int) : Prop := 48 ≤ b ∧ b ≤ 57
abbrev isCmp (b : Int) : Prop := b = 60 ∨ b = 61 ∨ b = 62
abbrev isOp (b : Int) : Prop := b = 43 ∨ b = 45 ∨ b = 42 ∨ b = 47
def dgR (a : Int → Int) (n : Int) : Nat → Int → Int
  | 0, t => t
  | k + 1, t => if isDig (sgA a n t) then dgR a n k (t + 1) else t
def bitT (c d : Int) : Int := jand (jshr c d) 1
def bitS (c d : Int) : Int := jor c (jshl 1 d)
def bitC (c d : Int) : Int := jand c (jxor (jshl 1 d) (-1))
/-- mode 0: a unit is due; mode 1: behind one -/
def paM (a : Int → Int) (n : Int) : Nat → Int → Int → Int → Int → Int × Int
  | 0, _, t, _, _ => (0, t)
  | f + 1, m, t, d, c =>
    if m = 0 then
      if sgA a n t = 40 then (if d = 5 then (0, t) else paM a n f 0 (t + 1) (d + 1) (bitC c (d + 1)))
      else if isLet (sgA a n t) then paM a n f 1 (t + 1) d c
      else if isDig (sgA a n t) then paM a n f 1 (dgR a n 4 t) d c
      else (0, t)
    else
      if sgA a n t = 41 ∧ 0 < d then paM a n f 1 (t + 1) (d - 1) c
      else if sgA a n t = -1 ∧ d = 0 then (1, t)
      else if isCmp (sgA a n t) ∧ 0 < d ∧ bitT c d = 0 then paM a n f 0 (t + 1) d (bitS c d)
      else if isOp (sgA a n t) then paM a n f 0 (t + 1) d c
      else (0, t)
def sgn8 (b : Int) : Int := if 128 ≤ b then b - 256 else b
/-! the invariant: class and reference hold alike -/
def JD (z : ZI) : Prop := z 0 0 = z 68 11 ∧ 0 ≤ z 68 11 ∧ z 68 11 ≤ 999
def JN (n : Int) (z : ZI) : Prop := ∀ i, 1 ≤ i → i ≤ 6 → z 1 i = z 69 i ∧ 0 ≤ z 69 i ∧ z 69 i ≤ n
def JH (z : ZI) : Prop := 0 ≤ z 68 12 ∧ z 68 12 ≤ 30 ∧ z 11 0 = z 68 12 ∧
  (∀ h, 0 ≤ h → h < z 68 12 → z 12 h = z 71 h ∧ 0 ≤ z 71 h ∧ z 71 h < 144 ∧ z 13 h = z 72 h ∧ 0 ≤ z 72 h ∧ z 72 h ≤ 3) ∧
  (∀ h g, 0 ≤ h → h < z 68 12 → 0 ≤ g → g < z 68 12 → z 71 h = z 71 g → h = g) ∧
  (∀ c, 0 ≤ c → c < 144 → z 14 c = srch (z 71) c (z 68 12).toNat 0)
def JP (z : ZI) : Prop := 0 ≤ z 68 13 ∧ z 68 13 ≤ 60 ∧ z 11 4 = z 68 13 ∧
  (∀ p, 0 ≤ p → p < z 68 13 → z 15 p = z 73 p ∧ 0 ≤ z 73 p ∧ z 73 p < z 68 12 ∧ z 16 p = z 74 p ∧ -36500 ≤ z 74 p ∧ z 74 p ≤ z 68 11 ∧ z 17 p = z 75 p ∧ 0 ≤ z 75 p ∧ z 75 p ≤ 5 ∧ z 18 p = z 76 p ∧ 0 ≤ z 76 p ∧ z 76 p ≤ z 68 11)
def JS (z : ZI) : Prop := 0 ≤ z 68 14 ∧ z 68 14 ≤ 150 ∧ z 11 10 = z 68 14 ∧
  (∀ k, 0 ≤ k → k < z 68 14 → 0 ≤ z 77 k ∧ z 77 k < z 68 13 ∧ z 21 k = z 78 k ∧ 0 ≤ z 78 k ∧ z 78 k ≤ 4 ∧ z 20 k = z 79 k ∧ 0 ≤ z 79 k ∧ z 79 k ≤ z 68 11) ∧
  (∀ p, 0 ≤ p → p < z 68 13 → z 19 p = srchL (z 77) p (z 68 14).toNat) ∧
  (∀ k : Nat, (k : Int) < z 68 14 → z 22 k = srchL (z 77) (z 77 k) k) ∧
  (∀ k l, 0 ≤ k → k < l → l < z 68 14 → z 78 k = 4 → z 77 l ≠ z 77 k)
def JL (z : ZI) : Prop := ∀ c, 0 ≤ c → c < 144 → z 3 c = z 70 c ∧ 0 ≤ z 70 c ∧ z 70 c ≤ 99
def JT (z : ZI) : Prop := z 2 2 = z 68 61 ∧ 0 ≤ z 68 61 ∧ z 68 61 ≤ 14 ∧
  (∀ k, 0 ≤ k → k < z 68 61 → 0 ≤ z 108 k ∧ z 108 k < 144 ∧ 1 ≤ z 109 k ∧ z 109 k ≤ 99999) ∧
  (∀ c, 0 ≤ c → c < 144 → 0 ≤ z 4 c ∧ ∀ w, (0 < z 4 c ∧ z 4 c ≤ w) ↔ ∃ k, 0 ≤ k ∧ k < z 68 61 ∧ z 108 k = c ∧ z 109 k ≤ w)
def JE (z : ZI) : Prop := z 2 4 = z 68 62 ∧ 0 ≤ z 68 62 ∧ z 68 62 ≤ 10 ∧
  (∀ k, 0 ≤ k → k < z 68 62 → 0 ≤ z 110 k ∧ z 110 k < 144) ∧
  (∀ k l, 0 ≤ k → k < z 68 62 → 0 ≤ l → l < z 68 62 → z 110 k = z 110 l → k = l) ∧
  (∀ c, 0 ≤ c → c < 144 → z 5 c = srch (z 110) c (z 68 62).toNat 0)
def JV (z : ZI) : Prop := z 2 8 = 0 ∨ (z 2 8 = 1 ∧ (∀ c, 0 ≤ c → c < 144 → z 6 c = dnH (z 3) c) ∧
  (∀ i, 0 ≤ i → i < 144 → 0 ≤ z 7 i ∧ z 7 i < 144) ∧
  (∀ i j, 0 ≤ i → i < 144 → 0 ≤ j → j < 144 → z 7 i = z 7 j → i = j) ∧
  (∀ i j, 0 ≤ i → i < j → j < 144 → z 3 (z 7 j) ≤ z 3 (z 7 i)))
def JA (z : ZI) : Prop := z 24 1 = z 68 21 ∧ 0 ≤ z 68 21 ∧ z 68 21 ≤ 60 ∧
  (∀ i, 0 ≤ i → i < z 68 21 → 0 ≤ z 80 i ∧ z 80 i ≤ 255 ∧ z 25 i = sgn8 (z 80 i))
def JU (z : ZI) : Prop := z 24 2 = z 68 22 ∧ 0 ≤ z 68 22 ∧ z 68 22 ≤ 30 ∧
  (∀ r, 0 ≤ r → r < z 68 22 → z 28 r = z 83 r ∧ z 29 r = z 84 r ∧ z 27 r = z 82 r ∧ 0 ≤ z 82 r ∧ z 82 r ≤ 60 ∧
    (∀ i, 0 ≤ i → i < z 82 r → 0 ≤ z 81 (60 * r + i) ∧ z 81 (60 * r + i) ≤ 255 ∧ z 26 (60 * r + i) = sgn8 (z 81 (60 * r + i))) ∧
    (paM (fun i => z 81 (60 * r + i)) (z 82 r) 200 0 0 0 0).1 = 1)
def JC (z : ZI) : Prop := z 33 0 = z 68 34 ∧ 0 ≤ z 68 34 ∧ z 68 34 ≤ 40 ∧
  (∀ c, 0 ≤ c → c < z 68 34 → z 34 c = z 88 c ∧ 0 ≤ z 88 c ∧ z 88 c < z 68 12 ∧ z 35 c = z 89 c ∧ 0 ≤ z 89 c ∧ z 89 c ≤ z 68 11 ∧
    ((z 36 c = -9 ∧ z 90 c = -1) ∨ (z 36 c = z 90 c ∧ 0 ≤ z 90 c ∧ z 90 c ≤ z 68 11)))
def JK (z : ZI) : Prop := z 37 0 = z 68 35 ∧ 0 ≤ z 68 35 ∧ z 68 35 ≤ 60 ∧
  (∀ k, 0 ≤ k → k < z 68 35 → z 38 k = z 91 k ∧ 0 ≤ z 91 k ∧ z 91 k ≤ z 68 11 ∧ z 39 k = z 92 k ∧ 1 ≤ z 92 k ∧ z 92 k ≤ 9999 ∧ z 40 k = z 93 k ∧ 0 ≤ z 93 k ∧ z 93 k ≤ 9999) ∧
  (∀ k l, 0 ≤ k → k < l → l < z 68 35 → z 91 k ≤ z 91 l)
def JW (z : ZI) : Prop := z 41 0 = z 68 47 ∧ 0 ≤ z 68 47 ∧ z 68 47 ≤ 6 ∧
  (∀ w, 0 ≤ w → w < z 68 47 → z 42 w = z 95 w ∧ 0 ≤ z 95 w ∧ z 95 w < 144 ∧ z 43 w = z 96 w ∧ 1 ≤ z 96 w ∧ z 96 w ≤ 99 ∧ z 44 w = z 97 w ∧ 1 ≤ z 97 w ∧ z 97 w ≤ 9999) ∧
  (∀ b, 0 ≤ b → b ≤ 3 → z 45 b = z 98 b ∧ 4 ≤ z 98 b ∧ z 98 b ≤ 20)
def JB (z : ZI) : Prop := ((z 200 52 = 0 ∧ z 200 53 = 0) ∨ (z 200 52 = 4096 ∧ z 200 53 = 4096)) ∧
  (z 41 14 = 0 ∨ (z 41 14 = 1 ∧ z 200 52 = 4096 ∧ isBest (cost z) (z 41 15) ∧ z 52 (z 41 15) = cost z (z 41 15)))
/-- what the reference found last, and by what -/
def JG (z : ZI) : Prop := z 68 53 = 0 ∨ (z 68 53 = 1 ∧ ∃ (nh nw : Nat) (bl nd go yi de : Int → Int) (w : Int), nh ≤ 30 ∧ nw ≤ 6 ∧
  (∀ h : Nat, h < 30 → z 107 (2 * h) = (if h < nh then (nd h * 8 + go h + 2) * 8 + bl h else -9) ∧ z 107 (2 * h + 1) = (if h < nh then nd h else -9)) ∧
  (∀ k : Nat, k < 6 → z 107 (60 + k) = (if k < nw then 10000 * yi k + de k else -9)) ∧
  (∀ h : Nat, h < nh → 0 ≤ nd h ∧ nd h ≤ 300 ∧ -9 ≤ go h ∧ go h < nw ∧ 0 ≤ bl h ∧ bl h ≤ 3) ∧
  (∀ k : Nat, k < nw → 1 ≤ yi k ∧ yi k ≤ 99 ∧ 1 ≤ de k ∧ de k ≤ 9999) ∧
  isBest (costW bl nd go yi de nh) w ∧ (∀ b, 0 ≤ b → b ≤ 3 → z 104 b = hrW w b) ∧ z 68 48 = costW bl nd go yi de nh w / 1000 ∧ z 68 49 = costW bl nd go yi de nh w % 1000)
def JX (z : ZI) : Prop := z 54 0 = z 68 70 ∧ 0 ≤ z 68 70 ∧ z 68 70 ≤ 8 ∧
  (∀ k, 0 ≤ k → k < z 68 70 → 0 ≤ z 116 k ∧ z 116 k < z 68 12) ∧
  (∀ k l, 0 ≤ k → k < z 68 70 → 0 ≤ l → l < z 68 70 → z 116 k = z 116 l → k = l) ∧
  (∀ h, 0 ≤ h → h < 30 → z 55 h = srch (z 116) h (z 68 70).toNat 0)
def JQ (z : ZI) : Prop := z 59 0 = z 68 78 ∧ 0 ≤ z 68 78 ∧ z 68 78 ≤ 60 ∧
  (∀ k, 0 ≤ k → k < z 68 78 → z 60 k = z 122 k ∧ 0 ≤ z 122 k ∧ z 122 k < z 68 13) ∧
  (∀ k l, 0 ≤ k → k < z 68 78 → 0 ≤ l → l < z 68 78 → z 122 k = z 122 l → k = l)
def JO (z : ZI) : Prop := z 63 0 = z 68 79 ∧ 0 ≤ z 68 79 ∧ z 68 79 ≤ 40 ∧
  (∀ k, 0 ≤ k → k < z 68 79 → z 64 k = z 125 k ∧ 0 ≤ z 125 k ∧ z 125 k ≤ 3 ∧ z 65 k = z 126 k ∧ 0 ≤ z 126 k ∧ z 126 k ≤ z 68 11 ∧ z 66 k = z 127 k ∧ -1 ≤ z 127 k ∧ z 127 k ≤ 9999 ∧ z 67 k = z 128 k ∧ 0 ≤ z 128 k ∧ z 128 k ≤ z 68 11)
def K (z : ZI) : Prop := JD z ∧ JH z ∧ JP z ∧ JS z ∧ JL z ∧ JT z ∧ JE z ∧ JV z ∧ JA z ∧ JU z ∧ JC z ∧ JK z ∧ JW z ∧ JB z ∧ JG z ∧ JX z ∧ JQ z ∧ JO z
