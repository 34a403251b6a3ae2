theorem jm_copy : Cond.native arraycopyName ∈ Ztbl ∧ Cond.static arraycopyName ∈ Ztbl ∧ Cond.initialized "java/lang/System" ∈ Ztbl := ⟨Ztb 532 (by decide +kernel) rfl, Ztb 531 (by decide +kernel) rfl, Ztb 15 (by decide +kernel) rfl⟩
theorem Zii {x v : Int32} {n : Int} (h : Int32.ofInt n = v) : x + Int32.ofInt n = x + v := by rw [h]
theorem Zrr {R : Room} {h k : Nat} (hR : h ≤ R.frames ∧ 60 * h ≤ R.locals) (hk : k + 1 ≤ h) : k + 1 ≤ R.frames ∧ 60 * (k + 1) ≤ R.locals := by omega
theorem Zr1 {R : Room} {h : Nat} (hR : h ≤ R.frames ∧ 60 * h ≤ R.locals) (hk : 1 ≤ h) : 1 ≤ R.frames := by omega
theorem Zr2 {R : Room} {h n : Nat} (hR : h ≤ R.frames ∧ 60 * h ≤ R.locals) (hk : 1 ≤ h) (hn : n ≤ 60) : n ≤ R.locals := by omega
def ZcpOk (f : Nat → Int32) (n0 n1 : Nat) (sp dp n : Int32) : Prop := (¬ sp < 0) ∧ (¬ dp < 0) ∧ (¬ n < 0) ∧ sp.toNatClampNeg + n.toNatClampNeg ≤ n0 ∧ dp.toNatClampNeg + n.toNatClampNeg ≤ n1 ∧ ∀ i, i < n.toNatClampNeg → fits .byte (.int (f (sp.toNatClampNeg + i))) = true
section ZROWS2
variable {p : Program} {l : Launch} {e : Env} {R : Room} {s : State} {m : MethodId} {args : Array Value} {below : List Frame} {meth : Method} {c : Code} {H : Heap} {locs : List Loc} {cells slots : Nat} {Q : State → Prop}
variable {cc : ByteArray} {nL pc : Nat} {ls : Array Slot} {rest : List Value} {own : String}
variable {D : va_G} {cA : Nat → ClassId} {ad : Nat → Nat} {A : Nat → Prop} {z : ZS}
theorem Zcopy {lv : List (Nat × Value)} {index k0 k1 n0 n1 : Nat} {sp dp n : Int32} (S : CallFix p m c cc nL s args Ztbl own) (hw : ZW D cA ad A z s H locs) (hl : lv_has ls nL lv) (hd0 : ZDS[k0]? = some (.inr (1, n0))) (hd1 : ZDS[k1]? = some (.inr (1, n1))) (ok : ZcpOk (z.1 k0) n0 n1 sp dp n) (ml : Cond.methodLink own index arraycopyName ∈ Ztbl) (hf : 1 ≤ R.frames) (hlo : (rest.map fun v => v.category).sum + (nativeFrameWords "java/lang/System" "arraycopy" 5 + 11) ≤ R.locals) (hdg : decode cc pc = .ok (.invokestatic index, 3))
    (kk : ∀ (z1 : ZS) (H1 : Heap) (locs1 : List Loc), z1 = Zset z k1 (va_cpy (z.1 k0) (z.1 k1) sp.toNatClampNeg dp.toNatClampNeg n.toNatClampNeg) → ZW D cA ad A z1 s H1 locs1 → W p l e R s m args below meth c H1 locs1 cells slots Q (F0 m (pc + 3) ls rest)) : W p l e R s m args below meth c H locs cells slots Q (F0 m pc ls (.int n :: .int dp :: .ref (ad k1) :: .int sp :: .ref (ad k0) :: rest)) :=
  va_copyi S.1 S.2.1 (S.2.2.1.trans hl.1.symm) S.2.2.2.1 (S.2.2.2.2 _ ml) (S.2.2.2.2 _ jm_copy.1) (S.2.2.2.2 _ jm_copy.2.1) (S.2.2.2.2 _ jm_copy.2.2) hw.1.1 hw.2.1 hw.2.2.1 hw.2.2.2 k0 k1 1 1 (Zarr1 hd0) (Zarr1 hd1) rfl rfl rfl ok.1 ok.2.1 ok.2.2.1 ok.2.2.2.1 ok.2.2.2.2.1 ok.2.2.2.2.2 hf hlo hdg (fun H1 locs1 h1 h2 h3 => kk _ H1 locs1 rfl (ZW_arr (by decide) hd1 hw.1 h1 h2 h3))
variable {y : MethodName} {b : ByteArray} {mx n index h : Nat} {rt : Option FieldType} {As st0 : List Value} {z1 : ZS}
theorem ZcallSv (S : CallFix p m c cc nL s args Ztbl own) (hw : ZW D cA ad A z s H locs) (hM : ZMv l D cA ad h y b mx As z z1) (hy : ZyV y b mx none n) (hi : Cond.static y ∈ Ztbl) (hl : Cond.methodLink own index y ∈ Ztbl) (hR : h + 1 ≤ R.frames ∧ 60 * (h + 1) ≤ R.locals) (hcs : cells ≤ R.cells ∧ slots ≤ R.slots) (hls : ls.size = nL) (hn : As.length = n) (hst : st0 = As.reverse ++ rest) (hro : (rest.map fun v => v.category).sum ≤ 8) (hdg : decode cc pc = .ok (.invokestatic index, 3))
    (kk : ∀ (H1 : Heap) (locs1 : List Loc), ZW D cA ad A z1 s H1 locs1 → W p l e R s m args below meth c H1 locs1 cells slots Q (F0 m (pc + 3) ls rest)) : W p l e R s m args below meth c H locs cells slots Q (F0 m pc ls st0) :=
  va_callv (va_runS (As := As) (rest := rest) S hM ⟨Zcb S hy hl hR, S.2.2.2.2 _ hi⟩ ⟨Zblind, Zdown hw⟩ rfl hn hls hst (lv_room hro) hdg hcs) hw.2.2.2 (fun q _ h => ZA_in hw q h) (ZA_in hw) (fun u t H1 locs1 ht _ hp hB _ _ hS => by
    obtain rfl := hp
    exact kk H1 locs1 (ZW_call hw ht hB hS))
theorem Zstr (hw : ZW D cA ad A z s H locs) : ∃ cell : Cell, H[ad 301]? = some cell ∧ cell.vm.isStatics = false ∧ s.vm.findClass "java/lang/String" = some cell.cls := vk_recv (i := 0) hw.1.2.2.2.2.2.2 (by decide) hw.2.2.2
theorem ZcallStr (S : CallFix p m c cc nL s args Ztbl own) (hw : ZW D cA ad A z s H locs) {r : Int32} (hM : ZMi l D cA ad h y b mx rt (.ref (ad 301) :: As) z r z1) (hy : ZyV y b mx rt n) (hi : ZyI y) (hl : Cond.methodLink own index y ∈ Ztbl) (hq : "java/lang/String" = y.cls) (hR : h + 1 ≤ R.frames ∧ 60 * (h + 1) ≤ R.locals) (hcs : cells ≤ R.cells ∧ slots ≤ R.slots) (hls : ls.size = nL) (hn : As.length = n) (hst : st0 = As.reverse ++ .ref (ad 301) :: rest) (hro : (rest.map fun v => v.category).sum ≤ 8) (hdg : decode cc pc = .ok (.invokevirtual index, 3))
    (kk : ∀ (H1 : Heap) (locs1 : List Loc), ZW D cA ad A z1 s H1 locs1 → W p l e R s m args below meth c H1 locs1 cells slots Q (F0 m (pc + 3) ls (.int r :: rest))) : W p l e R s m args below meth c H locs cells slots Q (F0 m pc ls st0) :=
  va_calli (va_runV (C := y.cls) (As := As) (rest := rest) S hM ⟨Zcb S hy hl hR, S.2.2.2.2 _ hi.1, S.2.2.2.2 _ hi.2⟩ ⟨Zblind, hq ▸ Zstr hw, Zdown hw⟩ rfl hn hls hst (lv_room hro) hdg hcs) hw.2.2.2 (fun q _ h => ZA_in hw q h) (ZA_in hw) (fun r' u t H1 locs1 ht _ hp hB _ _ hS => by
    obtain ⟨rfl, rfl⟩ := hp
    exact kk H1 locs1 (ZW_call hw ht hB hS))
end ZROWS2
def Zlet (j : Nat) : Int32 := ([110, 107, 111, 115, 100, 97, 116, 99] : List Int32).getD j 0
section ZROWS3
variable {p : Program} {l : Launch} {e : Env} {R : Room} {s : State} {m : MethodId} {args : Array Value} {below : List Frame} {meth : Method} {c : Code} {H : Heap} {locs : List Loc} {cells slots : Nat} {Q : State → Prop}
variable {cc : ByteArray} {nL pc : Nat} {ls : Array Slot} {rest : List Value} {own : String}
variable {D : va_G} {cA : Nat → ClassId} {ad : Nat → Nat} {A : Nat → Prop} {z : ZS}
theorem Zletters (hw : ZW D cA ad A z s H locs) : va_T .byte (ad 302) 8 (fun j => .int (Zlet j)) A s s.heap := (hw.1.2.2.2.2.2.2.1 0 (by decide)).2.2.2
theorem Zstrv (hw : ZW D cA ad A z s H locs) : va_OF "java/lang/String" "value" "[B" (.ref (ad 302)) (ad 301) A s s.heap := (hw.1.2.2.2.2.2.2.1 0 (by decide)).2.2.1
theorem Zstrc (hw : ZW D cA ad A z s H locs) : va_OF "java/lang/String" "coder" "B" (.int 0) (ad 301) A s s.heap := (hw.1.2.2.2.2.2.2.1 0 (by decide)).2.1
theorem Zretb {r : Int32} {RR : Int32 × ZS} (S : CallFix p m c cc nL s args Ztbl own) (hw : ZW D cA ad (ZA ad) z s H locs) (hr : meth.sig.returnType = some .byte) (hlk : meth.locks = false) (h01 : r = 0 ∨ r = 1) (hF : some (r, z) = some RR) (hdg : decode cc pc = .ok (.ireturn, 1)) : W p l e R s m args below meth c H locs cells slots (MQ below (ZQi D cA ad RR.1 RR.2) args s cells slots (ZA ad)) (F0 m pc ls [.int r]) := by
  obtain rfl := Option.some.inj hF
  exact W.zret S.1 S.2.1 hr (by rcases h01 with rfl | rfl <;> rfl) (fun t ht hW => ⟨⟨r, z, rfl, ⟨rfl, rfl⟩, by show va_P _ _ _ _; rw [ht]; exact hw.2.1⟩, hw.2.2.2.F ht⟩) hw.2.2.2.2.2 hdg hlk
end ZROWS3

/-! the memory in whole numbers: cell k, place i -/
abbrev ZI : Type := Nat → Int → Int
def i32 (x : Int) : Int32 := Int32.ofInt x
def i64 (x : Int) : Int64 := Int64.ofInt x
abbrev InR (x : Int) : Prop := -2147483648 ≤ x ∧ x ≤ 2147483647
abbrev InL (x : Int) : Prop := -9223372036854775808 ≤ x ∧ x ≤ 9223372036854775807
theorem i32_toInt {x : Int} (h : InR x) : (i32 x).toInt = x := Int32.toInt_ofInt_of_le h.1 (by have := h.2; omega)
theorem i64_toInt {x : Int} (h : InL x) : (i64 x).toInt = x := Int64.toInt_ofInt_of_le h.1 (by have := h.2; omega)
theorem i32_self (v : Int32) : i32 v.toInt = v := Int32.ofInt_toInt v
theorem i64_self (v : Int64) : i64 v.toInt = v := Int64.ofInt_toInt v
theorem InR_of (v : Int32) : InR v.toInt := ⟨by have := v.le_toInt; omega, by have := v.toInt_lt; omega⟩
theorem InL_of (v : Int64) : InL v.toInt := ⟨by have := v.le_toInt; omega, by have := v.toInt_lt; omega⟩
theorem InR_L {x : Int} (h : InR x) : InL x := ⟨by have := h.1; omega, by have := h.2; omega⟩
theorem i32_lt {x y : Int} (hx : InR x) (hy : InR y) : i32 x < i32 y ↔ x < y := by rw [Int32.lt_iff_toInt_lt, i32_toInt hx, i32_toInt hy]
theorem i32_le {x y : Int} (hx : InR x) (hy : InR y) : i32 x ≤ i32 y ↔ x ≤ y := by rw [Int32.le_iff_toInt_le, i32_toInt hx, i32_toInt hy]
theorem i32_eq {x y : Int} (hx : InR x) (hy : InR y) : i32 x = i32 y ↔ x = y := by rw [← Int32.toInt_inj, i32_toInt hx, i32_toInt hy]
theorem i64_lt {x y : Int} (hx : InL x) (hy : InL y) : i64 x < i64 y ↔ x < y := by rw [Int64.lt_iff_toInt_lt, i64_toInt hx, i64_toInt hy]
theorem i64_le {x y : Int} (hx : InL x) (hy : InL y) : i64 x ≤ i64 y ↔ x ≤ y := by rw [Int64.le_iff_toInt_le, i64_toInt hx, i64_toInt hy]
theorem i64_eq {x y : Int} (hx : InL x) (hy : InL y) : i64 x = i64 y ↔ x = y := by rw [← Int64.toInt_inj, i64_toInt hx, i64_toInt hy]
theorem i32_0 : i32 0 = 0 := rfl
theorem r_0 : InR 0 := by decide
theorem i32_lt0 {x : Int} (hx : InR x) : i32 x < 0 ↔ x < 0 := i32_lt hx r_0
theorem i32_le0 {x : Int} (hx : InR x) : i32 x ≤ 0 ↔ x ≤ 0 := i32_le hx r_0
theorem i32_ge0 {x : Int} (hx : InR x) : 0 ≤ i32 x ↔ 0 ≤ x := i32_le r_0 hx
theorem i32_gt0 {x : Int} (hx : InR x) : 0 < i32 x ↔ 0 < x := i32_lt r_0 hx
theorem i32_eq0 {x : Int} (hx : InR x) : i32 x = 0 ↔ x = 0 := i32_eq hx r_0
theorem i32_add (x y : Int) : i32 x + i32 y = i32 (x + y) := (Int32.ofInt_add x y).symm
theorem i32_sub (x y : Int) : i32 x - i32 y = i32 (x - y) := (Int32.ofInt_sub x y).symm
theorem i32_mul (x y : Int) : i32 x * i32 y = i32 (x * y) := (Int32.ofInt_mul x y).symm
theorem i32_neg (x : Int) : -i32 x = i32 (-x) := (Int32.ofInt_neg x).symm
theorem i64_add (x y : Int) : i64 x + i64 y = i64 (x + y) := (Int64.ofInt_add x y).symm
theorem i64_sub (x y : Int) : i64 x - i64 y = i64 (x - y) := (Int64.ofInt_sub x y).symm
theorem i64_mul (x y : Int) : i64 x * i64 y = i64 (x * y) := (Int64.ofInt_mul x y).symm
theorem i32_div {x y : Int} (hx : InR x) (hy : InR y) : i32 x / i32 y = i32 (x.tdiv y) := by
  unfold i32
  rw [Int32.ofInt_tdiv (show Int32.minValue.toInt ≤ x from hx.1) (show x ≤ Int32.maxValue.toInt from hx.2) (show Int32.minValue.toInt ≤ y from hy.1) (show y ≤ Int32.maxValue.toInt from hy.2)]
theorem i64_div {x y : Int} (hx : InL x) (hy : InL y) : i64 x / i64 y = i64 (x.tdiv y) := by
  unfold i64
  rw [Int64.ofInt_tdiv (show Int64.minValue.toInt ≤ x from hx.1) (show x ≤ Int64.maxValue.toInt from hx.2) (show Int64.minValue.toInt ≤ y from hy.1) (show y ≤ Int64.maxValue.toInt from hy.2)]
theorem i32_rem {x y : Int} (hx : InR x) (hy : InR y) : i32 x - i32 x / i32 y * i32 y = i32 (x.tmod y) := by
  rw [i32_div hx hy, i32_mul, i32_sub]
  congr 1
  have := Int.tmod_add_tdiv_mul x y
  omega
theorem i32_l {x : Int} (hx : InR x) : (i32 x).toInt64 = i64 x := by
  apply Int64.toInt_inj.mp
  rw [Int32.toInt_toInt64, i32_toInt hx, i64_toInt (InR_L hx)]
def w32 (x : Int) : Int := (i32 x).toInt
theorem w32_in (x : Int) : InR (w32 x) := InR_of _
theorem i32_w32 (x : Int) : i32 (w32 x) = i32 x := i32_self _
theorem w32_id {x : Int} (h : InR x) : w32 x = x := i32_toInt h
def jand (x y : Int) : Int := (i32 x &&& i32 y).toInt
def jor (x y : Int) : Int := (i32 x ||| i32 y).toInt
def jxor (x y : Int) : Int := (i32 x ^^^ i32 y).toInt
def jshl (x y : Int) : Int := (i32 x <<< (i32 y &&& 31)).toInt
def jshr (x y : Int) : Int := (i32 x >>> (i32 y &&& 31)).toInt
def jushr (x y : Int) : Int := ((i32 x).toUInt32 >>> ((i32 y).toUInt32 &&& Int32.toUInt32 31)).toInt32.toInt
def jandL (x y : Int) : Int := (i64 x &&& i64 y).toInt
def jshrL (x y : Int) : Int := (i64 x >>> ((i32 y).toInt64 &&& 63)).toInt
def jushrL (x y : Int) : Int := ((i64 x).toUInt64 >>> ((i32 y).toInt64.toUInt64 &&& Int64.toUInt64 63)).toInt64.toInt
def ji2b (x : Int) : Int := (i32 x).toInt8.toInt32.toInt
def ji2c (x : Int) : Int := ((i32 x).toUInt32 % 65536).toInt32.toInt
def jl2i (x : Int) : Int := (i64 x).toInt32.toInt
def jcmp (x y : Int) : Int := if y < x then 1 else if x = y then 0 else -1
def jabs (x : Int) : Int := if 0 ≤ x then x else -x
theorem jcmp_in (x y : Int) : InR (jcmp x y) := by
  unfold jcmp
  split
  · decide
  · split <;> decide
theorem jabs_in {x : Int} (h : InR x) (h2 : InR (-x)) : InR (jabs x) := by
  unfold jabs
  split <;> assumption
theorem InR_max {x y : Int} (hx : InR x) (hy : InR y) : InR (max x y) := ⟨by have := hx.1; have := hy.1; omega, by have := hx.2; have := hy.2; omega⟩
theorem InR_min {x y : Int} (hx : InR x) (hy : InR y) : InR (min x y) := ⟨by have := hx.1; have := hy.1; omega, by have := hx.2; have := hy.2; omega⟩
theorem InL_max {x y : Int} (hx : InL x) (hy : InL y) : InL (max x y) := ⟨by have := hx.1; have := hy.1; omega, by have := hx.2; have := hy.2; omega⟩
theorem InL_min {x y : Int} (hx : InL x) (hy : InL y) : InL (min x y) := ⟨by have := hx.1; have := hy.1; omega, by have := hx.2; have := hy.2; omega⟩
theorem InR_tdiv {x y : Int} (hx : InR x) (hy : 1 ≤ y) : InR (x.tdiv y) := by
  have h1 := Int.natAbs_tdiv_le_natAbs x y
  have := hx.1
  have := hx.2
  rcases Int.lt_or_le x 0 with h | h
  · have h3 : 0 ≤ (-x).tdiv y := Int.tdiv_nonneg (by omega) (by omega)
    rw [Int.neg_tdiv] at h3
    constructor <;> omega
  · have h3 : 0 ≤ x.tdiv y := Int.tdiv_nonneg h (by omega)
    constructor <;> omega
theorem InR_tmod {x y : Int} (hx : InR x) : InR (x.tmod y) := by
  have h1 : (x.tmod y).natAbs = x.natAbs % y.natAbs := Int.natAbs_tmod x y
  have h2 : x.natAbs % y.natAbs ≤ x.natAbs := Nat.mod_le _ _
  have := hx.1
  have := hx.2
  rcases Int.lt_or_le x 0 with h | h
  · have h3 : 0 ≤ (-x).tmod y := Int.tmod_nonneg y (by omega)
    rw [Int.neg_tmod] at h3
    constructor <;> omega
  · have h3 : 0 ≤ x.tmod y := Int.tmod_nonneg y h
    constructor <;> omega
theorem i64_cmp {x y : Int} (hx : InL x) (hy : InL y) : lg_cmp (i64 x) (i64 y) = i32 (jcmp x y) := by
  unfold lg_cmp jcmp
  by_cases h1 : y < x
  · rw [if_pos ((i64_lt hy hx).mpr h1), if_pos h1]; rfl
  · rw [if_neg (fun h => h1 ((i64_lt hy hx).mp h)), if_neg h1]
    by_cases h2 : x = y
    · rw [if_pos ((i64_eq hx hy).mpr h2), if_pos h2]; rfl
    · rw [if_neg (fun h => h2 ((i64_eq hx hy).mp h)), if_neg h2]; rfl
theorem i32_clamp {x : Int} (h : InR x) : (i32 x).toNatClampNeg = x.toNat := by
  show (i32 x).toInt.toNat = x.toNat
  rw [i32_toInt h]
/-- the memory as the machine holds it: cells below 1000 ints, cell 1000 + k the longs of cell k -/
def Zc (z : ZI) : ZS := (fun k j => if k < 1000 then i32 (z k (j : Int)) else 0, fun k j => i64 (z (k + 1000) (j : Int)))
theorem Zc1 {z : ZI} {k j : Nat} (hk : k < 1000) : (Zc z).1 k j = i32 (z k (j : Int)) := if_pos hk
theorem Zc1f {z : ZI} {k : Nat} (hk : k < 1000) : (Zc z).1 k = fun (j : Nat) => i32 (z k (j : Int)) := funext fun _ => if_pos hk
def Zok (z : ZI) : Prop := (∀ k j, k < 1000 → InR (z k j)) ∧ ∀ k j, InL (z k j)
def Zup (z : ZI) (k : Nat) (i v : Int) : ZI := fun k' i' => if k' = k ∧ i' = i then v else z k' i'
def Zcp (z : ZI) (k0 k1 : Nat) (sp dp n : Int) : ZI := fun k i => if k = k1 ∧ dp ≤ i ∧ i < dp + n then z k0 (sp + (i - dp)) else z k i
theorem Zok_up {z : ZI} (h : Zok z) {k : Nat} {i v : Int} (hv : InR v) : Zok (Zup z k i v) := by
  refine ⟨fun k' j hk => ?_, fun k' j => ?_⟩
  · unfold Zup; split
    · exact hv
    · exact h.1 k' j hk
  · unfold Zup; split
    · exact InR_L hv
    · exact h.2 k' j
theorem Zok_upL {z : ZI} (h : Zok z) {k : Nat} {i v : Int} (hv : InL v) : Zok (Zup z (k + 1000) i v) := by
  refine ⟨fun k' j hk => ?_, fun k' j => ?_⟩
  · unfold Zup; rw [if_neg (by omega)]; exact h.1 k' j hk
  · unfold Zup; split
    · exact hv
    · exact h.2 k' j
theorem Zok_cp {z : ZI} (h : Zok z) {k0 k1 : Nat} {sp dp n : Int} (hk : k0 < 1000) : Zok (Zcp z k0 k1 sp dp n) := by
  refine ⟨fun k' j hk' => ?_, fun k' j => ?_⟩
  · unfold Zcp; split
    · exact h.1 _ _ hk
    · exact h.1 k' j hk'
  · unfold Zcp; split
    · exact h.2 _ _
    · exact h.2 k' j
theorem Zc_up {z : ZI} {k j : Nat} {v : Int} (hk : k < 1000) : Zset (Zc z) k (upd ((Zc z).1 k) j (i32 v)) = Zc (Zup z k (j : Int) v) := by
  apply Prod.ext
  · funext k' j'
    rw [Zc1f hk]
    show (if k' = k then upd (fun (j : Nat) => i32 (z k (j : Int))) j (i32 v) else fun (j : Nat) => if k' < 1000 then i32 (z k' (j : Int)) else 0) j' = if k' < 1000 then i32 (if k' = k ∧ (j' : Int) = (j : Int) then v else z k' (j' : Int)) else 0
    by_cases h : k' = k
    · subst h
      rw [if_pos rfl, if_pos hk]
      unfold upd
      by_cases h2 : j' = j
      · subst h2; simp
      · rw [if_neg h2, if_neg (fun h3 => h2 (by omega))]
    · rw [if_neg h, if_neg (c := k' = k ∧ _) (fun h3 => h h3.1)]
  · funext k' j'
    show i64 (z (k' + 1000) (j' : Int)) = i64 (if k' + 1000 = k ∧ (j' : Int) = (j : Int) then v else z (k' + 1000) (j' : Int))
    rw [if_neg (fun h3 => by omega)]
theorem Zc_upL {z : ZI} {k j : Nat} {v : Int} : ZsetL (Zc z) k (vp_updL ((Zc z).2 k) j (i64 v)) = Zc (Zup z (k + 1000) (j : Int) v) := by
  apply Prod.ext
  · funext k' j'
    show (if k' < 1000 then i32 (z k' (j' : Int)) else 0) = if k' < 1000 then i32 (if k' = k + 1000 ∧ (j' : Int) = (j : Int) then v else z k' (j' : Int)) else 0
    by_cases h : k' < 1000
    · rw [if_pos h, if_pos h, if_neg (fun h3 => by omega)]
    · rw [if_neg h, if_neg h]
  · funext k' j'
    show (if k' = k then vp_updL (fun (j : Nat) => i64 (z (k + 1000) (j : Int))) j (i64 v) else fun (j : Nat) => i64 (z (k' + 1000) (j : Int))) j' = i64 (if k' + 1000 = k + 1000 ∧ (j' : Int) = (j : Int) then v else z (k' + 1000) (j' : Int))
    by_cases h : k' = k
    · subst h
      rw [if_pos rfl]
      unfold vp_updL
      by_cases h2 : j' = j
      · subst h2; simp
      · rw [if_neg h2, if_neg (fun h3 => h2 (by omega))]
    · rw [if_neg h, if_neg (fun h3 => h (by omega))]
theorem Zc_cp {z : ZI} {k0 k1 : Nat} {sp dp n : Nat} (h0 : k0 < 1000) (h1 : k1 < 1000) : Zset (Zc z) k1 (va_cpy ((Zc z).1 k0) ((Zc z).1 k1) sp dp n) = Zc (Zcp z k0 k1 (sp : Int) (dp : Int) (n : Int)) := by
  apply Prod.ext
  · funext k' j'
    rw [Zc1f h0, Zc1f h1]
    show (if k' = k1 then va_cpy (fun (j : Nat) => i32 (z k0 (j : Int))) (fun (j : Nat) => i32 (z k1 (j : Int))) sp dp n else fun (j : Nat) => if k' < 1000 then i32 (z k' (j : Int)) else 0) j' = if k' < 1000 then i32 (if k' = k1 ∧ (dp : Int) ≤ (j' : Int) ∧ (j' : Int) < (dp : Int) + (n : Int) then z k0 ((sp : Int) + ((j' : Int) - (dp : Int))) else z k' (j' : Int)) else 0
    by_cases h : k' = k1
    · subst h
      rw [if_pos rfl, if_pos h1]
      show (if dp ≤ j' ∧ j' < dp + n then i32 (z k0 ((sp + (j' - dp) : Nat) : Int)) else i32 (z k' (j' : Int))) = _
      by_cases h2 : dp ≤ j' ∧ j' < dp + n
      · rw [if_pos h2, if_pos (by omega)]
        congr 2
        omega
      · rw [if_neg h2, if_neg (by omega)]
    · rw [if_neg h, if_neg (c := k' = k1 ∧ _) (fun h3 => h h3.1)]
  · funext k' j'
    show i64 (z (k' + 1000) (j' : Int)) = i64 (if k' + 1000 = k1 ∧ _ then _ else z (k' + 1000) (j' : Int))
    rw [if_neg (fun h3 => by omega)]
/-! what a functional program over whole numbers is made of (Zgd, Zl as before) -/
def Yb {α β : Type} (x : Option (α × ZI)) (k : α → ZI → Option β) : Option β := match x with
  | some q => k q.1 q.2
  | none => none
theorem Ybs {α β : Type} {x : Option (α × ZI)} {k : α → ZI → Option β} {r : β} (h : Yb x k = some r) : ∃ a z, x = some (a, z) ∧ k a z = some r := by
  cases x with
  | none => cases h
  | some q => exact ⟨q.1, q.2, rfl, h⟩
abbrev IJ (i : Int) (n : Int) : Prop := 0 ≤ i ∧ i < n
theorem IJ_b {i : Int} {n : Nat} (hi : InR i) (h : IJ i (n : Int)) : IB (i32 i) n := by
  show 0 ≤ (i32 i).toInt ∧ (i32 i).toInt < (n : Int)
  rw [i32_toInt hi]
  exact h
theorem IJ_n {i : Int} {n : Int} (h : IJ i n) : ((i.toNat : Nat) : Int) = i := Int.toNat_of_nonneg h.1
def Ysides (i : Int) : Int := if i = 0 then 3 else if i = 1 then 2 else if i = 2 then 0 else 1
theorem Ysides_in (i : Int) : InR (Ysides i) := by
  unfold Ysides
  split
  · decide
  · split
    · decide
    · split <;> decide
theorem Ysides_ok {i : Int} (hi : InR i) (h : IJ i 4) : Zsides (i32 i).toNatClampNeg = i32 (Ysides i) := by
  rw [i32_clamp hi]
  have h1 := h.1
  have h2 := h.2
  have : i = 0 ∨ i = 1 ∨ i = 2 ∨ i = 3 := by omega
  rcases this with rfl | rfl | rfl | rfl <;> rfl
def Ylet (i : Int) : Int := if i = 0 then 110 else if i = 1 then 107 else if i = 2 then 111 else if i = 3 then 115 else if i = 4 then 100 else if i = 5 then 97 else if i = 6 then 116 else 99
theorem Ylet_ok {i : Int} (hi : InR i) (h : IJ i 8) : Zlet (i32 i).toNatClampNeg = i32 (Ylet i) := by
  rw [i32_clamp hi]
  have h1 := h.1
  have h2 := h.2
  have : i = 0 ∨ i = 1 ∨ i = 2 ∨ i = 3 ∨ i = 4 ∨ i = 5 ∨ i = 6 ∨ i = 7 := by omega
  rcases this with rfl | rfl | rfl | rfl | rfl | rfl | rfl | rfl <;> rfl
theorem Ylet_in (i : Int) : InR (Ylet i) := by
  unfold Ylet
  repeat' split
  all_goals decide

theorem bp_m20 : (Int8.ofInt (-20)).toInt32 = i32 (-20) := by decide +kernel
theorem bp_m9 : (Int8.ofInt (-9)).toInt32 = i32 (-9) := by decide +kernel
theorem bp_m6 : (Int8.ofInt (-6)).toInt32 = i32 (-6) := by decide +kernel
theorem bp_m4 : (Int8.ofInt (-4)).toInt32 = i32 (-4) := by decide +kernel
theorem bp_m3 : (Int8.ofInt (-3)).toInt32 = i32 (-3) := by decide +kernel
theorem bp_m2 : (Int8.ofInt (-2)).toInt32 = i32 (-2) := by decide +kernel
theorem bp_6 : (Int8.ofInt 6).toInt32 = i32 6 := by decide +kernel
theorem bp_7 : (Int8.ofInt 7).toInt32 = i32 7 := by decide +kernel
theorem bp_8 : (Int8.ofInt 8).toInt32 = i32 8 := by decide +kernel
theorem bp_9 : (Int8.ofInt 9).toInt32 = i32 9 := by decide +kernel
theorem bp_10 : (Int8.ofInt 10).toInt32 = i32 10 := by decide +kernel
theorem bp_11 : (Int8.ofInt 11).toInt32 = i32 11 := by decide +kernel
theorem bp_12 : (Int8.ofInt 12).toInt32 = i32 12 := by decide +kernel
theorem bp_14 : (Int8.ofInt 14).toInt32 = i32 14 := by decide +kernel
theorem bp_16 : (Int8.ofInt 16).toInt32 = i32 16 := by decide +kernel
theorem bp_20 : (Int8.ofInt 20).toInt32 = i32 20 := by decide +kernel
theorem bp_24 : (Int8.ofInt 24).toInt32 = i32 24 := by decide +kernel
theorem bp_30 : (Int8.ofInt 30).toInt32 = i32 30 := by decide +kernel
theorem bp_31 : (Int8.ofInt 31).toInt32 = i32 31 := by decide +kernel
theorem bp_40 : (Int8.ofInt 40).toInt32 = i32 40 := by decide +kernel
theorem bp_41 : (Int8.ofInt 41).toInt32 = i32 41 := by decide +kernel
theorem bp_42 : (Int8.ofInt 42).toInt32 = i32 42 := by decide +kernel
theorem bp_43 : (Int8.ofInt 43).toInt32 = i32 43 := by decide +kernel
theorem bp_45 : (Int8.ofInt 45).toInt32 = i32 45 := by decide +kernel
theorem bp_47 : (Int8.ofInt 47).toInt32 = i32 47 := by decide +kernel
theorem bp_48 : (Int8.ofInt 48).toInt32 = i32 48 := by decide +kernel
theorem bp_57 : (Int8.ofInt 57).toInt32 = i32 57 := by decide +kernel
theorem bp_60 : (Int8.ofInt 60).toInt32 = i32 60 := by decide +kernel
theorem bp_61 : (Int8.ofInt 61).toInt32 = i32 61 := by decide +kernel
theorem bp_62 : (Int8.ofInt 62).toInt32 = i32 62 := by decide +kernel
theorem bp_63 : (Int8.ofInt 63).toInt32 = i32 63 := by decide +kernel
theorem bp_97 : (Int8.ofInt 97).toInt32 = i32 97 := by decide +kernel
theorem bp_98 : (Int8.ofInt 98).toInt32 = i32 98 := by decide +kernel
theorem bp_99 : (Int8.ofInt 99).toInt32 = i32 99 := by decide +kernel
theorem bp_100 : (Int8.ofInt 100).toInt32 = i32 100 := by decide +kernel
theorem bp_107 : (Int8.ofInt 107).toInt32 = i32 107 := by decide +kernel
theorem bp_110 : (Int8.ofInt 110).toInt32 = i32 110 := by decide +kernel
theorem bp_111 : (Int8.ofInt 111).toInt32 = i32 111 := by decide +kernel
theorem bp_115 : (Int8.ofInt 115).toInt32 = i32 115 := by decide +kernel
theorem bp_116 : (Int8.ofInt 116).toInt32 = i32 116 := by decide +kernel
theorem ic_m1 : Int32.ofInt (-1) = i32 (-1) := rfl
theorem ic_0 : Int32.ofInt 0 = i32 0 := rfl
theorem ic_1 : Int32.ofInt 1 = i32 1 := rfl
theorem ic_2 : Int32.ofInt 2 = i32 2 := rfl
theorem ic_3 : Int32.ofInt 3 = i32 3 := rfl
theorem ic_4 : Int32.ofInt 4 = i32 4 := rfl
theorem ic_5 : Int32.ofInt 5 = i32 5 := rfl
theorem lc_0 : Int64.ofNat ((0 : Fin 2) : Nat) = i64 0 := by decide +kernel
theorem lc_1 : Int64.ofNat ((1 : Fin 2) : Nat) = i64 1 := by decide +kernel
theorem sp_128 : (Int16.ofInt 128).toInt32 = i32 128 := by decide +kernel
theorem sp_132 : (Int16.ofInt 132).toInt32 = i32 132 := by decide +kernel
theorem sp_144 : (Int16.ofInt 144).toInt32 = i32 144 := by decide +kernel
theorem sp_150 : (Int16.ofInt 150).toInt32 = i32 150 := by decide +kernel
theorem sp_255 : (Int16.ofInt 255).toInt32 = i32 255 := by decide +kernel
theorem sp_300 : (Int16.ofInt 300).toInt32 = i32 300 := by decide +kernel
theorem sp_365 : (Int16.ofInt 365).toInt32 = i32 365 := by decide +kernel
theorem sp_999 : (Int16.ofInt 999).toInt32 = i32 999 := by decide +kernel
theorem sp_1000 : (Int16.ofInt 1000).toInt32 = i32 1000 := by decide +kernel
theorem sp_1825 : (Int16.ofInt 1825).toInt32 = i32 1825 := by decide +kernel
theorem sp_4096 : (Int16.ofInt 4096).toInt32 = i32 4096 := by decide +kernel
theorem sp_9999 : (Int16.ofInt 9999).toInt32 = i32 9999 := by decide +kernel
theorem sp_10000 : (Int16.ofInt 10000).toInt32 = i32 10000 := by decide +kernel
theorem sp_21900 : (Int16.ofInt 21900).toInt32 = i32 21900 := by decide +kernel
theorem r_m1000000000 : InR (-1000000000) := by unfold InR; omega
theorem r_m36500 : InR (-36500) := by unfold InR; omega
theorem r_m20 : InR (-20) := by unfold InR; omega
theorem r_m9 : InR (-9) := by unfold InR; omega
theorem r_m6 : InR (-6) := by unfold InR; omega
theorem r_m4 : InR (-4) := by unfold InR; omega
theorem r_m3 : InR (-3) := by unfold InR; omega
theorem r_m2 : InR (-2) := by unfold InR; omega
theorem r_m1 : InR (-1) := by unfold InR; omega
theorem r_1 : InR 1 := by unfold InR; omega
theorem r_2 : InR 2 := by unfold InR; omega
theorem r_3 : InR 3 := by unfold InR; omega
theorem r_4 : InR 4 := by unfold InR; omega
theorem r_5 : InR 5 := by unfold InR; omega
theorem r_6 : InR 6 := by unfold InR; omega
theorem r_7 : InR 7 := by unfold InR; omega
theorem r_8 : InR 8 := by unfold InR; omega
theorem r_9 : InR 9 := by unfold InR; omega
theorem r_10 : InR 10 := by unfold InR; omega
theorem r_11 : InR 11 := by unfold InR; omega
theorem r_12 : InR 12 := by unfold InR; omega
theorem r_14 : InR 14 := by unfold InR; omega
theorem r_16 : InR 16 := by unfold InR; omega
theorem r_20 : InR 20 := by unfold InR; omega
theorem r_24 : InR 24 := by unfold InR; omega
theorem r_30 : InR 30 := by unfold InR; omega
theorem r_31 : InR 31 := by unfold InR; omega
theorem r_40 : InR 40 := by unfold InR; omega
theorem r_41 : InR 41 := by unfold InR; omega
theorem r_42 : InR 42 := by unfold InR; omega
theorem r_43 : InR 43 := by unfold InR; omega
theorem r_45 : InR 45 := by unfold InR; omega
theorem r_47 : InR 47 := by unfold InR; omega
theorem r_48 : InR 48 := by unfold InR; omega
theorem r_57 : InR 57 := by unfold InR; omega
theorem r_60 : InR 60 := by unfold InR; omega
theorem r_61 : InR 61 := by unfold InR; omega
theorem r_62 : InR 62 := by unfold InR; omega
theorem r_63 : InR 63 := by unfold InR; omega
theorem r_97 : InR 97 := by unfold InR; omega
theorem r_98 : InR 98 := by unfold InR; omega
theorem r_99 : InR 99 := by unfold InR; omega
theorem r_100 : InR 100 := by unfold InR; omega
theorem r_107 : InR 107 := by unfold InR; omega
theorem r_110 : InR 110 := by unfold InR; omega
theorem r_111 : InR 111 := by unfold InR; omega
theorem r_115 : InR 115 := by unfold InR; omega
theorem r_116 : InR 116 := by unfold InR; omega
theorem r_128 : InR 128 := by unfold InR; omega
theorem r_132 : InR 132 := by unfold InR; omega
theorem r_144 : InR 144 := by unfold InR; omega
theorem r_150 : InR 150 := by unfold InR; omega
theorem r_255 : InR 255 := by unfold InR; omega
theorem r_300 : InR 300 := by unfold InR; omega
theorem r_365 : InR 365 := by unfold InR; omega
theorem r_999 : InR 999 := by unfold InR; omega
theorem r_1000 : InR 1000 := by unfold InR; omega
theorem r_1825 : InR 1825 := by unfold InR; omega
theorem r_4096 : InR 4096 := by unfold InR; omega
theorem r_9999 : InR 9999 := by unfold InR; omega
theorem r_10000 : InR 10000 := by unfold InR; omega
theorem r_21900 : InR 21900 := by unfold InR; omega
theorem r_99999 : InR 99999 := by unfold InR; omega
theorem r_1000000 : InR 1000000 := by unfold InR; omega
theorem r_252645135 : InR 252645135 := by unfold InR; omega
theorem r_858993459 : InR 858993459 := by unfold InR; omega
theorem r_1000000000 : InR 1000000000 := by unfold InR; omega
theorem r_1431655765 : InR 1431655765 := by unfold InR; omega
theorem jm_max : Cond.static Lib.Math.max.name ∈ Ztbl ∧ Cond.initialized "java/lang/Math" ∈ Ztbl ∧ Cond.code Lib.Math.max.name Lib.Math.max.code 2 (some .int) ∈ Ztbl := ⟨Ztb 591 (by decide +kernel) rfl, Ztb 17 (by decide +kernel) rfl, Ztb 592 (by decide +kernel) rfl⟩
theorem jm_min : Cond.static Lib.Math.min.name ∈ Ztbl ∧ Cond.initialized "java/lang/Math" ∈ Ztbl ∧ Cond.code Lib.Math.min.name Lib.Math.min.code 2 (some .int) ∈ Ztbl := ⟨Ztb 594 (by decide +kernel) rfl, Ztb 17 (by decide +kernel) rfl, Ztb 595 (by decide +kernel) rfl⟩
theorem jm_abs : Cond.static Lib.Math.abs.name ∈ Ztbl ∧ Cond.initialized "java/lang/Math" ∈ Ztbl ∧ Cond.code Lib.Math.abs.name Lib.Math.abs.code 1 (some .int) ∈ Ztbl := ⟨Ztb 772 (by decide +kernel) rfl, Ztb 17 (by decide +kernel) rfl, Ztb 773 (by decide +kernel) rfl⟩
theorem jm_maxL : Cond.static Lib.MathLoose.max_long.x ∈ Ztbl ∧ Cond.initialized "java/lang/Math" ∈ Ztbl ∧ Cond.code Lib.MathLoose.max_long.x Lib.MathLoose.max_long.code 4 (some .long) ∈ Ztbl := ⟨Ztb 660 (by decide +kernel) rfl, Ztb 17 (by decide +kernel) rfl, Ztb 661 (by decide +kernel) rfl⟩
theorem jm_minL : Cond.static Lib.MathLoose.min_long.x ∈ Ztbl ∧ Cond.initialized "java/lang/Math" ∈ Ztbl ∧ Cond.code Lib.MathLoose.min_long.x Lib.MathLoose.min_long.code 4 (some .long) ∈ Ztbl := ⟨Ztb 657 (by decide +kernel) rfl, Ztb 17 (by decide +kernel) rfl, Ztb 658 (by decide +kernel) rfl⟩
theorem ml_X6_37 : Cond.methodLink RX6 37 arraycopyName ∈ Ztbl := Ztb 530 (by decide +kernel) rfl
theorem ml_X7_53 : Cond.methodLink RX7 53 arraycopyName ∈ Ztbl := Ztb 663 (by decide +kernel) rfl
theorem byte_fit {x : Int} (hb : -128 ≤ x ∧ x ≤ 127) : vp_nar .byte (i32 x) = i32 x := by
  rw [vp_nar_byte]
  apply Int32.toInt_inj.mp
  have h1 : InR x := ⟨by omega, by omega⟩
  rw [Int8.toInt_toInt32, Int32.toInt_toInt8, i32_toInt h1]
  exact Int.bmod_eq_of_le (by omega) (by omega)
theorem bool_fit {x : Int} (hb : x = 0 ∨ x = 1) : vp_nar .boolean (i32 x) = i32 x := by
  rcases hb with rfl | rfl <;> rfl
theorem fits_byte {x : Int} (hb : -128 ≤ x ∧ x ≤ 127) : fits .byte (.int (i32 x)) = true := by
  have h1 : InR x := ⟨by omega, by omega⟩
  have e1 : i32 (-128) = -128 := by decide
  have e2 : i32 127 = 127 := by decide
  have a : i32 (-128) ≤ i32 x := (i32_le (by decide) h1).mpr hb.1
  have b : i32 x ≤ i32 127 := (i32_le h1 (by decide)).mpr hb.2
  rw [e1] at a
  rw [e2] at b
  show (decide ((-128 : Int32) ≤ i32 x) && decide (i32 x ≤ (127 : Int32))) = true
  rw [decide_eq_true a, decide_eq_true b]
  rfl
section YROWS
variable {p : Program} {l : Launch} {e : Env} {R : Room} {s : State} {m : MethodId} {args : Array Value} {below : List Frame} {meth : Method} {c : Code} {H : Heap} {locs : List Loc} {cells slots : Nat} {Q : State → Prop}
variable {cc : ByteArray} {nL pc : Nat} {ls : Array Slot} {rest : List Value} {own : String}
variable {D : va_G} {cA : Nat → ClassId} {ad : Nat → Nat} {A : Nat → Prop} {z : ZI} {x y : Int}
theorem Yiadd (S : CallFix p m c cc nL s args Ztbl own) (hdg : decode cc pc = .ok (.iadd, 1)) (kk : W p l e R s m args below meth c H locs cells slots Q (F0 m (pc + 1) ls (.int (i32 (x + y)) :: rest))) : W p l e R s m args below meth c H locs cells slots Q (F0 m pc ls (.int (i32 y) :: .int (i32 x) :: rest)) := lv_iadd S.1 S.2.1 hdg (by rw [i32_add]; exact kk)
theorem Yisub (S : CallFix p m c cc nL s args Ztbl own) (hdg : decode cc pc = .ok (.isub, 1)) (kk : W p l e R s m args below meth c H locs cells slots Q (F0 m (pc + 1) ls (.int (i32 (x - y)) :: rest))) : W p l e R s m args below meth c H locs cells slots Q (F0 m pc ls (.int (i32 y) :: .int (i32 x) :: rest)) := lv_isub S.1 S.2.1 hdg (by rw [i32_sub]; exact kk)
theorem Yimul (S : CallFix p m c cc nL s args Ztbl own) (hdg : decode cc pc = .ok (.imul, 1)) (kk : W p l e R s m args below meth c H locs cells slots Q (F0 m (pc + 1) ls (.int (i32 (x * y)) :: rest))) : W p l e R s m args below meth c H locs cells slots Q (F0 m pc ls (.int (i32 y) :: .int (i32 x) :: rest)) := lv_imul S.1 S.2.1 hdg (by rw [i32_mul]; exact kk)
theorem Yiaddw (S : CallFix p m c cc nL s args Ztbl own) (hdg : decode cc pc = .ok (.iadd, 1)) (kk : W p l e R s m args below meth c H locs cells slots Q (F0 m (pc + 1) ls (.int (i32 (w32 (x + y))) :: rest))) : W p l e R s m args below meth c H locs cells slots Q (F0 m pc ls (.int (i32 y) :: .int (i32 x) :: rest)) := lv_iadd S.1 S.2.1 hdg (by rw [i32_add, ← i32_w32]; exact kk)
theorem Yisubw (S : CallFix p m c cc nL s args Ztbl own) (hdg : decode cc pc = .ok (.isub, 1)) (kk : W p l e R s m args below meth c H locs cells slots Q (F0 m (pc + 1) ls (.int (i32 (w32 (x - y))) :: rest))) : W p l e R s m args below meth c H locs cells slots Q (F0 m pc ls (.int (i32 y) :: .int (i32 x) :: rest)) := lv_isub S.1 S.2.1 hdg (by rw [i32_sub, ← i32_w32]; exact kk)
theorem Yladd (S : CallFix p m c cc nL s args Ztbl own) (hdg : decode cc pc = .ok (.ladd, 1)) (kk : W p l e R s m args below meth c H locs cells slots Q (F0 m (pc + 1) ls (.long (i64 (x + y)) :: rest))) : W p l e R s m args below meth c H locs cells slots Q (F0 m pc ls (.long (i64 y) :: .long (i64 x) :: rest)) := lv_ladd S.1 S.2.1 hdg (by rw [i64_add]; exact kk)
theorem Ylsub (S : CallFix p m c cc nL s args Ztbl own) (hdg : decode cc pc = .ok (.lsub, 1)) (kk : W p l e R s m args below meth c H locs cells slots Q (F0 m (pc + 1) ls (.long (i64 (x - y)) :: rest))) : W p l e R s m args below meth c H locs cells slots Q (F0 m pc ls (.long (i64 y) :: .long (i64 x) :: rest)) := lv_lsub S.1 S.2.1 hdg (by rw [i64_sub]; exact kk)
theorem Ylmul (S : CallFix p m c cc nL s args Ztbl own) (hdg : decode cc pc = .ok (.lmul, 1)) (kk : W p l e R s m args below meth c H locs cells slots Q (F0 m (pc + 1) ls (.long (i64 (x * y)) :: rest))) : W p l e R s m args below meth c H locs cells slots Q (F0 m pc ls (.long (i64 y) :: .long (i64 x) :: rest)) := lv_lmul S.1 S.2.1 hdg (by rw [i64_mul]; exact kk)
theorem Yidiv (S : CallFix p m c cc nL s args Ztbl own) (hx : InR x) (hy : InR y) (h0 : ¬ y = 0) (hdg : decode cc pc = .ok (.idiv, 1)) (kk : W p l e R s m args below meth c H locs cells slots Q (F0 m (pc + 1) ls (.int (i32 (x.tdiv y)) :: rest))) : W p l e R s m args below meth c H locs cells slots Q (F0 m pc ls (.int (i32 y) :: .int (i32 x) :: rest)) := lv_idiv S.1 S.2.1 hdg (fun h => h0 ((i32_eq0 hy).mp h)) (by rw [i32_div hx hy]; exact kk)
theorem Yirem (S : CallFix p m c cc nL s args Ztbl own) (hx : InR x) (hy : InR y) (h0 : ¬ y = 0) (hdg : decode cc pc = .ok (.irem, 1)) (kk : W p l e R s m args below meth c H locs cells slots Q (F0 m (pc + 1) ls (.int (i32 (x.tmod y)) :: rest))) : W p l e R s m args below meth c H locs cells slots Q (F0 m pc ls (.int (i32 y) :: .int (i32 x) :: rest)) := lv_irem S.1 S.2.1 hdg (fun h => h0 ((i32_eq0 hy).mp h)) (by rw [i32_rem hx hy]; exact kk)
theorem Yldiv (S : CallFix p m c cc nL s args Ztbl own) (hx : InL x) (hy : InL y) (h0 : ¬ y = 0) (hdg : decode cc pc = .ok (.ldiv, 1)) (kk : W p l e R s m args below meth c H locs cells slots Q (F0 m (pc + 1) ls (.long (i64 (x.tdiv y)) :: rest))) : W p l e R s m args below meth c H locs cells slots Q (F0 m pc ls (.long (i64 y) :: .long (i64 x) :: rest)) := lv_ldiv S.1 S.2.1 hdg (fun h => h0 ((i64_eq hy (by decide)).mp h)) (by rw [i64_div hx hy]; exact kk)
theorem Yiand (S : CallFix p m c cc nL s args Ztbl own) (hdg : decode cc pc = .ok (.iand, 1)) (kk : W p l e R s m args below meth c H locs cells slots Q (F0 m (pc + 1) ls (.int (i32 (jand x y)) :: rest))) : W p l e R s m args below meth c H locs cells slots Q (F0 m pc ls (.int (i32 y) :: .int (i32 x) :: rest)) := lv_iand S.1 S.2.1 hdg (by rw [jand, i32_self] at kk; exact kk)
theorem Yior (S : CallFix p m c cc nL s args Ztbl own) (hdg : decode cc pc = .ok (.ior, 1)) (kk : W p l e R s m args below meth c H locs cells slots Q (F0 m (pc + 1) ls (.int (i32 (jor x y)) :: rest))) : W p l e R s m args below meth c H locs cells slots Q (F0 m pc ls (.int (i32 y) :: .int (i32 x) :: rest)) := lv_ior S.1 S.2.1 hdg (by rw [jor, i32_self] at kk; exact kk)
theorem Yixor (S : CallFix p m c cc nL s args Ztbl own) (hdg : decode cc pc = .ok (.ixor, 1)) (kk : W p l e R s m args below meth c H locs cells slots Q (F0 m (pc + 1) ls (.int (i32 (jxor x y)) :: rest))) : W p l e R s m args below meth c H locs cells slots Q (F0 m pc ls (.int (i32 y) :: .int (i32 x) :: rest)) := lv_ixor S.1 S.2.1 hdg (by rw [jxor, i32_self] at kk; exact kk)
theorem Yishl (S : CallFix p m c cc nL s args Ztbl own) (hdg : decode cc pc = .ok (.ishl, 1)) (kk : W p l e R s m args below meth c H locs cells slots Q (F0 m (pc + 1) ls (.int (i32 (jshl x y)) :: rest))) : W p l e R s m args below meth c H locs cells slots Q (F0 m pc ls (.int (i32 y) :: .int (i32 x) :: rest)) := lv_ishl S.1 S.2.1 hdg (by rw [jshl, i32_self] at kk; exact kk)
theorem Yishr (S : CallFix p m c cc nL s args Ztbl own) (hdg : decode cc pc = .ok (.ishr, 1)) (kk : W p l e R s m args below meth c H locs cells slots Q (F0 m (pc + 1) ls (.int (i32 (jshr x y)) :: rest))) : W p l e R s m args below meth c H locs cells slots Q (F0 m pc ls (.int (i32 y) :: .int (i32 x) :: rest)) := lv_ishr S.1 S.2.1 hdg (by rw [jshr, i32_self] at kk; exact kk)
theorem Yiushr (S : CallFix p m c cc nL s args Ztbl own) (hdg : decode cc pc = .ok (.iushr, 1)) (kk : W p l e R s m args below meth c H locs cells slots Q (F0 m (pc + 1) ls (.int (i32 (jushr x y)) :: rest))) : W p l e R s m args below meth c H locs cells slots Q (F0 m pc ls (.int (i32 y) :: .int (i32 x) :: rest)) := lv_iushr S.1 S.2.1 hdg (i32_self _).symm kk
theorem Yland (S : CallFix p m c cc nL s args Ztbl own) (hdg : decode cc pc = .ok (.land, 1)) (kk : W p l e R s m args below meth c H locs cells slots Q (F0 m (pc + 1) ls (.long (i64 (jandL x y)) :: rest))) : W p l e R s m args below meth c H locs cells slots Q (F0 m pc ls (.long (i64 y) :: .long (i64 x) :: rest)) := lv_land S.1 S.2.1 hdg (by rw [jandL, i64_self] at kk; exact kk)
theorem Ylshr (S : CallFix p m c cc nL s args Ztbl own) (hdg : decode cc pc = .ok (.lshr, 1)) (kk : W p l e R s m args below meth c H locs cells slots Q (F0 m (pc + 1) ls (.long (i64 (jshrL x y)) :: rest))) : W p l e R s m args below meth c H locs cells slots Q (F0 m pc ls (.int (i32 y) :: .long (i64 x) :: rest)) := lv_lshr S.1 S.2.1 hdg (i64_self _).symm kk
theorem Ylushr (S : CallFix p m c cc nL s args Ztbl own) (hdg : decode cc pc = .ok (.lushr, 1)) (kk : W p l e R s m args below meth c H locs cells slots Q (F0 m (pc + 1) ls (.long (i64 (jushrL x y)) :: rest))) : W p l e R s m args below meth c H locs cells slots Q (F0 m pc ls (.int (i32 y) :: .long (i64 x) :: rest)) := lv_lushr S.1 S.2.1 hdg (i64_self _).symm kk
theorem Yineg (S : CallFix p m c cc nL s args Ztbl own) (hdg : decode cc pc = .ok (.ineg, 1)) (kk : W p l e R s m args below meth c H locs cells slots Q (F0 m (pc + 1) ls (.int (i32 (-x)) :: rest))) : W p l e R s m args below meth c H locs cells slots Q (F0 m pc ls (.int (i32 x) :: rest)) := lv_ineg S.1 S.2.1 hdg (by rw [i32_neg]; exact kk)
theorem Yi2b (S : CallFix p m c cc nL s args Ztbl own) (hdg : decode cc pc = .ok (.i2b, 1)) (kk : W p l e R s m args below meth c H locs cells slots Q (F0 m (pc + 1) ls (.int (i32 (ji2b x)) :: rest))) : W p l e R s m args below meth c H locs cells slots Q (F0 m pc ls (.int (i32 x) :: rest)) := lv_i2b S.1 S.2.1 hdg (i32_self _).symm kk
theorem Yi2c (S : CallFix p m c cc nL s args Ztbl own) (hdg : decode cc pc = .ok (.i2c, 1)) (kk : W p l e R s m args below meth c H locs cells slots Q (F0 m (pc + 1) ls (.int (i32 (ji2c x)) :: rest))) : W p l e R s m args below meth c H locs cells slots Q (F0 m pc ls (.int (i32 x) :: rest)) := lv_i2c S.1 S.2.1 hdg (i32_self _).symm kk
theorem Yl2i (S : CallFix p m c cc nL s args Ztbl own) (hdg : decode cc pc = .ok (.l2i, 1)) (kk : W p l e R s m args below meth c H locs cells slots Q (F0 m (pc + 1) ls (.int (i32 (jl2i x)) :: rest))) : W p l e R s m args below meth c H locs cells slots Q (F0 m pc ls (.long (i64 x) :: rest)) := lv_l2i S.1 S.2.1 hdg (i32_self _).symm kk
theorem Yi2l (S : CallFix p m c cc nL s args Ztbl own) (hx : InR x) (hdg : decode cc pc = .ok (.i2l, 1)) (kk : W p l e R s m args below meth c H locs cells slots Q (F0 m (pc + 1) ls (.long (i64 x) :: rest))) : W p l e R s m args below meth c H locs cells slots Q (F0 m pc ls (.int (i32 x) :: rest)) := lv_i2l S.1 S.2.1 hdg (i32_l hx) kk
theorem Ylcmp (S : CallFix p m c cc nL s args Ztbl own) (hx : InL x) (hy : InL y) (hdg : decode cc pc = .ok (.lcmp, 1)) (kk : W p l e R s m args below meth c H locs cells slots Q (F0 m (pc + 1) ls (.int (i32 (jcmp x y)) :: rest))) : W p l e R s m args below meth c H locs cells slots Q (F0 m pc ls (.long (i64 y) :: .long (i64 x) :: rest)) := W.lcmp S.1 S.2.1 hdg (by rw [i64_cmp hx hy]; exact kk)
theorem Yiinc {x : Int} {n : Int} : i32 x + Int32.ofInt n = i32 (x + n) := i32_add x n
theorem Yicmp_eq (S : CallFix p m c cc nL s args Ztbl own) (hx : InR x) (hy : InR y) {off : Int} {tgt : Nat} (hdg : decode cc pc = .ok (.if_icmp .eq off, 3)) (ht : (pc : Int) + off = (tgt : Int)) (kt : x = y → W p l e R s m args below meth c H locs cells slots Q (F0 m tgt ls rest)) (kf : ¬ x = y → W p l e R s m args below meth c H locs cells slots Q (F0 m (pc + 3) ls rest)) : W p l e R s m args below meth c H locs cells slots Q (F0 m pc ls (.int (i32 y) :: .int (i32 x) :: rest)) := lv_icmp_eq S.1 S.2.1 hdg ht (fun h => kt ((i32_eq hx hy).mp h)) (fun h => kf (fun h2 => h ((i32_eq hx hy).mpr h2)))
theorem Yicmp_ne (S : CallFix p m c cc nL s args Ztbl own) (hx : InR x) (hy : InR y) {off : Int} {tgt : Nat} (hdg : decode cc pc = .ok (.if_icmp .ne off, 3)) (ht : (pc : Int) + off = (tgt : Int)) (kt : ¬ x = y → W p l e R s m args below meth c H locs cells slots Q (F0 m tgt ls rest)) (kf : x = y → W p l e R s m args below meth c H locs cells slots Q (F0 m (pc + 3) ls rest)) : W p l e R s m args below meth c H locs cells slots Q (F0 m pc ls (.int (i32 y) :: .int (i32 x) :: rest)) := lv_icmp_ne S.1 S.2.1 hdg ht (fun h => kt (fun h2 => h ((i32_eq hx hy).mpr h2))) (fun h => kf ((i32_eq hx hy).mp h))
theorem Yicmp_lt (S : CallFix p m c cc nL s args Ztbl own) (hx : InR x) (hy : InR y) {off : Int} {tgt : Nat} (hdg : decode cc pc = .ok (.if_icmp .lt off, 3)) (ht : (pc : Int) + off = (tgt : Int)) (kt : x < y → W p l e R s m args below meth c H locs cells slots Q (F0 m tgt ls rest)) (kf : ¬ x < y → W p l e R s m args below meth c H locs cells slots Q (F0 m (pc + 3) ls rest)) : W p l e R s m args below meth c H locs cells slots Q (F0 m pc ls (.int (i32 y) :: .int (i32 x) :: rest)) := lv_icmp_lt S.1 S.2.1 hdg ht (fun h => kt ((i32_lt hx hy).mp h)) (fun h => kf (fun h2 => h ((i32_lt hx hy).mpr h2)))
theorem Yicmp_ge (S : CallFix p m c cc nL s args Ztbl own) (hx : InR x) (hy : InR y) {off : Int} {tgt : Nat} (hdg : decode cc pc = .ok (.if_icmp .ge off, 3)) (ht : (pc : Int) + off = (tgt : Int)) (kt : y ≤ x → W p l e R s m args below meth c H locs cells slots Q (F0 m tgt ls rest)) (kf : ¬ y ≤ x → W p l e R s m args below meth c H locs cells slots Q (F0 m (pc + 3) ls rest)) : W p l e R s m args below meth c H locs cells slots Q (F0 m pc ls (.int (i32 y) :: .int (i32 x) :: rest)) := lv_icmp_ge S.1 S.2.1 hdg ht (fun h => kt ((i32_le hy hx).mp h)) (fun h => kf (fun h2 => h ((i32_le hy hx).mpr h2)))
theorem Yicmp_gt (S : CallFix p m c cc nL s args Ztbl own) (hx : InR x) (hy : InR y) {off : Int} {tgt : Nat} (hdg : decode cc pc = .ok (.if_icmp .gt off, 3)) (ht : (pc : Int) + off = (tgt : Int)) (kt : y < x → W p l e R s m args below meth c H locs cells slots Q (F0 m tgt ls rest)) (kf : ¬ y < x → W p l e R s m args below meth c H locs cells slots Q (F0 m (pc + 3) ls rest)) : W p l e R s m args below meth c H locs cells slots Q (F0 m pc ls (.int (i32 y) :: .int (i32 x) :: rest)) := lv_icmp_gt S.1 S.2.1 hdg ht (fun h => kt ((i32_lt hy hx).mp h)) (fun h => kf (fun h2 => h ((i32_lt hy hx).mpr h2)))
theorem Yicmp_le (S : CallFix p m c cc nL s args Ztbl own) (hx : InR x) (hy : InR y) {off : Int} {tgt : Nat} (hdg : decode cc pc = .ok (.if_icmp .le off, 3)) (ht : (pc : Int) + off = (tgt : Int)) (kt : x ≤ y → W p l e R s m args below meth c H locs cells slots Q (F0 m tgt ls rest)) (kf : ¬ x ≤ y → W p l e R s m args below meth c H locs cells slots Q (F0 m (pc + 3) ls rest)) : W p l e R s m args below meth c H locs cells slots Q (F0 m pc ls (.int (i32 y) :: .int (i32 x) :: rest)) := lv_icmp_le S.1 S.2.1 hdg ht (fun h => kt ((i32_le hx hy).mp h)) (fun h => kf (fun h2 => h ((i32_le hx hy).mpr h2)))
theorem Yif_eq (S : CallFix p m c cc nL s args Ztbl own) (hx : InR x) {off : Int} {tgt : Nat} (hdg : decode cc pc = .ok (.ifCond .eq off, 3)) (ht : (pc : Int) + off = (tgt : Int)) (kt : x = 0 → W p l e R s m args below meth c H locs cells slots Q (F0 m tgt ls rest)) (kf : ¬ x = 0 → W p l e R s m args below meth c H locs cells slots Q (F0 m (pc + 3) ls rest)) : W p l e R s m args below meth c H locs cells slots Q (F0 m pc ls (.int (i32 x) :: rest)) := lv_if_eq S.1 S.2.1 hdg ht (fun h => kt ((i32_eq0 hx).mp h)) (fun h => kf (fun h2 => h ((i32_eq0 hx).mpr h2)))
theorem Yif_ne (S : CallFix p m c cc nL s args Ztbl own) (hx : InR x) {off : Int} {tgt : Nat} (hdg : decode cc pc = .ok (.ifCond .ne off, 3)) (ht : (pc : Int) + off = (tgt : Int)) (kt : ¬ x = 0 → W p l e R s m args below meth c H locs cells slots Q (F0 m tgt ls rest)) (kf : x = 0 → W p l e R s m args below meth c H locs cells slots Q (F0 m (pc + 3) ls rest)) : W p l e R s m args below meth c H locs cells slots Q (F0 m pc ls (.int (i32 x) :: rest)) := lv_if_ne S.1 S.2.1 hdg ht (fun h => kt (fun h2 => h ((i32_eq0 hx).mpr h2))) (fun h => kf ((i32_eq0 hx).mp h))
theorem Yif_lt (S : CallFix p m c cc nL s args Ztbl own) (hx : InR x) {off : Int} {tgt : Nat} (hdg : decode cc pc = .ok (.ifCond .lt off, 3)) (ht : (pc : Int) + off = (tgt : Int)) (kt : x < 0 → W p l e R s m args below meth c H locs cells slots Q (F0 m tgt ls rest)) (kf : ¬ x < 0 → W p l e R s m args below meth c H locs cells slots Q (F0 m (pc + 3) ls rest)) : W p l e R s m args below meth c H locs cells slots Q (F0 m pc ls (.int (i32 x) :: rest)) := lv_if_lt S.1 S.2.1 hdg ht (fun h => kt ((i32_lt0 hx).mp h)) (fun h => kf (fun h2 => h ((i32_lt0 hx).mpr h2)))
theorem Yif_ge (S : CallFix p m c cc nL s args Ztbl own) (hx : InR x) {off : Int} {tgt : Nat} (hdg : decode cc pc = .ok (.ifCond .ge off, 3)) (ht : (pc : Int) + off = (tgt : Int)) (kt : 0 ≤ x → W p l e R s m args below meth c H locs cells slots Q (F0 m tgt ls rest)) (kf : ¬ 0 ≤ x → W p l e R s m args below meth c H locs cells slots Q (F0 m (pc + 3) ls rest)) : W p l e R s m args below meth c H locs cells slots Q (F0 m pc ls (.int (i32 x) :: rest)) := lv_if_ge S.1 S.2.1 hdg ht (fun h => kt ((i32_ge0 hx).mp h)) (fun h => kf (fun h2 => h ((i32_ge0 hx).mpr h2)))
theorem Yif_gt (S : CallFix p m c cc nL s args Ztbl own) (hx : InR x) {off : Int} {tgt : Nat} (hdg : decode cc pc = .ok (.ifCond .gt off, 3)) (ht : (pc : Int) + off = (tgt : Int)) (kt : 0 < x → W p l e R s m args below meth c H locs cells slots Q (F0 m tgt ls rest)) (kf : ¬ 0 < x → W p l e R s m args below meth c H locs cells slots Q (F0 m (pc + 3) ls rest)) : W p l e R s m args below meth c H locs cells slots Q (F0 m pc ls (.int (i32 x) :: rest)) := lv_if_gt S.1 S.2.1 hdg ht (fun h => kt ((i32_gt0 hx).mp h)) (fun h => kf (fun h2 => h ((i32_gt0 hx).mpr h2)))
theorem Yif_le (S : CallFix p m c cc nL s args Ztbl own) (hx : InR x) {off : Int} {tgt : Nat} (hdg : decode cc pc = .ok (.ifCond .le off, 3)) (ht : (pc : Int) + off = (tgt : Int)) (kt : x ≤ 0 → W p l e R s m args below meth c H locs cells slots Q (F0 m tgt ls rest)) (kf : ¬ x ≤ 0 → W p l e R s m args below meth c H locs cells slots Q (F0 m (pc + 3) ls rest)) : W p l e R s m args below meth c H locs cells slots Q (F0 m pc ls (.int (i32 x) :: rest)) := lv_if_le S.1 S.2.1 hdg ht (fun h => kt ((i32_le0 hx).mp h)) (fun h => kf (fun h2 => h ((i32_le0 hx).mpr h2)))
theorem Yiald (S : CallFix p m c cc nL s args Ztbl own) (hw : ZW D cA ad A (Zc z) s H locs) {k n : Nat} (hd : ZDS[k]? = some (.inr (0, n))) (hk : k < 1000) {i : Int} (hi : InR i) (hin : IJ i n) (hdg : decode cc pc = .ok (.iaload, 1)) (kk : W p l e R s m args below meth c H locs cells slots Q (F0 m (pc + 1) ls (.int (i32 (z k i)) :: rest))) : W p l e R s m args below meth c H locs cells slots Q (F0 m pc ls (.int (i32 i) :: .ref (ad k) :: rest)) := Zial S hw hd (IJ_b hi hin) hdg (by rw [Zc1 hk, i32_clamp hi, IJ_n hin]; exact kk)
theorem Ybald (S : CallFix p m c cc nL s args Ztbl own) (hw : ZW D cA ad A (Zc z) s H locs) {k n : Nat} (hd : ZDS[k]? = some (.inr (1, n))) (hk : k < 1000) {i : Int} (hi : InR i) (hin : IJ i n) (hdg : decode cc pc = .ok (.baload, 1)) (kk : W p l e R s m args below meth c H locs cells slots Q (F0 m (pc + 1) ls (.int (i32 (z k i)) :: rest))) : W p l e R s m args below meth c H locs cells slots Q (F0 m pc ls (.int (i32 i) :: .ref (ad k) :: rest)) := Zbal S hw hd (IJ_b hi hin) hdg (by rw [Zc1 hk, i32_clamp hi, IJ_n hin]; exact kk)
theorem Yzald (S : CallFix p m c cc nL s args Ztbl own) (hw : ZW D cA ad A (Zc z) s H locs) {k n : Nat} (hd : ZDS[k]? = some (.inr (2, n))) (hk : k < 1000) {i : Int} (hi : InR i) (hin : IJ i n) (hdg : decode cc pc = .ok (.baload, 1)) (kk : W p l e R s m args below meth c H locs cells slots Q (F0 m (pc + 1) ls (.int (i32 (z k i)) :: rest))) : W p l e R s m args below meth c H locs cells slots Q (F0 m pc ls (.int (i32 i) :: .ref (ad k) :: rest)) := Zzal S hw hd (IJ_b hi hin) hdg (by rw [Zc1 hk, i32_clamp hi, IJ_n hin]; exact kk)
theorem Ylald (S : CallFix p m c cc nL s args Ztbl own) (hw : ZW D cA ad A (Zc z) s H locs) {k n : Nat} (hd : ZDS[k]? = some (.inr (3, n))) {i : Int} (hi : InR i) (hin : IJ i n) (hdg : decode cc pc = .ok (.laload, 1)) (kk : W p l e R s m args below meth c H locs cells slots Q (F0 m (pc + 1) ls (.long (i64 (z (k + 1000) i)) :: rest))) : W p l e R s m args below meth c H locs cells slots Q (F0 m pc ls (.int (i32 i) :: .ref (ad k) :: rest)) := Zlal S hw hd (IJ_b hi hin) hdg (by show W p l e R s m args below meth c H locs cells slots Q (F0 m (pc + 1) ls (.long (i64 (z (k + 1000) (((i32 i).toNatClampNeg : Nat) : Int))) :: rest)); rw [i32_clamp hi, IJ_n hin]; exact kk)
theorem Yl4 {k : Nat} (hk : k < 1000) (hz : Zok z) (h0 : 0 ≤ z 200 k) : ((((Zc z).1 200 k).toNatClampNeg : Nat) : Int) = z 200 k := by rw [Zc1 (by decide), i32_clamp (hz.1 _ _ (by decide))]; exact Int.toNat_of_nonneg h0
theorem Yiald4 (S : CallFix p m c cc nL s args Ztbl own) (hw : ZW D cA ad A (Zc z) s H locs) (hz : Zok z) {k n : Nat} (hd : ZDS[k]? = some (.inr (4, n))) (hk : k < 1000) {i : Int} (hi : InR i) (hin : IJ i (z 200 k)) (hdg : decode cc pc = .ok (.iaload, 1)) (kk : W p l e R s m args below meth c H locs cells slots Q (F0 m (pc + 1) ls (.int (i32 (z k i)) :: rest))) : W p l e R s m args below meth c H locs cells slots Q (F0 m pc ls (.int (i32 i) :: .ref (ad k) :: rest)) := Zial4 S hw hd (IJ_b hi ⟨hin.1, by rw [Yl4 hk hz (by have := hin.1; have := hin.2; omega)]; exact hin.2⟩) hdg (by rw [Zc1 hk, i32_clamp hi, IJ_n hin]; exact kk)
theorem Yiast (S : CallFix p m c cc nL s args Ztbl own) (hw : ZW D cA ad A (Zc z) s H locs) (hz : Zok z) {k n : Nat} (hd : ZDS[k]? = some (.inr (0, n))) (hk : k < 1000) {i : Int} (hi : InR i) (hx : InR x) (hin : IJ i n) (hdg : decode cc pc = .ok (.iastore, 1)) (kk : ∀ (z1 : ZI) (H1 : Heap) (locs1 : List Loc), z1 = Zup z k i x → Zok z1 → ZW D cA ad A (Zc z1) s H1 locs1 → W p l e R s m args below meth c H1 locs1 cells slots Q (F0 m (pc + 1) ls rest)) : W p l e R s m args below meth c H locs cells slots Q (F0 m pc ls (.int (i32 x) :: .int (i32 i) :: .ref (ad k) :: rest)) := Zias S hw hd (IJ_b hi hin) hdg (fun z1 H1 locs1 ez hw => kk _ H1 locs1 rfl (Zok_up hz hx) (by rw [ez, i32_clamp hi, Zc_up hk, IJ_n hin] at hw; exact hw))
theorem Yiast4 (S : CallFix p m c cc nL s args Ztbl own) (hw : ZW D cA ad A (Zc z) s H locs) (hz : Zok z) {k n : Nat} (hd : ZDS[k]? = some (.inr (4, n))) (hk : k < 1000) {i : Int} (hi : InR i) (hx : InR x) (hin : IJ i (z 200 k)) (hdg : decode cc pc = .ok (.iastore, 1)) (kk : ∀ (z1 : ZI) (H1 : Heap) (locs1 : List Loc), z1 = Zup z k i x → Zok z1 → ZW D cA ad A (Zc z1) s H1 locs1 → W p l e R s m args below meth c H1 locs1 cells slots Q (F0 m (pc + 1) ls rest)) : W p l e R s m args below meth c H locs cells slots Q (F0 m pc ls (.int (i32 x) :: .int (i32 i) :: .ref (ad k) :: rest)) := Zias4 S hw hd (IJ_b hi ⟨hin.1, by rw [Yl4 hk hz (by have := hin.1; have := hin.2; omega)]; exact hin.2⟩) hdg (fun z1 H1 locs1 ez hw => kk _ H1 locs1 rfl (Zok_up hz hx) (by rw [ez, i32_clamp hi, Zc_up hk, IJ_n hin] at hw; exact hw))
theorem Ybast (S : CallFix p m c cc nL s args Ztbl own) (hw : ZW D cA ad A (Zc z) s H locs) (hz : Zok z) {k n : Nat} (hd : ZDS[k]? = some (.inr (1, n))) (hk : k < 1000) {i : Int} (hi : InR i) (hx : InR x) (hb : -128 ≤ x ∧ x ≤ 127) (hin : IJ i n) (hdg : decode cc pc = .ok (.bastore, 1)) (kk : ∀ (z1 : ZI) (H1 : Heap) (locs1 : List Loc), z1 = Zup z k i x → Zok z1 → ZW D cA ad A (Zc z1) s H1 locs1 → W p l e R s m args below meth c H1 locs1 cells slots Q (F0 m (pc + 1) ls rest)) : W p l e R s m args below meth c H locs cells slots Q (F0 m pc ls (.int (i32 x) :: .int (i32 i) :: .ref (ad k) :: rest)) := Zbas S hw hd (IJ_b hi hin) hdg (fun z1 H1 locs1 ez hw => kk _ H1 locs1 rfl (Zok_up hz hx) (by rw [ez, i32_clamp hi, byte_fit hb, Zc_up hk, IJ_n hin] at hw; exact hw))
theorem Yzast (S : CallFix p m c cc nL s args Ztbl own) (hw : ZW D cA ad A (Zc z) s H locs) (hz : Zok z) {k n : Nat} (hd : ZDS[k]? = some (.inr (2, n))) (hk : k < 1000) {i : Int} (hi : InR i) (hx : InR x) (hb : x = 0 ∨ x = 1) (hin : IJ i n) (hdg : decode cc pc = .ok (.bastore, 1)) (kk : ∀ (z1 : ZI) (H1 : Heap) (locs1 : List Loc), z1 = Zup z k i x → Zok z1 → ZW D cA ad A (Zc z1) s H1 locs1 → W p l e R s m args below meth c H1 locs1 cells slots Q (F0 m (pc + 1) ls rest)) : W p l e R s m args below meth c H locs cells slots Q (F0 m pc ls (.int (i32 x) :: .int (i32 i) :: .ref (ad k) :: rest)) := Zzas S hw hd (IJ_b hi hin) hdg (fun z1 H1 locs1 ez hw => kk _ H1 locs1 rfl (Zok_up hz hx) (by rw [ez, i32_clamp hi, bool_fit hb, Zc_up hk, IJ_n hin] at hw; exact hw))
theorem Ylast (S : CallFix p m c cc nL s args Ztbl own) (hw : ZW D cA ad A (Zc z) s H locs) (hz : Zok z) {k n : Nat} (hd : ZDS[k]? = some (.inr (3, n))) (hk : k < 1000) {i : Int} (hi : InR i) (hx : InL x) (hin : IJ i n) (hdg : decode cc pc = .ok (.lastore, 1)) (kk : ∀ (z1 : ZI) (H1 : Heap) (locs1 : List Loc), z1 = Zup z (k + 1000) i x → Zok z1 → ZW D cA ad A (Zc z1) s H1 locs1 → W p l e R s m args below meth c H1 locs1 cells slots Q (F0 m (pc + 1) ls rest)) : W p l e R s m args below meth c H locs cells slots Q (F0 m pc ls (.long (i64 x) :: .int (i32 i) :: .ref (ad k) :: rest)) := Zlas S hw hd (IJ_b hi hin) hdg (fun z1 H1 locs1 ez hw => kk _ H1 locs1 rfl (Zok_upL hz hx) (by rw [ez, i32_clamp hi, Zc_upL, IJ_n hin] at hw; exact hw))
theorem Yalen (S : CallFix p m c cc nL s args Ztbl own) (hw : ZW D cA ad A (Zc z) s H locs) {k n : Nat} (hd : ZDS[k]? = some (.inr (0, n))) (hdg : decode cc pc = .ok (.arraylength, 1)) (kk : W p l e R s m args below meth c H locs cells slots Q (F0 m (pc + 1) ls (.int (i32 (n : Int)) :: rest))) : W p l e R s m args below meth c H locs cells slots Q (F0 m pc ls (.ref (ad k) :: rest)) := Zalen S hw hd (v := i32 (n : Int)) (Int32.ofInt_eq_ofNat ▸ rfl) hdg kk
theorem Yalen4 (S : CallFix p m c cc nL s args Ztbl own) (hw : ZW D cA ad A (Zc z) s H locs) (hz : Zok z) {k n : Nat} (hd : ZDS[k]? = some (.inr (4, n))) (hk : k < 1000) (h0 : 0 ≤ z 200 k) (hdg : decode cc pc = .ok (.arraylength, 1)) (kk : W p l e R s m args below meth c H locs cells slots Q (F0 m (pc + 1) ls (.int (i32 (z 200 k)) :: rest))) : W p l e R s m args below meth c H locs cells slots Q (F0 m pc ls (.ref (ad k) :: rest)) := Zalen4 S hw hd hdg (by rw [← Yl4 hk hz h0] at kk; exact kk)
theorem Yput {z : ZI} {k j : Nat} {v : Int} {Z1 : ZS} {U : State} {H1 : Heap} {locs1 : List Loc} (hk : k < 1000) (ez : Z1 = Zset (Zc z) k (upd ((Zc z).1 k) j (i32 v))) (hw : ZW D cA ad A Z1 U H1 locs1) : ZW D cA ad A (Zc (Zup z k (j : Int) v)) U H1 locs1 := by
  rw [ez, Zc_up hk] at hw
  exact hw
def YcpOk (z : ZI) (k0 n0 n1 : Nat) (sp dp n : Int) : Prop := 0 ≤ sp ∧ 0 ≤ dp ∧ 0 ≤ n ∧ sp + n ≤ n0 ∧ dp + n ≤ n1 ∧ ∀ i, sp ≤ i → i < sp + n → -128 ≤ z k0 i ∧ z k0 i ≤ 127
theorem Ycopy {lv : List (Nat × Value)} {index k0 k1 n0 n1 : Nat} {sp dp n : Int} (S : CallFix p m c cc nL s args Ztbl own) (hw : ZW D cA ad A (Zc z) s H locs) (hz : Zok z) (hl : lv_has ls nL lv) (hd0 : ZDS[k0]? = some (.inr (1, n0))) (hd1 : ZDS[k1]? = some (.inr (1, n1))) (hk0 : k0 < 1000) (hk1 : k1 < 1000) (hsp : InR sp) (hdp : InR dp) (hn : InR n) (ok : YcpOk z k0 n0 n1 sp dp n) (ml : Cond.methodLink own index arraycopyName ∈ Ztbl) (hf : 1 ≤ R.frames) (hlo : (rest.map fun v => v.category).sum + (nativeFrameWords "java/lang/System" "arraycopy" 5 + 11) ≤ R.locals) (hdg : decode cc pc = .ok (.invokestatic index, 3))
    (kk : ∀ (z1 : ZI) (H1 : Heap) (locs1 : List Loc), z1 = Zcp z k0 k1 sp dp n → Zok z1 → ZW D cA ad A (Zc z1) s H1 locs1 → W p l e R s m args below meth c H1 locs1 cells slots Q (F0 m (pc + 3) ls rest)) : W p l e R s m args below meth c H locs cells slots Q (F0 m pc ls (.int (i32 n) :: .int (i32 dp) :: .ref (ad k1) :: .int (i32 sp) :: .ref (ad k0) :: rest)) := by
  obtain ⟨o1, o2, o3, o4, o5, o6⟩ := ok
  have e1 : (((i32 sp).toNatClampNeg : Nat) : Int) = sp := by rw [i32_clamp hsp]; exact Int.toNat_of_nonneg o1
  have e2 : (((i32 dp).toNatClampNeg : Nat) : Int) = dp := by rw [i32_clamp hdp]; exact Int.toNat_of_nonneg o2
  have e3 : (((i32 n).toNatClampNeg : Nat) : Int) = n := by rw [i32_clamp hn]; exact Int.toNat_of_nonneg o3
  refine Zcopy S hw hl hd0 hd1 ⟨fun h => ?_, fun h => ?_, fun h => ?_, by omega, by omega, fun i hi => ?_⟩ ml hf hlo hdg (fun z1 H1 locs1 ez hw => kk _ H1 locs1 rfl (Zok_cp hz hk0) ?_)
  · have := (i32_lt0 hsp).mp h; omega
  · have := (i32_lt0 hdp).mp h; omega
  · have := (i32_lt0 hn).mp h; omega
  · rw [Zc1 hk0]
    exact fits_byte (o6 _ (by omega) (by omega))
  · rw [ez, Zc_cp hk0 hk1, e1, e2, e3] at hw
    exact hw
abbrev YQi (D : va_G) (cA : Nat → ClassId) (ad : Nat → Nat) (r : Int) (z1 : ZI) : Array Value → State → Outcome → State → Prop := va_Qi (fun r' u => r' = i32 r ∧ u = Zc z1 ∧ InR r ∧ Zok z1) (ZO D cA ad) (ZA ad)
abbrev YQl (D : va_G) (cA : Nat → ClassId) (ad : Nat → Nat) (r : Int) (z1 : ZI) : Array Value → State → Outcome → State → Prop := va_Ql (fun r' u => r' = i64 r ∧ u = Zc z1 ∧ InL r ∧ Zok z1) (ZO D cA ad) (ZA ad)
abbrev YQv (D : va_G) (cA : Nat → ClassId) (ad : Nat → Nat) (z1 : ZI) : Array Value → State → Outcome → State → Prop := va_Qv (fun u => u = Zc z1 ∧ Zok z1) (ZO D cA ad) (ZA ad)
def YMi (l : Launch) (D : va_G) (cA : Nat → ClassId) (ad : Nat → Nat) (h : Nat) (y : MethodName) (b : ByteArray) (n : Nat) (rt : Option FieldType) (avs : List Value) (z : ZI) (r : Int) (z1 : ZI) : Prop := Met l y (ZV y b n rt) (Zrm h) (ZPc D cA ad avs (Zc z)) (YQi D cA ad r z1) 0 0 (ZA ad)
def YMl (l : Launch) (D : va_G) (cA : Nat → ClassId) (ad : Nat → Nat) (h : Nat) (y : MethodName) (b : ByteArray) (n : Nat) (avs : List Value) (z : ZI) (r : Int) (z1 : ZI) : Prop := Met l y (ZV y b n (some .long)) (Zrm h) (ZPc D cA ad avs (Zc z)) (YQl D cA ad r z1) 0 0 (ZA ad)
def YMv (l : Launch) (D : va_G) (cA : Nat → ClassId) (ad : Nat → Nat) (h : Nat) (y : MethodName) (b : ByteArray) (n : Nat) (avs : List Value) (z : ZI) (z1 : ZI) : Prop := Met l y (ZV y b n none) (Zrm h) (ZPc D cA ad avs (Zc z)) (YQv D cA ad z1) 0 0 (ZA ad)
variable {y : MethodName} {b : ByteArray} {mx n index h : Nat} {rt : Option FieldType} {As st0 : List Value} {z1 : ZI}
theorem YcallVi (S : CallFix p m c cc nL s args Ztbl own) (hw : ZW D cA ad A (Zc z) s H locs) {r : Int} {k ci : Nat} {fk : List (Option Nat)} {q : vw_C} (hM : YMi l D cA ad h y b mx rt (.ref (ad k) :: As) z r z1) (hy : ZyV y b mx rt n) (hi : ZyI y) (hl : Cond.methodLink own index y ∈ Ztbl) (hd : ZDS[k]? = some (.inl (ci, fk))) (hc : ZCL[ci]? = some q) (hq : q.1 = y.cls) (hR : h + 1 ≤ R.frames ∧ 60 * (h + 1) ≤ R.locals) (hcs : cells ≤ R.cells ∧ slots ≤ R.slots) (hls : ls.size = nL) (hn : As.length = n) (hst : st0 = As.reverse ++ .ref (ad k) :: rest) (hro : (rest.map fun v => v.category).sum ≤ 8) (hdg : decode cc pc = .ok (.invokevirtual index, 3))
    (kk : InR r → Zok z1 → ∀ (H1 : Heap) (locs1 : List Loc), ZW D cA ad A (Zc z1) s H1 locs1 → W p l e R s m args below meth c H1 locs1 cells slots Q (F0 m (pc + 3) ls (.int (i32 r) :: rest))) : W p l e R s m args below meth c H locs cells slots Q (F0 m pc ls st0) :=
  va_calli (va_runV (C := y.cls) (As := As) (rest := rest) S hM ⟨Zcb S hy hl hR, S.2.2.2.2 _ hi.1, S.2.2.2.2 _ hi.2⟩ ⟨Zblind, hq ▸ Zrecv hw hd hc, Zdown hw⟩ rfl hn hls hst (lv_room hro) hdg hcs) hw.2.2.2 (fun q _ h => ZA_in hw q h) (ZA_in hw) (fun r' u t H1 locs1 ht _ hp hB _ _ hS => by
    obtain ⟨rfl, rfl, hr, hz⟩ := hp
    exact kk hr hz H1 locs1 (ZW_call hw ht hB hS))
theorem YcallVv (S : CallFix p m c cc nL s args Ztbl own) (hw : ZW D cA ad A (Zc z) s H locs) {k ci : Nat} {fk : List (Option Nat)} {q : vw_C} (hM : YMv l D cA ad h y b mx (.ref (ad k) :: As) z z1) (hy : ZyV y b mx none n) (hi : ZyI y) (hl : Cond.methodLink own index y ∈ Ztbl) (hd : ZDS[k]? = some (.inl (ci, fk))) (hc : ZCL[ci]? = some q) (hq : q.1 = y.cls) (hR : h + 1 ≤ R.frames ∧ 60 * (h + 1) ≤ R.locals) (hcs : cells ≤ R.cells ∧ slots ≤ R.slots) (hls : ls.size = nL) (hn : As.length = n) (hst : st0 = As.reverse ++ .ref (ad k) :: rest) (hro : (rest.map fun v => v.category).sum ≤ 8) (hdg : decode cc pc = .ok (.invokevirtual index, 3))
    (kk : Zok z1 → ∀ (H1 : Heap) (locs1 : List Loc), ZW D cA ad A (Zc z1) s H1 locs1 → W p l e R s m args below meth c H1 locs1 cells slots Q (F0 m (pc + 3) ls rest)) : W p l e R s m args below meth c H locs cells slots Q (F0 m pc ls st0) :=
  va_callv (va_runV (C := y.cls) (As := As) (rest := rest) S hM ⟨Zcb S hy hl hR, S.2.2.2.2 _ hi.1, S.2.2.2.2 _ hi.2⟩ ⟨Zblind, hq ▸ Zrecv hw hd hc, Zdown hw⟩ rfl hn hls hst (lv_room hro) hdg hcs) hw.2.2.2 (fun q _ h => ZA_in hw q h) (ZA_in hw) (fun u t H1 locs1 ht _ hp hB _ _ hS => by
    obtain ⟨rfl, hz⟩ := hp
    exact kk hz H1 locs1 (ZW_call hw ht hB hS))
theorem YcallNi {host : String} (S : CallFix p m c cc nL s args Ztbl own) (hw : ZW D cA ad A (Zc z) s H locs) {r : Int} {k ci : Nat} {fk : List (Option Nat)} {q : vw_C} (hM : YMi l D cA ad h y b mx rt (.ref (ad k) :: As) z r z1) (hy : ZyV y b mx rt n) (hi : ZyI y) (hl : Cond.methodLinkNest own index y host ∈ Znl) (hd : ZDS[k]? = some (.inl (ci, fk))) (hc : ZCL[ci]? = some q) (hq : q.1 = y.cls) (hR : h + 1 ≤ R.frames ∧ 60 * (h + 1) ≤ R.locals) (hcs : cells ≤ R.cells ∧ slots ≤ R.slots) (hls : ls.size = nL) (hn : As.length = n) (hst : st0 = As.reverse ++ .ref (ad k) :: rest) (hro : (rest.map fun v => v.category).sum ≤ 8) (hdg : decode cc pc = .ok (.invokevirtual index, 3))
    (kk : InR r → Zok z1 → ∀ (H1 : Heap) (locs1 : List Loc), ZW D cA ad A (Zc z1) s H1 locs1 → W p l e R s m args below meth c H1 locs1 cells slots Q (F0 m (pc + 3) ls (.int (i32 r) :: rest))) : W p l e R s m args below meth c H locs cells slots Q (F0 m pc ls st0) :=
  va_calli (va_runVN (C := y.cls) (As := As) (rest := rest) S hM ⟨Zcn S hw hy hl hR, S.2.2.2.2 _ hi.1, S.2.2.2.2 _ hi.2⟩ ⟨Zblind, hq ▸ Zrecv hw hd hc, Zdown hw⟩ rfl hn hls hst (lv_room hro) hdg hcs) hw.2.2.2 (fun q _ h => ZA_in hw q h) (ZA_in hw) (fun r' u t H1 locs1 ht _ hp hB _ _ hS => by
    obtain ⟨rfl, rfl, hr, hz⟩ := hp
    exact kk hr hz H1 locs1 (ZW_call hw ht hB hS))
theorem YcallSi (S : CallFix p m c cc nL s args Ztbl own) (hw : ZW D cA ad A (Zc z) s H locs) {r : Int} (hM : YMi l D cA ad h y b mx rt As z r z1) (hy : ZyV y b mx rt n) (hi : Cond.static y ∈ Ztbl) (hl : Cond.methodLink own index y ∈ Ztbl) (hR : h + 1 ≤ R.frames ∧ 60 * (h + 1) ≤ R.locals) (hcs : cells ≤ R.cells ∧ slots ≤ R.slots) (hls : ls.size = nL) (hn : As.length = n) (hst : st0 = As.reverse ++ rest) (hro : (rest.map fun v => v.category).sum ≤ 8) (hdg : decode cc pc = .ok (.invokestatic index, 3))
    (kk : InR r → Zok z1 → ∀ (H1 : Heap) (locs1 : List Loc), ZW D cA ad A (Zc z1) s H1 locs1 → W p l e R s m args below meth c H1 locs1 cells slots Q (F0 m (pc + 3) ls (.int (i32 r) :: rest))) : W p l e R s m args below meth c H locs cells slots Q (F0 m pc ls st0) :=
  va_calli (va_runS (As := As) (rest := rest) S hM ⟨Zcb S hy hl hR, S.2.2.2.2 _ hi⟩ ⟨Zblind, Zdown hw⟩ rfl hn hls hst (lv_room hro) hdg hcs) hw.2.2.2 (fun q _ h => ZA_in hw q h) (ZA_in hw) (fun r' u t H1 locs1 ht _ hp hB _ _ hS => by
    obtain ⟨rfl, rfl, hr, hz⟩ := hp
    exact kk hr hz H1 locs1 (ZW_call hw ht hB hS))
theorem YcallSl (S : CallFix p m c cc nL s args Ztbl own) (hw : ZW D cA ad A (Zc z) s H locs) {r : Int} (hM : YMl l D cA ad h y b mx As z r z1) (hy : ZyV y b mx (some .long) n) (hi : Cond.static y ∈ Ztbl) (hl : Cond.methodLink own index y ∈ Ztbl) (hR : h + 1 ≤ R.frames ∧ 60 * (h + 1) ≤ R.locals) (hcs : cells ≤ R.cells ∧ slots ≤ R.slots) (hls : ls.size = nL) (hn : As.length = n) (hst : st0 = As.reverse ++ rest) (hro : (rest.map fun v => v.category).sum ≤ 8) (hdg : decode cc pc = .ok (.invokestatic index, 3))
    (kk : InL r → Zok z1 → ∀ (H1 : Heap) (locs1 : List Loc), ZW D cA ad A (Zc z1) s H1 locs1 → W p l e R s m args below meth c H1 locs1 cells slots Q (F0 m (pc + 3) ls (.long (i64 r) :: rest))) : W p l e R s m args below meth c H locs cells slots Q (F0 m pc ls st0) :=
  va_calll (va_runS (As := As) (rest := rest) S hM ⟨Zcb S hy hl hR, S.2.2.2.2 _ hi⟩ ⟨Zblind, Zdown hw⟩ rfl hn hls hst (lv_room hro) hdg hcs) hw.2.2.2 (fun q _ h => ZA_in hw q h) (ZA_in hw) (fun r' u t H1 locs1 ht _ hp hB _ _ hS => by
    obtain ⟨rfl, rfl, hr, hz⟩ := hp
    exact kk hr hz H1 locs1 (ZW_call hw ht hB hS))
theorem YcallSv (S : CallFix p m c cc nL s args Ztbl own) (hw : ZW D cA ad A (Zc z) s H locs) (hM : YMv l D cA ad h y b mx As z z1) (hy : ZyV y b mx none n) (hi : Cond.static y ∈ Ztbl) (hl : Cond.methodLink own index y ∈ Ztbl) (hR : h + 1 ≤ R.frames ∧ 60 * (h + 1) ≤ R.locals) (hcs : cells ≤ R.cells ∧ slots ≤ R.slots) (hls : ls.size = nL) (hn : As.length = n) (hst : st0 = As.reverse ++ rest) (hro : (rest.map fun v => v.category).sum ≤ 8) (hdg : decode cc pc = .ok (.invokestatic index, 3))
    (kk : Zok z1 → ∀ (H1 : Heap) (locs1 : List Loc), ZW D cA ad A (Zc z1) s H1 locs1 → W p l e R s m args below meth c H1 locs1 cells slots Q (F0 m (pc + 3) ls rest)) : W p l e R s m args below meth c H locs cells slots Q (F0 m pc ls st0) :=
  va_callv (va_runS (As := As) (rest := rest) S hM ⟨Zcb S hy hl hR, S.2.2.2.2 _ hi⟩ ⟨Zblind, Zdown hw⟩ rfl hn hls hst (lv_room hro) hdg hcs) hw.2.2.2 (fun q _ h => ZA_in hw q h) (ZA_in hw) (fun u t H1 locs1 ht _ hp hB _ _ hS => by
    obtain ⟨rfl, hz⟩ := hp
    exact kk hz H1 locs1 (ZW_call hw ht hB hS))
theorem YcallTi (S : CallFix p m c cc nL s args Ztbl own) (hw : ZW D cA ad A (Zc z) s H locs) {r : Int} (hM : YMi l D cA ad h y b mx rt (.ref (ad 301) :: As) z r z1) (hy : ZyV y b mx rt n) (hi : ZyI y) (hl : Cond.methodLink own index y ∈ Ztbl) (hq : "java/lang/String" = y.cls) (hR : h + 1 ≤ R.frames ∧ 60 * (h + 1) ≤ R.locals) (hcs : cells ≤ R.cells ∧ slots ≤ R.slots) (hls : ls.size = nL) (hn : As.length = n) (hst : st0 = As.reverse ++ .ref (ad 301) :: rest) (hro : (rest.map fun v => v.category).sum ≤ 8) (hdg : decode cc pc = .ok (.invokevirtual index, 3))
    (kk : InR r → Zok z1 → ∀ (H1 : Heap) (locs1 : List Loc), ZW D cA ad A (Zc z1) s H1 locs1 → W p l e R s m args below meth c H1 locs1 cells slots Q (F0 m (pc + 3) ls (.int (i32 r) :: rest))) : W p l e R s m args below meth c H locs cells slots Q (F0 m pc ls st0) :=
  va_calli (va_runV (C := y.cls) (As := As) (rest := rest) S hM ⟨Zcb S hy hl hR, S.2.2.2.2 _ hi.1, S.2.2.2.2 _ hi.2⟩ ⟨Zblind, hq ▸ Zstr hw, Zdown hw⟩ rfl hn hls hst (lv_room hro) hdg hcs) hw.2.2.2 (fun q _ h => ZA_in hw q h) (ZA_in hw) (fun r' u t H1 locs1 ht _ hp hB _ _ hS => by
    obtain ⟨rfl, rfl, hr, hz⟩ := hp
    exact kk hr hz H1 locs1 (ZW_call hw ht hB hS))
theorem Yireti {r : Int} {RR : Int × ZI} (S : CallFix p m c cc nL s args Ztbl own) (hw : ZW D cA ad (ZA ad) (Zc z) s H locs) (hz : Zok z) (hi : InR r) (hr : meth.sig.returnType = some .int) (hlk : meth.locks = false) (hF : some (r, z) = some RR) (hdg : decode cc pc = .ok (.ireturn, 1)) : W p l e R s m args below meth c H locs cells slots (MQ below (YQi D cA ad RR.1 RR.2) args s cells slots (ZA ad)) (F0 m pc ls [.int (i32 r)]) := by
  obtain rfl := Option.some.inj hF
  exact W.iret S.1 S.2.1 hr (fun t ht hW => ⟨⟨i32 r, Zc z, rfl, ⟨rfl, rfl, hi, hz⟩, by show va_P _ _ _ _; rw [ht]; exact hw.2.1⟩, hw.2.2.2.F ht⟩) hw.2.2.2.2.2 hdg hlk
theorem Yiretz {r : Int} {RR : Int × ZI} (S : CallFix p m c cc nL s args Ztbl own) (hw : ZW D cA ad (ZA ad) (Zc z) s H locs) (hz : Zok z) (hi : InR r) (hr : meth.sig.returnType = some .boolean) (hlk : meth.locks = false) (h01 : r = 0 ∨ r = 1) (hF : some (r, z) = some RR) (hdg : decode cc pc = .ok (.ireturn, 1)) : W p l e R s m args below meth c H locs cells slots (MQ below (YQi D cA ad RR.1 RR.2) args s cells slots (ZA ad)) (F0 m pc ls [.int (i32 r)]) := by
  obtain rfl := Option.some.inj hF
  exact W.zret S.1 S.2.1 hr (by rcases h01 with rfl | rfl <;> rfl) (fun t ht hW => ⟨⟨i32 r, Zc z, rfl, ⟨rfl, rfl, hi, hz⟩, by show va_P _ _ _ _; rw [ht]; exact hw.2.1⟩, hw.2.2.2.F ht⟩) hw.2.2.2.2.2 hdg hlk
theorem Yiretb {r : Int} {RR : Int × ZI} (S : CallFix p m c cc nL s args Ztbl own) (hw : ZW D cA ad (ZA ad) (Zc z) s H locs) (hz : Zok z) (hi : InR r) (hr : meth.sig.returnType = some .byte) (hlk : meth.locks = false) (h01 : r = 0 ∨ r = 1) (hF : some (r, z) = some RR) (hdg : decode cc pc = .ok (.ireturn, 1)) : W p l e R s m args below meth c H locs cells slots (MQ below (YQi D cA ad RR.1 RR.2) args s cells slots (ZA ad)) (F0 m pc ls [.int (i32 r)]) := by
  obtain rfl := Option.some.inj hF
  exact W.zret S.1 S.2.1 hr (by rcases h01 with rfl | rfl <;> rfl) (fun t ht hW => ⟨⟨i32 r, Zc z, rfl, ⟨rfl, rfl, hi, hz⟩, by show va_P _ _ _ _; rw [ht]; exact hw.2.1⟩, hw.2.2.2.F ht⟩) hw.2.2.2.2.2 hdg hlk
theorem Ylretl {r : Int} {RR : Int × ZI} (S : CallFix p m c cc nL s args Ztbl own) (hw : ZW D cA ad (ZA ad) (Zc z) s H locs) (hz : Zok z) (hi : InL r) (hr : meth.sig.returnType = some .long) (hlk : meth.locks = false) (hF : some (r, z) = some RR) (hdg : decode cc pc = .ok (.lreturn, 1)) : W p l e R s m args below meth c H locs cells slots (MQ below (YQl D cA ad RR.1 RR.2) args s cells slots (ZA ad)) (F0 m pc ls [.long (i64 r)]) := by
  obtain rfl := Option.some.inj hF
  exact W.lret S.1 S.2.1 hr (fun t ht hW => ⟨⟨i64 r, Zc z, rfl, ⟨rfl, rfl, hi, hz⟩, by show va_P _ _ _ _; rw [ht]; exact hw.2.1⟩, hw.2.2.2.F ht⟩) hw.2.2.2.2.2 hdg hlk
theorem Yvret {RR : Unit × ZI} (S : CallFix p m c cc nL s args Ztbl own) (hw : ZW D cA ad (ZA ad) (Zc z) s H locs) (hz : Zok z) (hr : meth.sig.returnType = none) (hlk : meth.locks = false) (hF : some ((), z) = some RR) (hdg : decode cc pc = .ok (.return_, 1)) : W p l e R s m args below meth c H locs cells slots (MQ below (YQv D cA ad RR.2) args s cells slots (ZA ad)) (F0 m pc ls []) := by
  obtain rfl := Option.some.inj hF
  exact W.vret S.1 S.2.1 hr (fun t ht hW => ⟨⟨Zc z, rfl, ⟨rfl, hz⟩, by show va_P _ _ _ _; rw [ht]; exact hw.2.1⟩, hw.2.2.2.F ht⟩) hw.2.2.2.2.2 hdg hlk
theorem Ymmax {x y : Int} (S : CallFix p m c cc nL s args Ztbl own) (hx : InR x) (hy : InR y) {lv : List (Nat × Value)} (hl : lv_has ls nL lv) {index : Nat} (ml : Cond.methodLink own index Lib.Math.max.name ∈ Ztbl) (hf : 1 ≤ R.frames) (hlo : (rest.map fun v => v.category).sum + 13 ≤ R.locals) (hcs : cells ≤ R.cells ∧ slots ≤ R.slots) (hdg : decode cc pc = .ok (.invokestatic index, 3)) (kk : W p l e R s m args below meth c H locs cells slots Q (F0 m (pc + 3) ls (.int (i32 (max x y)) :: rest))) : W p l e R s m args below meth c H locs cells slots Q (F0 m pc ls (.int (i32 y) :: .int (i32 x) :: rest)) := va_mmax S.1 S.2.1 (S.2.2.1.trans hl.1.symm) S.2.2.2.1 (S.2.2.2.2 _ ml) (S.2.2.2.2 _ jm_max.1) (S.2.2.2.2 _ jm_max.2.1) (S.2.2.2.2 _ jm_max.2.2) hf hlo hcs.1 hcs.2 hdg (by
  by_cases h : x < y
  · rw [if_pos ((i32_lt hx hy).mpr h)]; rw [show (max x y) = _ from by first | exact Int.max_eq_right (by omega) | exact Int.min_eq_right (by omega) | exact Int.max_eq_left (by omega)] at kk; exact kk
  · rw [if_neg (fun h2 => h ((i32_lt hx hy).mp h2))]; rw [show (max x y) = _ from by first | exact Int.max_eq_left (by omega) | exact Int.min_eq_left (by omega) | exact Int.max_eq_right (by omega)] at kk; exact kk)
theorem Ymmin {x y : Int} (S : CallFix p m c cc nL s args Ztbl own) (hx : InR x) (hy : InR y) {lv : List (Nat × Value)} (hl : lv_has ls nL lv) {index : Nat} (ml : Cond.methodLink own index Lib.Math.min.name ∈ Ztbl) (hf : 1 ≤ R.frames) (hlo : (rest.map fun v => v.category).sum + 13 ≤ R.locals) (hcs : cells ≤ R.cells ∧ slots ≤ R.slots) (hdg : decode cc pc = .ok (.invokestatic index, 3)) (kk : W p l e R s m args below meth c H locs cells slots Q (F0 m (pc + 3) ls (.int (i32 (min x y)) :: rest))) : W p l e R s m args below meth c H locs cells slots Q (F0 m pc ls (.int (i32 y) :: .int (i32 x) :: rest)) := va_mmin S.1 S.2.1 (S.2.2.1.trans hl.1.symm) S.2.2.2.1 (S.2.2.2.2 _ ml) (S.2.2.2.2 _ jm_min.1) (S.2.2.2.2 _ jm_min.2.1) (S.2.2.2.2 _ jm_min.2.2) hf hlo hcs.1 hcs.2 hdg (by
  by_cases h : y < x
  · rw [if_pos ((i32_lt hy hx).mpr h)]; rw [show (min x y) = _ from by first | exact Int.max_eq_right (by omega) | exact Int.min_eq_right (by omega) | exact Int.max_eq_left (by omega)] at kk; exact kk
  · rw [if_neg (fun h2 => h ((i32_lt hy hx).mp h2))]; rw [show (min x y) = _ from by first | exact Int.max_eq_left (by omega) | exact Int.min_eq_left (by omega) | exact Int.max_eq_right (by omega)] at kk; exact kk)
theorem YmmaxL {x y : Int} (S : CallFix p m c cc nL s args Ztbl own) (hx : InL x) (hy : InL y) {lv : List (Nat × Value)} (hl : lv_has ls nL lv) {index : Nat} (ml : Cond.methodLink own index Lib.MathLoose.max_long.x ∈ Ztbl) (hf : 1 ≤ R.frames) (hlo : (rest.map fun v => v.category).sum + 15 ≤ R.locals) (hcs : cells ≤ R.cells ∧ slots ≤ R.slots) (hdg : decode cc pc = .ok (.invokestatic index, 3)) (kk : W p l e R s m args below meth c H locs cells slots Q (F0 m (pc + 3) ls (.long (i64 (max x y)) :: rest))) : W p l e R s m args below meth c H locs cells slots Q (F0 m pc ls (.long (i64 y) :: .long (i64 x) :: rest)) := va_mmax_long S.1 S.2.1 (S.2.2.1.trans hl.1.symm) S.2.2.2.1 (S.2.2.2.2 _ ml) (S.2.2.2.2 _ jm_maxL.1) (S.2.2.2.2 _ jm_maxL.2.1) (S.2.2.2.2 _ jm_maxL.2.2) hf hlo hcs.1 hcs.2 hdg (by
  by_cases h : y < x
  · rw [if_pos ((i64_lt hy hx).mpr h)]; rw [show (max x y) = _ from by first | exact Int.max_eq_right (by omega) | exact Int.min_eq_right (by omega) | exact Int.max_eq_left (by omega)] at kk; exact kk
  · rw [if_neg (fun h2 => h ((i64_lt hy hx).mp h2))]; rw [show (max x y) = _ from by first | exact Int.max_eq_left (by omega) | exact Int.min_eq_left (by omega) | exact Int.max_eq_right (by omega)] at kk; exact kk)
theorem YmminL {x y : Int} (S : CallFix p m c cc nL s args Ztbl own) (hx : InL x) (hy : InL y) {lv : List (Nat × Value)} (hl : lv_has ls nL lv) {index : Nat} (ml : Cond.methodLink own index Lib.MathLoose.min_long.x ∈ Ztbl) (hf : 1 ≤ R.frames) (hlo : (rest.map fun v => v.category).sum + 15 ≤ R.locals) (hcs : cells ≤ R.cells ∧ slots ≤ R.slots) (hdg : decode cc pc = .ok (.invokestatic index, 3)) (kk : W p l e R s m args below meth c H locs cells slots Q (F0 m (pc + 3) ls (.long (i64 (min x y)) :: rest))) : W p l e R s m args below meth c H locs cells slots Q (F0 m pc ls (.long (i64 y) :: .long (i64 x) :: rest)) := va_mmin_long S.1 S.2.1 (S.2.2.1.trans hl.1.symm) S.2.2.2.1 (S.2.2.2.2 _ ml) (S.2.2.2.2 _ jm_minL.1) (S.2.2.2.2 _ jm_minL.2.1) (S.2.2.2.2 _ jm_minL.2.2) hf hlo hcs.1 hcs.2 hdg (by
  by_cases h : y < x
  · rw [if_pos ((i64_lt hy hx).mpr h)]; rw [show (min x y) = _ from by first | exact Int.max_eq_right (by omega) | exact Int.min_eq_right (by omega) | exact Int.max_eq_left (by omega)] at kk; exact kk
  · rw [if_neg (fun h2 => h ((i64_lt hy hx).mp h2))]; rw [show (min x y) = _ from by first | exact Int.max_eq_left (by omega) | exact Int.min_eq_left (by omega) | exact Int.max_eq_right (by omega)] at kk; exact kk)
theorem Ymabs (S : CallFix p m c cc nL s args Ztbl own) (hx : InR x) {lv : List (Nat × Value)} (hl : lv_has ls nL lv) {index : Nat} (ml : Cond.methodLink own index Lib.Math.abs.name ∈ Ztbl) (hf : 1 ≤ R.frames) (hlo : (rest.map fun v => v.category).sum + 13 ≤ R.locals) (hcs : cells ≤ R.cells ∧ slots ≤ R.slots) (hdg : decode cc pc = .ok (.invokestatic index, 3)) (kk : W p l e R s m args below meth c H locs cells slots Q (F0 m (pc + 3) ls (.int (i32 (jabs x)) :: rest))) : W p l e R s m args below meth c H locs cells slots Q (F0 m pc ls (.int (i32 x) :: rest)) := va_mabs S.1 S.2.1 (S.2.2.1.trans hl.1.symm) S.2.2.2.1 (S.2.2.2.2 _ ml) (S.2.2.2.2 _ jm_abs.1) (S.2.2.2.2 _ jm_abs.2.1) (S.2.2.2.2 _ jm_abs.2.2) hf hlo hcs.1 hcs.2 hdg (by
  unfold jabs at kk
  by_cases h : 0 ≤ x
  · rw [if_pos ((i32_ge0 hx).mpr h)]; rw [if_pos h] at kk; exact kk
  · rw [if_neg (fun h2 => h ((i32_ge0 hx).mp h2)), ← i32_0, i32_sub, Int.zero_sub]; rw [if_neg h] at kk; exact kk)
theorem Ysidesr (S : CallFix p m c cc nL s args Ztbl own) (hw : ZW D cA ad A (Zc z) s H locs) {i : Int} (hi : InR i) (hin : IJ i 4) (hdg : decode cc pc = .ok (.iaload, 1)) (kk : W p l e R s m args below meth c H locs cells slots Q (F0 m (pc + 1) ls (.int (i32 (Ysides i)) :: rest))) : W p l e R s m args below meth c H locs cells slots Q (F0 m pc ls (.int (i32 i) :: .ref (ad 300) :: rest)) := va_ti S.1 S.2.1 hw.1.2.2.2.1 hw.2.2.2 (Zin (IJ_b (n := 4) hi hin)) (congrArg Value.int (Ysides_ok hi hin)) hdg kk
theorem Yletr (S : CallFix p m c cc nL s args Ztbl own) (hw : ZW D cA ad A (Zc z) s H locs) {i : Int} (hi : InR i) (hin : IJ i 8) (hdg : decode cc pc = .ok (.baload, 1)) (kk : W p l e R s m args below meth c H locs cells slots Q (F0 m (pc + 1) ls (.int (i32 (Ylet i)) :: rest))) : W p l e R s m args below meth c H locs cells slots Q (F0 m pc ls (.int (i32 i) :: .ref (ad 302) :: rest)) := va_tb S.1 S.2.1 (Zletters hw) hw.2.2.2 (Zin (IJ_b (n := 8) hi hin)) (congrArg Value.int (Ylet_ok hi hin)) hdg kk
theorem Ytout {x : Int} (hx : InR x) {lo hi : Int} (vs : List Int) (h1 : vs = (List.range (hi + 1 - lo).toNat).map (fun (i : Nat) => lo + (i : Int))) (h : ∀ v ∈ vs, ¬ x = v) : (i32 x).toInt < lo ∨ hi < (i32 x).toInt := by
  rw [i32_toInt hx]
  apply Classical.byContradiction
  intro hn
  refine h x ?_ rfl
  rw [h1]
  refine List.mem_map.mpr ⟨(x - lo).toNat, List.mem_range.mpr ?_, ?_⟩ <;> omega
end YROWS

theorem yc_J11_76 : Cond.constant RJ11 76 (i32 56320) ∈ Ztbl := Ztb 647 (by decide +kernel) rfl
theorem yc_J11_110 : Cond.constant RJ11 110 (i32 55232) ∈ Ztbl := Ztb 643 (by decide +kernel) rfl
theorem yc_J2_227 : Cond.constant RJ2 227 (i32 65536) ∈ Ztbl := Ztb 604 (by decide +kernel) rfl
theorem yc_J6_265 : Cond.constant RJ6 265 (i32 1431655765) ∈ Ztbl := Ztb 984 (by decide +kernel) rfl
theorem yc_J6_266 : Cond.constant RJ6 266 (i32 858993459) ∈ Ztbl := Ztb 985 (by decide +kernel) rfl
theorem yc_J6_267 : Cond.constant RJ6 267 (i32 252645135) ∈ Ztbl := Ztb 986 (by decide +kernel) rfl
theorem yc_X10_80 : Cond.constant RX10 80 (i32 1000000000) ∈ Ztbl := Ztb 745 (by decide +kernel) rfl
theorem yc_X10_118 : Cond.constant RX10 118 (i32 (-36500)) ∈ Ztbl := Ztb 472 (by decide +kernel) rfl
theorem yc_X10_239 : Cond.constant RX10 239 (i32 99999) ∈ Ztbl := Ztb 918 (by decide +kernel) rfl
theorem yc_X11_192 : Cond.constant RX11 192 (i32 1000000000) ∈ Ztbl := Ztb 1540 (by decide +kernel) rfl
theorem yc_X11_433 : Cond.constant RX11 433 (i32 1000000) ∈ Ztbl := Ztb 1678 (by decide +kernel) rfl
theorem yl_X11_215 : Cond.constantLong RX11 215 (i64 99) ∈ Ztbl := Ztb 1390 (by decide +kernel) rfl
theorem yl_X11_224 : Cond.constantLong RX11 224 (i64 3) ∈ Ztbl := Ztb 1407 (by decide +kernel) rfl
theorem yl_X11_236 : Cond.constantLong RX11 236 (i64 5) ∈ Ztbl := Ztb 1423 (by decide +kernel) rfl
theorem yl_X11_238 : Cond.constantLong RX11 238 (i64 (-36500)) ∈ Ztbl := Ztb 1424 (by decide +kernel) rfl
theorem yl_X11_246 : Cond.constantLong RX11 246 (i64 4) ∈ Ztbl := Ztb 1433 (by decide +kernel) rfl
theorem yl_X11_256 : Cond.constantLong RX11 256 (i64 999) ∈ Ztbl := Ztb 1442 (by decide +kernel) rfl
theorem yl_X11_265 : Cond.constantLong RX11 265 (i64 8) ∈ Ztbl := Ztb 1463 (by decide +kernel) rfl
theorem yl_X11_270 : Cond.constantLong RX11 270 (i64 255) ∈ Ztbl := Ztb 1464 (by decide +kernel) rfl
theorem yl_X11_295 : Cond.constantLong RX11 295 (i64 (-1000000000)) ∈ Ztbl := Ztb 1530 (by decide +kernel) rfl
theorem yl_X11_297 : Cond.constantLong RX11 297 (i64 1000000000) ∈ Ztbl := Ztb 1531 (by decide +kernel) rfl
theorem yl_X11_312 : Cond.constantLong RX11 312 (i64 10) ∈ Ztbl := Ztb 1518 (by decide +kernel) rfl
theorem yl_X11_314 : Cond.constantLong RX11 314 (i64 48) ∈ Ztbl := Ztb 1519 (by decide +kernel) rfl
theorem yl_X11_347 : Cond.constantLong RX11 347 (i64 (-1)) ∈ Ztbl := Ztb 1561 (by decide +kernel) rfl
theorem yl_X11_355 : Cond.constantLong RX11 355 (i64 (-3)) ∈ Ztbl := Ztb 1574 (by decide +kernel) rfl
theorem yl_X11_372 : Cond.constantLong RX11 372 (i64 20) ∈ Ztbl := Ztb 1593 (by decide +kernel) rfl
theorem yl_X11_407 : Cond.constantLong RX11 407 (i64 99999) ∈ Ztbl := Ztb 1634 (by decide +kernel) rfl
theorem yl_X11_437 : Cond.constantLong RX11 437 (i64 30) ∈ Ztbl := Ztb 1687 (by decide +kernel) rfl
theorem yl_X11_454 : Cond.constantLong RX11 454 (i64 60) ∈ Ztbl := Ztb 1716 (by decide +kernel) rfl
theorem yl_X11_462 : Cond.constantLong RX11 462 (i64 11) ∈ Ztbl := Ztb 1737 (by decide +kernel) rfl
theorem yl_X11_464 : Cond.constantLong RX11 464 (i64 16) ∈ Ztbl := Ztb 1738 (by decide +kernel) rfl
theorem yl_X6_56 : Cond.constantLong RX6 56 (i64 (-1000000000)) ∈ Ztbl := Ztb 654 (by decide +kernel) rfl
theorem yl_X6_58 : Cond.constantLong RX6 58 (i64 1000000000) ∈ Ztbl := Ztb 655 (by decide +kernel) rfl
section YWORDS
variable {p : Program} {l : Launch} {e : Env} {R : Room} {s : State} {m : MethodId} {args : Array Value} {below : List Frame} {meth : Method} {c : Code} {H : Heap} {locs : List Loc} {cells slots : Nat} {Q : State → Prop}
variable {cc : ByteArray} {nL pc : Nat} {ls : Array Slot} {rest : List Value}
variable {D : va_G} {cA : Nat → ClassId} {ad : Nat → Nat} {A : Nat → Prop} {z : ZI}
theorem gg_X0_21 (S : CallFix p m c cc nL s args Ztbl RX0) (hw : ZW D cA ad A (Zc z) s H locs) (hdg : decode cc pc = .ok (.getfield 21, 3)) (kk : W p l e R s m args below meth c H locs cells slots Q (F0 m (pc + 3) ls (.int (i32 (z 33 0)) :: rest))) : W p l e R s m args below meth c H locs cells slots Q (F0 m pc ls (.ref (ad 33) :: rest)) := gf_X0_21 S hw hdg (by rw [Zc1 (by decide)]; exact kk)
theorem gg_X1_24 (S : CallFix p m c cc nL s args Ztbl RX1) (hw : ZW D cA ad A (Zc z) s H locs) (hdg : decode cc pc = .ok (.getfield 24, 3)) (kk : W p l e R s m args below meth c H locs cells slots Q (F0 m (pc + 3) ls (.int (i32 (z 63 0)) :: rest))) : W p l e R s m args below meth c H locs cells slots Q (F0 m pc ls (.ref (ad 63) :: rest)) := gf_X1_24 S hw hdg (by rw [Zc1 (by decide)]; exact kk)
theorem gg_X10_7 (S : CallFix p m c cc nL s args Ztbl RX10) (hw : ZW D cA ad A (Zc z) s H locs) (hdg : decode cc pc = .ok (.getfield 7, 3)) (kk : W p l e R s m args below meth c H locs cells slots Q (F0 m (pc + 3) ls (.int (i32 (z 0 0)) :: rest))) : W p l e R s m args below meth c H locs cells slots Q (F0 m pc ls (.ref (ad 0) :: rest)) := gf_X10_7 S hw hdg (by rw [Zc1 (by decide)]; exact kk)
theorem gg_X10_106 (S : CallFix p m c cc nL s args Ztbl RX10) (hw : ZW D cA ad A (Zc z) s H locs) (hdg : decode cc pc = .ok (.getfield 106, 3)) (kk : W p l e R s m args below meth c H locs cells slots Q (F0 m (pc + 3) ls (.int (i32 (z 11 0)) :: rest))) : W p l e R s m args below meth c H locs cells slots Q (F0 m pc ls (.ref (ad 11) :: rest)) := gf_X10_106 S hw hdg (by rw [Zc1 (by decide)]; exact kk)
theorem gg_X10_119 (S : CallFix p m c cc nL s args Ztbl RX10) (hw : ZW D cA ad A (Zc z) s H locs) (hdg : decode cc pc = .ok (.getfield 119, 3)) (kk : W p l e R s m args below meth c H locs cells slots Q (F0 m (pc + 3) ls (.int (i32 (z 11 4)) :: rest))) : W p l e R s m args below meth c H locs cells slots Q (F0 m pc ls (.ref (ad 11) :: rest)) := gf_X10_119 S hw hdg (by rw [Zc1 (by decide)]; exact kk)
theorem gg_X10_132 (S : CallFix p m c cc nL s args Ztbl RX10) (hw : ZW D cA ad A (Zc z) s H locs) (hdg : decode cc pc = .ok (.getfield 132, 3)) (kk : W p l e R s m args below meth c H locs cells slots Q (F0 m (pc + 3) ls (.int (i32 (z 11 10)) :: rest))) : W p l e R s m args below meth c H locs cells slots Q (F0 m pc ls (.ref (ad 11) :: rest)) := gf_X10_132 S hw hdg (by rw [Zc1 (by decide)]; exact kk)
theorem gg_X10_141 (S : CallFix p m c cc nL s args Ztbl RX10) (hw : ZW D cA ad A (Zc z) s H locs) (hdg : decode cc pc = .ok (.getfield 141, 3)) (kk : W p l e R s m args below meth c H locs cells slots Q (F0 m (pc + 3) ls (.int (i32 (z 24 1)) :: rest))) : W p l e R s m args below meth c H locs cells slots Q (F0 m pc ls (.ref (ad 24) :: rest)) := gf_X10_141 S hw hdg (by rw [Zc1 (by decide)]; exact kk)
theorem gg_X10_148 (S : CallFix p m c cc nL s args Ztbl RX10) (hw : ZW D cA ad A (Zc z) s H locs) (hdg : decode cc pc = .ok (.getfield 148, 3)) (kk : W p l e R s m args below meth c H locs cells slots Q (F0 m (pc + 3) ls (.int (i32 (z 24 2)) :: rest))) : W p l e R s m args below meth c H locs cells slots Q (F0 m pc ls (.ref (ad 24) :: rest)) := gf_X10_148 S hw hdg (by rw [Zc1 (by decide)]; exact kk)
theorem gg_X10_154 (S : CallFix p m c cc nL s args Ztbl RX10) (hw : ZW D cA ad A (Zc z) s H locs) (hdg : decode cc pc = .ok (.getfield 154, 3)) (kk : W p l e R s m args below meth c H locs cells slots Q (F0 m (pc + 3) ls (.int (i32 (z 33 0)) :: rest))) : W p l e R s m args below meth c H locs cells slots Q (F0 m pc ls (.ref (ad 33) :: rest)) := gf_X10_154 S hw hdg (by rw [Zc1 (by decide)]; exact kk)
theorem gg_X10_191 (S : CallFix p m c cc nL s args Ztbl RX10) (hw : ZW D cA ad A (Zc z) s H locs) (hdg : decode cc pc = .ok (.getfield 191, 3)) (kk : W p l e R s m args below meth c H locs cells slots Q (F0 m (pc + 3) ls (.int (i32 (z 37 0)) :: rest))) : W p l e R s m args below meth c H locs cells slots Q (F0 m pc ls (.ref (ad 37) :: rest)) := gf_X10_191 S hw hdg (by rw [Zc1 (by decide)]; exact kk)
theorem gg_X10_214 (S : CallFix p m c cc nL s args Ztbl RX10) (hw : ZW D cA ad A (Zc z) s H locs) (hdg : decode cc pc = .ok (.getfield 214, 3)) (kk : W p l e R s m args below meth c H locs cells slots Q (F0 m (pc + 3) ls (.int (i32 (z 41 0)) :: rest))) : W p l e R s m args below meth c H locs cells slots Q (F0 m pc ls (.ref (ad 41) :: rest)) := gf_X10_214 S hw hdg (by rw [Zc1 (by decide)]; exact kk)
theorem gg_X10_240 (S : CallFix p m c cc nL s args Ztbl RX10) (hw : ZW D cA ad A (Zc z) s H locs) (hdg : decode cc pc = .ok (.getfield 240, 3)) (kk : W p l e R s m args below meth c H locs cells slots Q (F0 m (pc + 3) ls (.int (i32 (z 2 2)) :: rest))) : W p l e R s m args below meth c H locs cells slots Q (F0 m pc ls (.ref (ad 2) :: rest)) := gf_X10_240 S hw hdg (by rw [Zc1 (by decide)]; exact kk)
theorem gg_X10_249 (S : CallFix p m c cc nL s args Ztbl RX10) (hw : ZW D cA ad A (Zc z) s H locs) (hdg : decode cc pc = .ok (.getfield 249, 3)) (kk : W p l e R s m args below meth c H locs cells slots Q (F0 m (pc + 3) ls (.int (i32 (z 2 4)) :: rest))) : W p l e R s m args below meth c H locs cells slots Q (F0 m pc ls (.ref (ad 2) :: rest)) := gf_X10_249 S hw hdg (by rw [Zc1 (by decide)]; exact kk)
theorem gg_X10_269 (S : CallFix p m c cc nL s args Ztbl RX10) (hw : ZW D cA ad A (Zc z) s H locs) (hdg : decode cc pc = .ok (.getfield 269, 3)) (kk : W p l e R s m args below meth c H locs cells slots Q (F0 m (pc + 3) ls (.int (i32 (z 54 0)) :: rest))) : W p l e R s m args below meth c H locs cells slots Q (F0 m pc ls (.ref (ad 54) :: rest)) := gf_X10_269 S hw hdg (by rw [Zc1 (by decide)]; exact kk)
theorem gg_X10_311 (S : CallFix p m c cc nL s args Ztbl RX10) (hw : ZW D cA ad A (Zc z) s H locs) (hdg : decode cc pc = .ok (.getfield 311, 3)) (kk : W p l e R s m args below meth c H locs cells slots Q (F0 m (pc + 3) ls (.int (i32 (z 63 0)) :: rest))) : W p l e R s m args below meth c H locs cells slots Q (F0 m pc ls (.ref (ad 63) :: rest)) := gf_X10_311 S hw hdg (by rw [Zc1 (by decide)]; exact kk)
theorem gg_X10_326 (S : CallFix p m c cc nL s args Ztbl RX10) (hw : ZW D cA ad A (Zc z) s H locs) (hdg : decode cc pc = .ok (.getfield 326, 3)) (kk : W p l e R s m args below meth c H locs cells slots Q (F0 m (pc + 3) ls (.int (i32 (z 59 0)) :: rest))) : W p l e R s m args below meth c H locs cells slots Q (F0 m pc ls (.ref (ad 59) :: rest)) := gf_X10_326 S hw hdg (by rw [Zc1 (by decide)]; exact kk)
theorem gg_X11_193 (S : CallFix p m c cc nL s args Ztbl RX11) (hw : ZW D cA ad A (Zc z) s H locs) (hdg : decode cc pc = .ok (.getfield 193, 3)) (kk : W p l e R s m args below meth c H locs cells slots Q (F0 m (pc + 3) ls (.int (i32 (z 68 12)) :: rest))) : W p l e R s m args below meth c H locs cells slots Q (F0 m pc ls (.ref (ad 68) :: rest)) := gf_X11_193 S hw hdg (by rw [Zc1 (by decide)]; exact kk)
theorem gg_X11_197 (S : CallFix p m c cc nL s args Ztbl RX11) (hw : ZW D cA ad A (Zc z) s H locs) (hdg : decode cc pc = .ok (.getfield 197, 3)) (kk : W p l e R s m args below meth c H locs cells slots Q (F0 m (pc + 3) ls (.int (i32 (z 68 13)) :: rest))) : W p l e R s m args below meth c H locs cells slots Q (F0 m pc ls (.ref (ad 68) :: rest)) := gf_X11_197 S hw hdg (by rw [Zc1 (by decide)]; exact kk)
theorem gg_X11_200 (S : CallFix p m c cc nL s args Ztbl RX11) (hw : ZW D cA ad A (Zc z) s H locs) (hdg : decode cc pc = .ok (.getfield 200, 3)) (kk : W p l e R s m args below meth c H locs cells slots Q (F0 m (pc + 3) ls (.int (i32 (z 68 11)) :: rest))) : W p l e R s m args below meth c H locs cells slots Q (F0 m pc ls (.ref (ad 68) :: rest)) := gf_X11_200 S hw hdg (by rw [Zc1 (by decide)]; exact kk)
theorem gg_X11_240 (S : CallFix p m c cc nL s args Ztbl RX11) (hw : ZW D cA ad A (Zc z) s H locs) (hdg : decode cc pc = .ok (.getfield 240, 3)) (kk : W p l e R s m args below meth c H locs cells slots Q (F0 m (pc + 3) ls (.int (i32 (z 68 14)) :: rest))) : W p l e R s m args below meth c H locs cells slots Q (F0 m pc ls (.ref (ad 68) :: rest)) := gf_X11_240 S hw hdg (by rw [Zc1 (by decide)]; exact kk)
theorem gg_X11_267 (S : CallFix p m c cc nL s args Ztbl RX11) (hw : ZW D cA ad A (Zc z) s H locs) (hdg : decode cc pc = .ok (.getfield 267, 3)) (kk : W p l e R s m args below meth c H locs cells slots Q (F0 m (pc + 3) ls (.int (i32 (z 68 21)) :: rest))) : W p l e R s m args below meth c H locs cells slots Q (F0 m pc ls (.ref (ad 68) :: rest)) := gf_X11_267 S hw hdg (by rw [Zc1 (by decide)]; exact kk)
theorem gg_X11_272 (S : CallFix p m c cc nL s args Ztbl RX11) (hw : ZW D cA ad A (Zc z) s H locs) (hdg : decode cc pc = .ok (.getfield 272, 3)) (kk : W p l e R s m args below meth c H locs cells slots Q (F0 m (pc + 3) ls (.int (i32 (z 68 23)) :: rest))) : W p l e R s m args below meth c H locs cells slots Q (F0 m pc ls (.ref (ad 68) :: rest)) := gf_X11_272 S hw hdg (by rw [Zc1 (by decide)]; exact kk)
theorem gg_X11_288 (S : CallFix p m c cc nL s args Ztbl RX11) (hw : ZW D cA ad A (Zc z) s H locs) (hdg : decode cc pc = .ok (.getfield 288, 3)) (kk : W p l e R s m args below meth c H locs cells slots Q (F0 m (pc + 3) ls (.int (i32 (z 68 22)) :: rest))) : W p l e R s m args below meth c H locs cells slots Q (F0 m pc ls (.ref (ad 68) :: rest)) := gf_X11_288 S hw hdg (by rw [Zc1 (by decide)]; exact kk)
theorem gg_X11_299 (S : CallFix p m c cc nL s args Ztbl RX11) (hw : ZW D cA ad A (Zc z) s H locs) (hdg : decode cc pc = .ok (.getfield 299, 3)) (kk : W p l e R s m args below meth c H locs cells slots Q (F0 m (pc + 3) ls (.int (i32 (z 68 26)) :: rest))) : W p l e R s m args below meth c H locs cells slots Q (F0 m pc ls (.ref (ad 68) :: rest)) := gf_X11_299 S hw hdg (by rw [Zc1 (by decide)]; exact kk)
theorem gg_X11_305 (S : CallFix p m c cc nL s args Ztbl RX11) (hw : ZW D cA ad A (Zc z) s H locs) (hdg : decode cc pc = .ok (.getfield 305, 3)) (kk : W p l e R s m args below meth c H locs cells slots Q (F0 m (pc + 3) ls (.int (i32 (z 68 27)) :: rest))) : W p l e R s m args below meth c H locs cells slots Q (F0 m pc ls (.ref (ad 68) :: rest)) := gf_X11_305 S hw hdg (by rw [Zc1 (by decide)]; exact kk)
theorem gg_X11_320 (S : CallFix p m c cc nL s args Ztbl RX11) (hw : ZW D cA ad A (Zc z) s H locs) (hdg : decode cc pc = .ok (.getfield 320, 3)) (kk : W p l e R s m args below meth c H locs cells slots Q (F0 m (pc + 3) ls (.int (i32 (z 68 34)) :: rest))) : W p l e R s m args below meth c H locs cells slots Q (F0 m pc ls (.ref (ad 68) :: rest)) := gf_X11_320 S hw hdg (by rw [Zc1 (by decide)]; exact kk)
theorem gg_X11_344 (S : CallFix p m c cc nL s args Ztbl RX11) (hw : ZW D cA ad A (Zc z) s H locs) (hdg : decode cc pc = .ok (.getfield 344, 3)) (kk : W p l e R s m args below meth c H locs cells slots Q (F0 m (pc + 3) ls (.int (i32 (z 68 35)) :: rest))) : W p l e R s m args below meth c H locs cells slots Q (F0 m pc ls (.ref (ad 68) :: rest)) := gf_X11_344 S hw hdg (by rw [Zc1 (by decide)]; exact kk)
theorem gg_X11_369 (S : CallFix p m c cc nL s args Ztbl RX11) (hw : ZW D cA ad A (Zc z) s H locs) (hdg : decode cc pc = .ok (.getfield 369, 3)) (kk : W p l e R s m args below meth c H locs cells slots Q (F0 m (pc + 3) ls (.int (i32 (z 68 47)) :: rest))) : W p l e R s m args below meth c H locs cells slots Q (F0 m pc ls (.ref (ad 68) :: rest)) := gf_X11_369 S hw hdg (by rw [Zc1 (by decide)]; exact kk)
theorem gg_X11_388 (S : CallFix p m c cc nL s args Ztbl RX11) (hw : ZW D cA ad A (Zc z) s H locs) (hdg : decode cc pc = .ok (.getfield 388, 3)) (kk : W p l e R s m args below meth c H locs cells slots Q (F0 m (pc + 3) ls (.int (i32 (z 68 53)) :: rest))) : W p l e R s m args below meth c H locs cells slots Q (F0 m pc ls (.ref (ad 68) :: rest)) := gf_X11_388 S hw hdg (by rw [Zc1 (by decide)]; exact kk)
theorem gg_X11_395 (S : CallFix p m c cc nL s args Ztbl RX11) (hw : ZW D cA ad A (Zc z) s H locs) (hdg : decode cc pc = .ok (.getfield 395, 3)) (kk : W p l e R s m args below meth c H locs cells slots Q (F0 m (pc + 3) ls (.int (i32 (z 68 48)) :: rest))) : W p l e R s m args below meth c H locs cells slots Q (F0 m pc ls (.ref (ad 68) :: rest)) := gf_X11_395 S hw hdg (by rw [Zc1 (by decide)]; exact kk)
theorem gg_X11_398 (S : CallFix p m c cc nL s args Ztbl RX11) (hw : ZW D cA ad A (Zc z) s H locs) (hdg : decode cc pc = .ok (.getfield 398, 3)) (kk : W p l e R s m args below meth c H locs cells slots Q (F0 m (pc + 3) ls (.int (i32 (z 68 49)) :: rest))) : W p l e R s m args below meth c H locs cells slots Q (F0 m pc ls (.ref (ad 68) :: rest)) := gf_X11_398 S hw hdg (by rw [Zc1 (by decide)]; exact kk)
theorem gg_X11_409 (S : CallFix p m c cc nL s args Ztbl RX11) (hw : ZW D cA ad A (Zc z) s H locs) (hdg : decode cc pc = .ok (.getfield 409, 3)) (kk : W p l e R s m args below meth c H locs cells slots Q (F0 m (pc + 3) ls (.int (i32 (z 68 61)) :: rest))) : W p l e R s m args below meth c H locs cells slots Q (F0 m pc ls (.ref (ad 68) :: rest)) := gf_X11_409 S hw hdg (by rw [Zc1 (by decide)]; exact kk)
theorem gg_X11_412 (S : CallFix p m c cc nL s args Ztbl RX11) (hw : ZW D cA ad A (Zc z) s H locs) (hdg : decode cc pc = .ok (.getfield 412, 3)) (kk : W p l e R s m args below meth c H locs cells slots Q (F0 m (pc + 3) ls (.int (i32 (z 68 62)) :: rest))) : W p l e R s m args below meth c H locs cells slots Q (F0 m pc ls (.ref (ad 68) :: rest)) := gf_X11_412 S hw hdg (by rw [Zc1 (by decide)]; exact kk)
theorem gg_X11_427 (S : CallFix p m c cc nL s args Ztbl RX11) (hw : ZW D cA ad A (Zc z) s H locs) (hdg : decode cc pc = .ok (.getfield 427, 3)) (kk : W p l e R s m args below meth c H locs cells slots Q (F0 m (pc + 3) ls (.int (i32 (z 68 70)) :: rest))) : W p l e R s m args below meth c H locs cells slots Q (F0 m pc ls (.ref (ad 68) :: rest)) := gf_X11_427 S hw hdg (by rw [Zc1 (by decide)]; exact kk)
theorem gg_X11_442 (S : CallFix p m c cc nL s args Ztbl RX11) (hw : ZW D cA ad A (Zc z) s H locs) (hdg : decode cc pc = .ok (.getfield 442, 3)) (kk : W p l e R s m args below meth c H locs cells slots Q (F0 m (pc + 3) ls (.int (i32 (z 68 78)) :: rest))) : W p l e R s m args below meth c H locs cells slots Q (F0 m pc ls (.ref (ad 68) :: rest)) := gf_X11_442 S hw hdg (by rw [Zc1 (by decide)]; exact kk)
theorem gg_X11_456 (S : CallFix p m c cc nL s args Ztbl RX11) (hw : ZW D cA ad A (Zc z) s H locs) (hdg : decode cc pc = .ok (.getfield 456, 3)) (kk : W p l e R s m args below meth c H locs cells slots Q (F0 m (pc + 3) ls (.int (i32 (z 68 79)) :: rest))) : W p l e R s m args below meth c H locs cells slots Q (F0 m pc ls (.ref (ad 68) :: rest)) := gf_X11_456 S hw hdg (by rw [Zc1 (by decide)]; exact kk)
theorem gg_X2_31 (S : CallFix p m c cc nL s args Ztbl RX2) (hw : ZW D cA ad A (Zc z) s H locs) (hdg : decode cc pc = .ok (.getfield 31, 3)) (kk : W p l e R s m args below meth c H locs cells slots Q (F0 m (pc + 3) ls (.int (i32 (z 54 0)) :: rest))) : W p l e R s m args below meth c H locs cells slots Q (F0 m pc ls (.ref (ad 54) :: rest)) := gf_X2_31 S hw hdg (by rw [Zc1 (by decide)]; exact kk)
theorem gg_X2_54 (S : CallFix p m c cc nL s args Ztbl RX2) (hw : ZW D cA ad A (Zc z) s H locs) (hdg : decode cc pc = .ok (.getfield 54, 3)) (kk : W p l e R s m args below meth c H locs cells slots Q (F0 m (pc + 3) ls (.int (i32 (z 11 0)) :: rest))) : W p l e R s m args below meth c H locs cells slots Q (F0 m pc ls (.ref (ad 11) :: rest)) := gf_X2_54 S hw hdg (by rw [Zc1 (by decide)]; exact kk)
theorem gg_X3_55 (S : CallFix p m c cc nL s args Ztbl RX3) (hw : ZW D cA ad A (Zc z) s H locs) (hdg : decode cc pc = .ok (.getfield 55, 3)) (kk : W p l e R s m args below meth c H locs cells slots Q (F0 m (pc + 3) ls (.int (i32 (z 11 0)) :: rest))) : W p l e R s m args below meth c H locs cells slots Q (F0 m pc ls (.ref (ad 11) :: rest)) := gf_X3_55 S hw hdg (by rw [Zc1 (by decide)]; exact kk)
theorem gg_X3_59 (S : CallFix p m c cc nL s args Ztbl RX3) (hw : ZW D cA ad A (Zc z) s H locs) (hdg : decode cc pc = .ok (.getfield 59, 3)) (kk : W p l e R s m args below meth c H locs cells slots Q (F0 m (pc + 3) ls (.int (i32 (z 11 4)) :: rest))) : W p l e R s m args below meth c H locs cells slots Q (F0 m pc ls (.ref (ad 11) :: rest)) := gf_X3_59 S hw hdg (by rw [Zc1 (by decide)]; exact kk)
theorem gg_X3_62 (S : CallFix p m c cc nL s args Ztbl RX3) (hw : ZW D cA ad A (Zc z) s H locs) (hdg : decode cc pc = .ok (.getfield 62, 3)) (kk : W p l e R s m args below meth c H locs cells slots Q (F0 m (pc + 3) ls (.int (i32 (z 11 10)) :: rest))) : W p l e R s m args below meth c H locs cells slots Q (F0 m pc ls (.ref (ad 11) :: rest)) := gf_X3_62 S hw hdg (by rw [Zc1 (by decide)]; exact kk)
theorem gg_X4_49 (S : CallFix p m c cc nL s args Ztbl RX4) (hw : ZW D cA ad A (Zc z) s H locs) (hdg : decode cc pc = .ok (.getfield 49, 3)) (kk : W p l e R s m args below meth c H locs cells slots Q (F0 m (pc + 3) ls (.int (i32 (z 2 8)) :: rest))) : W p l e R s m args below meth c H locs cells slots Q (F0 m pc ls (.ref (ad 2) :: rest)) := gf_X4_49 S hw hdg (by rw [Zc1 (by decide)]; exact kk)
theorem gg_X4_60 (S : CallFix p m c cc nL s args Ztbl RX4) (hw : ZW D cA ad A (Zc z) s H locs) (hdg : decode cc pc = .ok (.getfield 60, 3)) (kk : W p l e R s m args below meth c H locs cells slots Q (F0 m (pc + 3) ls (.int (i32 (z 2 2)) :: rest))) : W p l e R s m args below meth c H locs cells slots Q (F0 m pc ls (.ref (ad 2) :: rest)) := gf_X4_60 S hw hdg (by rw [Zc1 (by decide)]; exact kk)
theorem gg_X4_64 (S : CallFix p m c cc nL s args Ztbl RX4) (hw : ZW D cA ad A (Zc z) s H locs) (hdg : decode cc pc = .ok (.getfield 64, 3)) (kk : W p l e R s m args below meth c H locs cells slots Q (F0 m (pc + 3) ls (.int (i32 (z 2 4)) :: rest))) : W p l e R s m args below meth c H locs cells slots Q (F0 m pc ls (.ref (ad 2) :: rest)) := gf_X4_64 S hw hdg (by rw [Zc1 (by decide)]; exact kk)
theorem gg_X5_21 (S : CallFix p m c cc nL s args Ztbl RX5) (hw : ZW D cA ad A (Zc z) s H locs) (hdg : decode cc pc = .ok (.getfield 21, 3)) (kk : W p l e R s m args below meth c H locs cells slots Q (F0 m (pc + 3) ls (.int (i32 (z 59 0)) :: rest))) : W p l e R s m args below meth c H locs cells slots Q (F0 m pc ls (.ref (ad 59) :: rest)) := gf_X5_21 S hw hdg (by rw [Zc1 (by decide)]; exact kk)
theorem gg_X5_29 (S : CallFix p m c cc nL s args Ztbl RX5) (hw : ZW D cA ad A (Zc z) s H locs) (hdg : decode cc pc = .ok (.getfield 29, 3)) (kk : W p l e R s m args below meth c H locs cells slots Q (F0 m (pc + 3) ls (.int (i32 (z 59 2)) :: rest))) : W p l e R s m args below meth c H locs cells slots Q (F0 m pc ls (.ref (ad 59) :: rest)) := gf_X5_29 S hw hdg (by rw [Zc1 (by decide)]; exact kk)
theorem gg_X6_27 (S : CallFix p m c cc nL s args Ztbl RX6) (hw : ZW D cA ad A (Zc z) s H locs) (hdg : decode cc pc = .ok (.getfield 27, 3)) (kk : W p l e R s m args below meth c H locs cells slots Q (F0 m (pc + 3) ls (.int (i32 (z 30 4)) :: rest))) : W p l e R s m args below meth c H locs cells slots Q (F0 m pc ls (.ref (ad 30) :: rest)) := gf_X6_27 S hw hdg (by rw [Zc1 (by decide)]; exact kk)
theorem gg_X6_43 (S : CallFix p m c cc nL s args Ztbl RX6) (hw : ZW D cA ad A (Zc z) s H locs) (hdg : decode cc pc = .ok (.getfield 43, 3)) (kk : W p l e R s m args below meth c H locs cells slots Q (F0 m (pc + 3) ls (.int (i32 (z 30 2)) :: rest))) : W p l e R s m args below meth c H locs cells slots Q (F0 m pc ls (.ref (ad 30) :: rest)) := gf_X6_43 S hw hdg (by rw [Zc1 (by decide)]; exact kk)
theorem gg_X6_45 (S : CallFix p m c cc nL s args Ztbl RX6) (hw : ZW D cA ad A (Zc z) s H locs) (hdg : decode cc pc = .ok (.getfield 45, 3)) (kk : W p l e R s m args below meth c H locs cells slots Q (F0 m (pc + 3) ls (.int (i32 (z 30 3)) :: rest))) : W p l e R s m args below meth c H locs cells slots Q (F0 m pc ls (.ref (ad 30) :: rest)) := gf_X6_45 S hw hdg (by rw [Zc1 (by decide)]; exact kk)
theorem gg_X7_35 (S : CallFix p m c cc nL s args Ztbl RX7) (hw : ZW D cA ad A (Zc z) s H locs) (hdg : decode cc pc = .ok (.getfield 35, 3)) (kk : W p l e R s m args below meth c H locs cells slots Q (F0 m (pc + 3) ls (.int (i32 (z 24 1)) :: rest))) : W p l e R s m args below meth c H locs cells slots Q (F0 m pc ls (.ref (ad 24) :: rest)) := gf_X7_35 S hw hdg (by rw [Zc1 (by decide)]; exact kk)
theorem gg_X7_47 (S : CallFix p m c cc nL s args Ztbl RX7) (hw : ZW D cA ad A (Zc z) s H locs) (hdg : decode cc pc = .ok (.getfield 47, 3)) (kk : W p l e R s m args below meth c H locs cells slots Q (F0 m (pc + 3) ls (.int (i32 (z 30 4)) :: rest))) : W p l e R s m args below meth c H locs cells slots Q (F0 m pc ls (.ref (ad 30) :: rest)) := gf_X7_47 S hw hdg (by rw [Zc1 (by decide)]; exact kk)
theorem gg_X7_50 (S : CallFix p m c cc nL s args Ztbl RX7) (hw : ZW D cA ad A (Zc z) s H locs) (hdg : decode cc pc = .ok (.getfield 50, 3)) (kk : W p l e R s m args below meth c H locs cells slots Q (F0 m (pc + 3) ls (.int (i32 (z 24 2)) :: rest))) : W p l e R s m args below meth c H locs cells slots Q (F0 m pc ls (.ref (ad 24) :: rest)) := gf_X7_50 S hw hdg (by rw [Zc1 (by decide)]; exact kk)
theorem gg_X7_66 (S : CallFix p m c cc nL s args Ztbl RX7) (hw : ZW D cA ad A (Zc z) s H locs) (hdg : decode cc pc = .ok (.getfield 66, 3)) (kk : W p l e R s m args below meth c H locs cells slots Q (F0 m (pc + 3) ls (.int (i32 (z 11 4)) :: rest))) : W p l e R s m args below meth c H locs cells slots Q (F0 m pc ls (.ref (ad 11) :: rest)) := gf_X7_66 S hw hdg (by rw [Zc1 (by decide)]; exact kk)
theorem gg_X8_21 (S : CallFix p m c cc nL s args Ztbl RX8) (hw : ZW D cA ad A (Zc z) s H locs) (hdg : decode cc pc = .ok (.getfield 21, 3)) (kk : W p l e R s m args below meth c H locs cells slots Q (F0 m (pc + 3) ls (.int (i32 (z 37 0)) :: rest))) : W p l e R s m args below meth c H locs cells slots Q (F0 m pc ls (.ref (ad 37) :: rest)) := gf_X8_21 S hw hdg (by rw [Zc1 (by decide)]; exact kk)
theorem gg_X9_54 (S : CallFix p m c cc nL s args Ztbl RX9) (hw : ZW D cA ad A (Zc z) s H locs) (hdg : decode cc pc = .ok (.getfield 54, 3)) (kk : W p l e R s m args below meth c H locs cells slots Q (F0 m (pc + 3) ls (.int (i32 (z 41 0)) :: rest))) : W p l e R s m args below meth c H locs cells slots Q (F0 m pc ls (.ref (ad 41) :: rest)) := gf_X9_54 S hw hdg (by rw [Zc1 (by decide)]; exact kk)
theorem gg_X9_58 (S : CallFix p m c cc nL s args Ztbl RX9) (hw : ZW D cA ad A (Zc z) s H locs) (hdg : decode cc pc = .ok (.getfield 58, 3)) (kk : W p l e R s m args below meth c H locs cells slots Q (F0 m (pc + 3) ls (.int (i32 (z 41 14)) :: rest))) : W p l e R s m args below meth c H locs cells slots Q (F0 m pc ls (.ref (ad 41) :: rest)) := gf_X9_58 S hw hdg (by rw [Zc1 (by decide)]; exact kk)
theorem gg_X9_68 (S : CallFix p m c cc nL s args Ztbl RX9) (hw : ZW D cA ad A (Zc z) s H locs) (hdg : decode cc pc = .ok (.getfield 68, 3)) (kk : W p l e R s m args below meth c H locs cells slots Q (F0 m (pc + 3) ls (.int (i32 (z 41 5)) :: rest))) : W p l e R s m args below meth c H locs cells slots Q (F0 m pc ls (.ref (ad 41) :: rest)) := gf_X9_68 S hw hdg (by rw [Zc1 (by decide)]; exact kk)
theorem gg_X9_71 (S : CallFix p m c cc nL s args Ztbl RX9) (hw : ZW D cA ad A (Zc z) s H locs) (hdg : decode cc pc = .ok (.getfield 71, 3)) (kk : W p l e R s m args below meth c H locs cells slots Q (F0 m (pc + 3) ls (.int (i32 (z 11 0)) :: rest))) : W p l e R s m args below meth c H locs cells slots Q (F0 m pc ls (.ref (ad 11) :: rest)) := gf_X9_71 S hw hdg (by rw [Zc1 (by decide)]; exact kk)
theorem gg_X9_118 (S : CallFix p m c cc nL s args Ztbl RX9) (hw : ZW D cA ad A (Zc z) s H locs) (hdg : decode cc pc = .ok (.getfield 118, 3)) (kk : W p l e R s m args below meth c H locs cells slots Q (F0 m (pc + 3) ls (.int (i32 (z 41 15)) :: rest))) : W p l e R s m args below meth c H locs cells slots Q (F0 m pc ls (.ref (ad 41) :: rest)) := gf_X9_118 S hw hdg (by rw [Zc1 (by decide)]; exact kk)
theorem gg_X9_138 (S : CallFix p m c cc nL s args Ztbl RX9) (hw : ZW D cA ad A (Zc z) s H locs) (hdg : decode cc pc = .ok (.getfield 138, 3)) (kk : W p l e R s m args below meth c H locs cells slots Q (F0 m (pc + 3) ls (.int (i32 (z 2 4)) :: rest))) : W p l e R s m args below meth c H locs cells slots Q (F0 m pc ls (.ref (ad 2) :: rest)) := gf_X9_138 S hw hdg (by rw [Zc1 (by decide)]; exact kk)
theorem pp_X0_21 (S : CallFix p m c cc nL s args Ztbl RX0) (hw : ZW D cA ad A (Zc z) s H locs) (hz : Zok z) {x : Int} (hx : InR x) (hdg : decode cc pc = .ok (.putfield 21, 3)) (kk : ∀ (z1 : ZI) (H1 : Heap) (locs1 : List Loc), z1 = Zup z 33 0 x → Zok z1 → ZW D cA ad A (Zc z1) s H1 locs1 → W p l e R s m args below meth c H1 locs1 cells slots Q (F0 m (pc + 3) ls rest)) : W p l e R s m args below meth c H locs cells slots Q (F0 m pc ls (.int (i32 x) :: .ref (ad 33) :: rest)) := pf_X0_21 S hw hdg (fun z1 H1 locs1 ez hw => kk _ H1 locs1 rfl (Zok_up hz hx) (Yput (by decide) ez hw))
theorem pp_X1_24 (S : CallFix p m c cc nL s args Ztbl RX1) (hw : ZW D cA ad A (Zc z) s H locs) (hz : Zok z) {x : Int} (hx : InR x) (hdg : decode cc pc = .ok (.putfield 24, 3)) (kk : ∀ (z1 : ZI) (H1 : Heap) (locs1 : List Loc), z1 = Zup z 63 0 x → Zok z1 → ZW D cA ad A (Zc z1) s H1 locs1 → W p l e R s m args below meth c H1 locs1 cells slots Q (F0 m (pc + 3) ls rest)) : W p l e R s m args below meth c H locs cells slots Q (F0 m pc ls (.int (i32 x) :: .ref (ad 63) :: rest)) := pf_X1_24 S hw hdg (fun z1 H1 locs1 ez hw => kk _ H1 locs1 rfl (Zok_up hz hx) (Yput (by decide) ez hw))
theorem pp_X10_7 (S : CallFix p m c cc nL s args Ztbl RX10) (hw : ZW D cA ad A (Zc z) s H locs) (hz : Zok z) {x : Int} (hx : InR x) (hdg : decode cc pc = .ok (.putfield 7, 3)) (kk : ∀ (z1 : ZI) (H1 : Heap) (locs1 : List Loc), z1 = Zup z 0 0 x → Zok z1 → ZW D cA ad A (Zc z1) s H1 locs1 → W p l e R s m args below meth c H1 locs1 cells slots Q (F0 m (pc + 3) ls rest)) : W p l e R s m args below meth c H locs cells slots Q (F0 m pc ls (.int (i32 x) :: .ref (ad 0) :: rest)) := pf_X10_7 S hw hdg (fun z1 H1 locs1 ez hw => kk _ H1 locs1 rfl (Zok_up hz hx) (Yput (by decide) ez hw))
theorem pp_X11_193 (S : CallFix p m c cc nL s args Ztbl RX11) (hw : ZW D cA ad A (Zc z) s H locs) (hz : Zok z) {x : Int} (hx : InR x) (hdg : decode cc pc = .ok (.putfield 193, 3)) (kk : ∀ (z1 : ZI) (H1 : Heap) (locs1 : List Loc), z1 = Zup z 68 12 x → Zok z1 → ZW D cA ad A (Zc z1) s H1 locs1 → W p l e R s m args below meth c H1 locs1 cells slots Q (F0 m (pc + 3) ls rest)) : W p l e R s m args below meth c H locs cells slots Q (F0 m pc ls (.int (i32 x) :: .ref (ad 68) :: rest)) := pf_X11_193 S hw hdg (fun z1 H1 locs1 ez hw => kk _ H1 locs1 rfl (Zok_up hz hx) (Yput (by decide) ez hw))
theorem pp_X11_197 (S : CallFix p m c cc nL s args Ztbl RX11) (hw : ZW D cA ad A (Zc z) s H locs) (hz : Zok z) {x : Int} (hx : InR x) (hdg : decode cc pc = .ok (.putfield 197, 3)) (kk : ∀ (z1 : ZI) (H1 : Heap) (locs1 : List Loc), z1 = Zup z 68 13 x → Zok z1 → ZW D cA ad A (Zc z1) s H1 locs1 → W p l e R s m args below meth c H1 locs1 cells slots Q (F0 m (pc + 3) ls rest)) : W p l e R s m args below meth c H locs cells slots Q (F0 m pc ls (.int (i32 x) :: .ref (ad 68) :: rest)) := pf_X11_197 S hw hdg (fun z1 H1 locs1 ez hw => kk _ H1 locs1 rfl (Zok_up hz hx) (Yput (by decide) ez hw))
theorem pp_X11_200 (S : CallFix p m c cc nL s args Ztbl RX11) (hw : ZW D cA ad A (Zc z) s H locs) (hz : Zok z) {x : Int} (hx : InR x) (hdg : decode cc pc = .ok (.putfield 200, 3)) (kk : ∀ (z1 : ZI) (H1 : Heap) (locs1 : List Loc), z1 = Zup z 68 11 x → Zok z1 → ZW D cA ad A (Zc z1) s H1 locs1 → W p l e R s m args below meth c H1 locs1 cells slots Q (F0 m (pc + 3) ls rest)) : W p l e R s m args below meth c H locs cells slots Q (F0 m pc ls (.int (i32 x) :: .ref (ad 68) :: rest)) := pf_X11_200 S hw hdg (fun z1 H1 locs1 ez hw => kk _ H1 locs1 rfl (Zok_up hz hx) (Yput (by decide) ez hw))
theorem pp_X11_240 (S : CallFix p m c cc nL s args Ztbl RX11) (hw : ZW D cA ad A (Zc z) s H locs) (hz : Zok z) {x : Int} (hx : InR x) (hdg : decode cc pc = .ok (.putfield 240, 3)) (kk : ∀ (z1 : ZI) (H1 : Heap) (locs1 : List Loc), z1 = Zup z 68 14 x → Zok z1 → ZW D cA ad A (Zc z1) s H1 locs1 → W p l e R s m args below meth c H1 locs1 cells slots Q (F0 m (pc + 3) ls rest)) : W p l e R s m args below meth c H locs cells slots Q (F0 m pc ls (.int (i32 x) :: .ref (ad 68) :: rest)) := pf_X11_240 S hw hdg (fun z1 H1 locs1 ez hw => kk _ H1 locs1 rfl (Zok_up hz hx) (Yput (by decide) ez hw))
theorem pp_X11_267 (S : CallFix p m c cc nL s args Ztbl RX11) (hw : ZW D cA ad A (Zc z) s H locs) (hz : Zok z) {x : Int} (hx : InR x) (hdg : decode cc pc = .ok (.putfield 267, 3)) (kk : ∀ (z1 : ZI) (H1 : Heap) (locs1 : List Loc), z1 = Zup z 68 21 x → Zok z1 → ZW D cA ad A (Zc z1) s H1 locs1 → W p l e R s m args below meth c H1 locs1 cells slots Q (F0 m (pc + 3) ls rest)) : W p l e R s m args below meth c H locs cells slots Q (F0 m pc ls (.int (i32 x) :: .ref (ad 68) :: rest)) := pf_X11_267 S hw hdg (fun z1 H1 locs1 ez hw => kk _ H1 locs1 rfl (Zok_up hz hx) (Yput (by decide) ez hw))
theorem pp_X11_272 (S : CallFix p m c cc nL s args Ztbl RX11) (hw : ZW D cA ad A (Zc z) s H locs) (hz : Zok z) {x : Int} (hx : InR x) (hdg : decode cc pc = .ok (.putfield 272, 3)) (kk : ∀ (z1 : ZI) (H1 : Heap) (locs1 : List Loc), z1 = Zup z 68 23 x → Zok z1 → ZW D cA ad A (Zc z1) s H1 locs1 → W p l e R s m args below meth c H1 locs1 cells slots Q (F0 m (pc + 3) ls rest)) : W p l e R s m args below meth c H locs cells slots Q (F0 m pc ls (.int (i32 x) :: .ref (ad 68) :: rest)) := pf_X11_272 S hw hdg (fun z1 H1 locs1 ez hw => kk _ H1 locs1 rfl (Zok_up hz hx) (Yput (by decide) ez hw))
theorem pp_X11_288 (S : CallFix p m c cc nL s args Ztbl RX11) (hw : ZW D cA ad A (Zc z) s H locs) (hz : Zok z) {x : Int} (hx : InR x) (hdg : decode cc pc = .ok (.putfield 288, 3)) (kk : ∀ (z1 : ZI) (H1 : Heap) (locs1 : List Loc), z1 = Zup z 68 22 x → Zok z1 → ZW D cA ad A (Zc z1) s H1 locs1 → W p l e R s m args below meth c H1 locs1 cells slots Q (F0 m (pc + 3) ls rest)) : W p l e R s m args below meth c H locs cells slots Q (F0 m pc ls (.int (i32 x) :: .ref (ad 68) :: rest)) := pf_X11_288 S hw hdg (fun z1 H1 locs1 ez hw => kk _ H1 locs1 rfl (Zok_up hz hx) (Yput (by decide) ez hw))
theorem pp_X11_299 (S : CallFix p m c cc nL s args Ztbl RX11) (hw : ZW D cA ad A (Zc z) s H locs) (hz : Zok z) {x : Int} (hx : InR x) (hdg : decode cc pc = .ok (.putfield 299, 3)) (kk : ∀ (z1 : ZI) (H1 : Heap) (locs1 : List Loc), z1 = Zup z 68 26 x → Zok z1 → ZW D cA ad A (Zc z1) s H1 locs1 → W p l e R s m args below meth c H1 locs1 cells slots Q (F0 m (pc + 3) ls rest)) : W p l e R s m args below meth c H locs cells slots Q (F0 m pc ls (.int (i32 x) :: .ref (ad 68) :: rest)) := pf_X11_299 S hw hdg (fun z1 H1 locs1 ez hw => kk _ H1 locs1 rfl (Zok_up hz hx) (Yput (by decide) ez hw))
theorem pp_X11_305 (S : CallFix p m c cc nL s args Ztbl RX11) (hw : ZW D cA ad A (Zc z) s H locs) (hz : Zok z) {x : Int} (hx : InR x) (hdg : decode cc pc = .ok (.putfield 305, 3)) (kk : ∀ (z1 : ZI) (H1 : Heap) (locs1 : List Loc), z1 = Zup z 68 27 x → Zok z1 → ZW D cA ad A (Zc z1) s H1 locs1 → W p l e R s m args below meth c H1 locs1 cells slots Q (F0 m (pc + 3) ls rest)) : W p l e R s m args below meth c H locs cells slots Q (F0 m pc ls (.int (i32 x) :: .ref (ad 68) :: rest)) := pf_X11_305 S hw hdg (fun z1 H1 locs1 ez hw => kk _ H1 locs1 rfl (Zok_up hz hx) (Yput (by decide) ez hw))
theorem pp_X11_320 (S : CallFix p m c cc nL s args Ztbl RX11) (hw : ZW D cA ad A (Zc z) s H locs) (hz : Zok z) {x : Int} (hx : InR x) (hdg : decode cc pc = .ok (.putfield 320, 3)) (kk : ∀ (z1 : ZI) (H1 : Heap) (locs1 : List Loc), z1 = Zup z 68 34 x → Zok z1 → ZW D cA ad A (Zc z1) s H1 locs1 → W p l e R s m args below meth c H1 locs1 cells slots Q (F0 m (pc + 3) ls rest)) : W p l e R s m args below meth c H locs cells slots Q (F0 m pc ls (.int (i32 x) :: .ref (ad 68) :: rest)) := pf_X11_320 S hw hdg (fun z1 H1 locs1 ez hw => kk _ H1 locs1 rfl (Zok_up hz hx) (Yput (by decide) ez hw))
theorem pp_X11_344 (S : CallFix p m c cc nL s args Ztbl RX11) (hw : ZW D cA ad A (Zc z) s H locs) (hz : Zok z) {x : Int} (hx : InR x) (hdg : decode cc pc = .ok (.putfield 344, 3)) (kk : ∀ (z1 : ZI) (H1 : Heap) (locs1 : List Loc), z1 = Zup z 68 35 x → Zok z1 → ZW D cA ad A (Zc z1) s H1 locs1 → W p l e R s m args below meth c H1 locs1 cells slots Q (F0 m (pc + 3) ls rest)) : W p l e R s m args below meth c H locs cells slots Q (F0 m pc ls (.int (i32 x) :: .ref (ad 68) :: rest)) := pf_X11_344 S hw hdg (fun z1 H1 locs1 ez hw => kk _ H1 locs1 rfl (Zok_up hz hx) (Yput (by decide) ez hw))
theorem pp_X11_369 (S : CallFix p m c cc nL s args Ztbl RX11) (hw : ZW D cA ad A (Zc z) s H locs) (hz : Zok z) {x : Int} (hx : InR x) (hdg : decode cc pc = .ok (.putfield 369, 3)) (kk : ∀ (z1 : ZI) (H1 : Heap) (locs1 : List Loc), z1 = Zup z 68 47 x → Zok z1 → ZW D cA ad A (Zc z1) s H1 locs1 → W p l e R s m args below meth c H1 locs1 cells slots Q (F0 m (pc + 3) ls rest)) : W p l e R s m args below meth c H locs cells slots Q (F0 m pc ls (.int (i32 x) :: .ref (ad 68) :: rest)) := pf_X11_369 S hw hdg (fun z1 H1 locs1 ez hw => kk _ H1 locs1 rfl (Zok_up hz hx) (Yput (by decide) ez hw))
theorem pp_X11_388 (S : CallFix p m c cc nL s args Ztbl RX11) (hw : ZW D cA ad A (Zc z) s H locs) (hz : Zok z) {x : Int} (hx : InR x) (h01 : x = 0 ∨ x = 1) (hdg : decode cc pc = .ok (.putfield 388, 3)) (kk : ∀ (z1 : ZI) (H1 : Heap) (locs1 : List Loc), z1 = Zup z 68 53 x → Zok z1 → ZW D cA ad A (Zc z1) s H1 locs1 → W p l e R s m args below meth c H1 locs1 cells slots Q (F0 m (pc + 3) ls rest)) : W p l e R s m args below meth c H locs cells slots Q (F0 m pc ls (.int (i32 x) :: .ref (ad 68) :: rest)) := pf_X11_388 S hw (by rcases h01 with rfl | rfl; exact Or.inl rfl; exact Or.inr rfl) hdg (fun z1 H1 locs1 ez hw => kk _ H1 locs1 rfl (Zok_up hz hx) (Yput (by decide) ez hw))
theorem pp_X11_395 (S : CallFix p m c cc nL s args Ztbl RX11) (hw : ZW D cA ad A (Zc z) s H locs) (hz : Zok z) {x : Int} (hx : InR x) (hdg : decode cc pc = .ok (.putfield 395, 3)) (kk : ∀ (z1 : ZI) (H1 : Heap) (locs1 : List Loc), z1 = Zup z 68 48 x → Zok z1 → ZW D cA ad A (Zc z1) s H1 locs1 → W p l e R s m args below meth c H1 locs1 cells slots Q (F0 m (pc + 3) ls rest)) : W p l e R s m args below meth c H locs cells slots Q (F0 m pc ls (.int (i32 x) :: .ref (ad 68) :: rest)) := pf_X11_395 S hw hdg (fun z1 H1 locs1 ez hw => kk _ H1 locs1 rfl (Zok_up hz hx) (Yput (by decide) ez hw))
theorem pp_X11_398 (S : CallFix p m c cc nL s args Ztbl RX11) (hw : ZW D cA ad A (Zc z) s H locs) (hz : Zok z) {x : Int} (hx : InR x) (hdg : decode cc pc = .ok (.putfield 398, 3)) (kk : ∀ (z1 : ZI) (H1 : Heap) (locs1 : List Loc), z1 = Zup z 68 49 x → Zok z1 → ZW D cA ad A (Zc z1) s H1 locs1 → W p l e R s m args below meth c H1 locs1 cells slots Q (F0 m (pc + 3) ls rest)) : W p l e R s m args below meth c H locs cells slots Q (F0 m pc ls (.int (i32 x) :: .ref (ad 68) :: rest)) := pf_X11_398 S hw hdg (fun z1 H1 locs1 ez hw => kk _ H1 locs1 rfl (Zok_up hz hx) (Yput (by decide) ez hw))
theorem pp_X11_409 (S : CallFix p m c cc nL s args Ztbl RX11) (hw : ZW D cA ad A (Zc z) s H locs) (hz : Zok z) {x : Int} (hx : InR x) (hdg : decode cc pc = .ok (.putfield 409, 3)) (kk : ∀ (z1 : ZI) (H1 : Heap) (locs1 : List Loc), z1 = Zup z 68 61 x → Zok z1 → ZW D cA ad A (Zc z1) s H1 locs1 → W p l e R s m args below meth c H1 locs1 cells slots Q (F0 m (pc + 3) ls rest)) : W p l e R s m args below meth c H locs cells slots Q (F0 m pc ls (.int (i32 x) :: .ref (ad 68) :: rest)) := pf_X11_409 S hw hdg (fun z1 H1 locs1 ez hw => kk _ H1 locs1 rfl (Zok_up hz hx) (Yput (by decide) ez hw))
theorem pp_X11_412 (S : CallFix p m c cc nL s args Ztbl RX11) (hw : ZW D cA ad A (Zc z) s H locs) (hz : Zok z) {x : Int} (hx : InR x) (hdg : decode cc pc = .ok (.putfield 412, 3)) (kk : ∀ (z1 : ZI) (H1 : Heap) (locs1 : List Loc), z1 = Zup z 68 62 x → Zok z1 → ZW D cA ad A (Zc z1) s H1 locs1 → W p l e R s m args below meth c H1 locs1 cells slots Q (F0 m (pc + 3) ls rest)) : W p l e R s m args below meth c H locs cells slots Q (F0 m pc ls (.int (i32 x) :: .ref (ad 68) :: rest)) := pf_X11_412 S hw hdg (fun z1 H1 locs1 ez hw => kk _ H1 locs1 rfl (Zok_up hz hx) (Yput (by decide) ez hw))
theorem pp_X11_427 (S : CallFix p m c cc nL s args Ztbl RX11) (hw : ZW D cA ad A (Zc z) s H locs) (hz : Zok z) {x : Int} (hx : InR x) (hdg : decode cc pc = .ok (.putfield 427, 3)) (kk : ∀ (z1 : ZI) (H1 : Heap) (locs1 : List Loc), z1 = Zup z 68 70 x → Zok z1 → ZW D cA ad A (Zc z1) s H1 locs1 → W p l e R s m args below meth c H1 locs1 cells slots Q (F0 m (pc + 3) ls rest)) : W p l e R s m args below meth c H locs cells slots Q (F0 m pc ls (.int (i32 x) :: .ref (ad 68) :: rest)) := pf_X11_427 S hw hdg (fun z1 H1 locs1 ez hw => kk _ H1 locs1 rfl (Zok_up hz hx) (Yput (by decide) ez hw))
theorem pp_X11_442 (S : CallFix p m c cc nL s args Ztbl RX11) (hw : ZW D cA ad A (Zc z) s H locs) (hz : Zok z) {x : Int} (hx : InR x) (hdg : decode cc pc = .ok (.putfield 442, 3)) (kk : ∀ (z1 : ZI) (H1 : Heap) (locs1 : List Loc), z1 = Zup z 68 78 x → Zok z1 → ZW D cA ad A (Zc z1) s H1 locs1 → W p l e R s m args below meth c H1 locs1 cells slots Q (F0 m (pc + 3) ls rest)) : W p l e R s m args below meth c H locs cells slots Q (F0 m pc ls (.int (i32 x) :: .ref (ad 68) :: rest)) := pf_X11_442 S hw hdg (fun z1 H1 locs1 ez hw => kk _ H1 locs1 rfl (Zok_up hz hx) (Yput (by decide) ez hw))
theorem pp_X11_456 (S : CallFix p m c cc nL s args Ztbl RX11) (hw : ZW D cA ad A (Zc z) s H locs) (hz : Zok z) {x : Int} (hx : InR x) (hdg : decode cc pc = .ok (.putfield 456, 3)) (kk : ∀ (z1 : ZI) (H1 : Heap) (locs1 : List Loc), z1 = Zup z 68 79 x → Zok z1 → ZW D cA ad A (Zc z1) s H1 locs1 → W p l e R s m args below meth c H1 locs1 cells slots Q (F0 m (pc + 3) ls rest)) : W p l e R s m args below meth c H locs cells slots Q (F0 m pc ls (.int (i32 x) :: .ref (ad 68) :: rest)) := pf_X11_456 S hw hdg (fun z1 H1 locs1 ez hw => kk _ H1 locs1 rfl (Zok_up hz hx) (Yput (by decide) ez hw))
theorem pp_X2_31 (S : CallFix p m c cc nL s args Ztbl RX2) (hw : ZW D cA ad A (Zc z) s H locs) (hz : Zok z) {x : Int} (hx : InR x) (hdg : decode cc pc = .ok (.putfield 31, 3)) (kk : ∀ (z1 : ZI) (H1 : Heap) (locs1 : List Loc), z1 = Zup z 54 0 x → Zok z1 → ZW D cA ad A (Zc z1) s H1 locs1 → W p l e R s m args below meth c H1 locs1 cells slots Q (F0 m (pc + 3) ls rest)) : W p l e R s m args below meth c H locs cells slots Q (F0 m pc ls (.int (i32 x) :: .ref (ad 54) :: rest)) := pf_X2_31 S hw hdg (fun z1 H1 locs1 ez hw => kk _ H1 locs1 rfl (Zok_up hz hx) (Yput (by decide) ez hw))
theorem pp_X3_55 (S : CallFix p m c cc nL s args Ztbl RX3) (hw : ZW D cA ad A (Zc z) s H locs) (hz : Zok z) {x : Int} (hx : InR x) (hdg : decode cc pc = .ok (.putfield 55, 3)) (kk : ∀ (z1 : ZI) (H1 : Heap) (locs1 : List Loc), z1 = Zup z 11 0 x → Zok z1 → ZW D cA ad A (Zc z1) s H1 locs1 → W p l e R s m args below meth c H1 locs1 cells slots Q (F0 m (pc + 3) ls rest)) : W p l e R s m args below meth c H locs cells slots Q (F0 m pc ls (.int (i32 x) :: .ref (ad 11) :: rest)) := pf_X3_55 S hw hdg (fun z1 H1 locs1 ez hw => kk _ H1 locs1 rfl (Zok_up hz hx) (Yput (by decide) ez hw))
theorem pp_X3_59 (S : CallFix p m c cc nL s args Ztbl RX3) (hw : ZW D cA ad A (Zc z) s H locs) (hz : Zok z) {x : Int} (hx : InR x) (hdg : decode cc pc = .ok (.putfield 59, 3)) (kk : ∀ (z1 : ZI) (H1 : Heap) (locs1 : List Loc), z1 = Zup z 11 4 x → Zok z1 → ZW D cA ad A (Zc z1) s H1 locs1 → W p l e R s m args below meth c H1 locs1 cells slots Q (F0 m (pc + 3) ls rest)) : W p l e R s m args below meth c H locs cells slots Q (F0 m pc ls (.int (i32 x) :: .ref (ad 11) :: rest)) := pf_X3_59 S hw hdg (fun z1 H1 locs1 ez hw => kk _ H1 locs1 rfl (Zok_up hz hx) (Yput (by decide) ez hw))
theorem pp_X3_62 (S : CallFix p m c cc nL s args Ztbl RX3) (hw : ZW D cA ad A (Zc z) s H locs) (hz : Zok z) {x : Int} (hx : InR x) (hdg : decode cc pc = .ok (.putfield 62, 3)) (kk : ∀ (z1 : ZI) (H1 : Heap) (locs1 : List Loc), z1 = Zup z 11 10 x → Zok z1 → ZW D cA ad A (Zc z1) s H1 locs1 → W p l e R s m args below meth c H1 locs1 cells slots Q (F0 m (pc + 3) ls rest)) : W p l e R s m args below meth c H locs cells slots Q (F0 m pc ls (.int (i32 x) :: .ref (ad 11) :: rest)) := pf_X3_62 S hw hdg (fun z1 H1 locs1 ez hw => kk _ H1 locs1 rfl (Zok_up hz hx) (Yput (by decide) ez hw))
theorem pp_X4_49 (S : CallFix p m c cc nL s args Ztbl RX4) (hw : ZW D cA ad A (Zc z) s H locs) (hz : Zok z) {x : Int} (hx : InR x) (h01 : x = 0 ∨ x = 1) (hdg : decode cc pc = .ok (.putfield 49, 3)) (kk : ∀ (z1 : ZI) (H1 : Heap) (locs1 : List Loc), z1 = Zup z 2 8 x → Zok z1 → ZW D cA ad A (Zc z1) s H1 locs1 → W p l e R s m args below meth c H1 locs1 cells slots Q (F0 m (pc + 3) ls rest)) : W p l e R s m args below meth c H locs cells slots Q (F0 m pc ls (.int (i32 x) :: .ref (ad 2) :: rest)) := pf_X4_49 S hw (by rcases h01 with rfl | rfl; exact Or.inl rfl; exact Or.inr rfl) hdg (fun z1 H1 locs1 ez hw => kk _ H1 locs1 rfl (Zok_up hz hx) (Yput (by decide) ez hw))
theorem pp_X4_60 (S : CallFix p m c cc nL s args Ztbl RX4) (hw : ZW D cA ad A (Zc z) s H locs) (hz : Zok z) {x : Int} (hx : InR x) (hdg : decode cc pc = .ok (.putfield 60, 3)) (kk : ∀ (z1 : ZI) (H1 : Heap) (locs1 : List Loc), z1 = Zup z 2 2 x → Zok z1 → ZW D cA ad A (Zc z1) s H1 locs1 → W p l e R s m args below meth c H1 locs1 cells slots Q (F0 m (pc + 3) ls rest)) : W p l e R s m args below meth c H locs cells slots Q (F0 m pc ls (.int (i32 x) :: .ref (ad 2) :: rest)) := pf_X4_60 S hw hdg (fun z1 H1 locs1 ez hw => kk _ H1 locs1 rfl (Zok_up hz hx) (Yput (by decide) ez hw))
theorem pp_X4_64 (S : CallFix p m c cc nL s args Ztbl RX4) (hw : ZW D cA ad A (Zc z) s H locs) (hz : Zok z) {x : Int} (hx : InR x) (hdg : decode cc pc = .ok (.putfield 64, 3)) (kk : ∀ (z1 : ZI) (H1 : Heap) (locs1 : List Loc), z1 = Zup z 2 4 x → Zok z1 → ZW D cA ad A (Zc z1) s H1 locs1 → W p l e R s m args below meth c H1 locs1 cells slots Q (F0 m (pc + 3) ls rest)) : W p l e R s m args below meth c H locs cells slots Q (F0 m pc ls (.int (i32 x) :: .ref (ad 2) :: rest)) := pf_X4_64 S hw hdg (fun z1 H1 locs1 ez hw => kk _ H1 locs1 rfl (Zok_up hz hx) (Yput (by decide) ez hw))
theorem pp_X5_21 (S : CallFix p m c cc nL s args Ztbl RX5) (hw : ZW D cA ad A (Zc z) s H locs) (hz : Zok z) {x : Int} (hx : InR x) (hdg : decode cc pc = .ok (.putfield 21, 3)) (kk : ∀ (z1 : ZI) (H1 : Heap) (locs1 : List Loc), z1 = Zup z 59 0 x → Zok z1 → ZW D cA ad A (Zc z1) s H1 locs1 → W p l e R s m args below meth c H1 locs1 cells slots Q (F0 m (pc + 3) ls rest)) : W p l e R s m args below meth c H locs cells slots Q (F0 m pc ls (.int (i32 x) :: .ref (ad 59) :: rest)) := pf_X5_21 S hw hdg (fun z1 H1 locs1 ez hw => kk _ H1 locs1 rfl (Zok_up hz hx) (Yput (by decide) ez hw))
theorem pp_X5_29 (S : CallFix p m c cc nL s args Ztbl RX5) (hw : ZW D cA ad A (Zc z) s H locs) (hz : Zok z) {x : Int} (hx : InR x) (hdg : decode cc pc = .ok (.putfield 29, 3)) (kk : ∀ (z1 : ZI) (H1 : Heap) (locs1 : List Loc), z1 = Zup z 59 2 x → Zok z1 → ZW D cA ad A (Zc z1) s H1 locs1 → W p l e R s m args below meth c H1 locs1 cells slots Q (F0 m (pc + 3) ls rest)) : W p l e R s m args below meth c H locs cells slots Q (F0 m pc ls (.int (i32 x) :: .ref (ad 59) :: rest)) := pf_X5_29 S hw hdg (fun z1 H1 locs1 ez hw => kk _ H1 locs1 rfl (Zok_up hz hx) (Yput (by decide) ez hw))
theorem pp_X6_27 (S : CallFix p m c cc nL s args Ztbl RX6) (hw : ZW D cA ad A (Zc z) s H locs) (hz : Zok z) {x : Int} (hx : InR x) (hdg : decode cc pc = .ok (.putfield 27, 3)) (kk : ∀ (z1 : ZI) (H1 : Heap) (locs1 : List Loc), z1 = Zup z 30 4 x → Zok z1 → ZW D cA ad A (Zc z1) s H1 locs1 → W p l e R s m args below meth c H1 locs1 cells slots Q (F0 m (pc + 3) ls rest)) : W p l e R s m args below meth c H locs cells slots Q (F0 m pc ls (.int (i32 x) :: .ref (ad 30) :: rest)) := pf_X6_27 S hw hdg (fun z1 H1 locs1 ez hw => kk _ H1 locs1 rfl (Zok_up hz hx) (Yput (by decide) ez hw))
theorem pp_X6_43 (S : CallFix p m c cc nL s args Ztbl RX6) (hw : ZW D cA ad A (Zc z) s H locs) (hz : Zok z) {x : Int} (hx : InR x) (hdg : decode cc pc = .ok (.putfield 43, 3)) (kk : ∀ (z1 : ZI) (H1 : Heap) (locs1 : List Loc), z1 = Zup z 30 2 x → Zok z1 → ZW D cA ad A (Zc z1) s H1 locs1 → W p l e R s m args below meth c H1 locs1 cells slots Q (F0 m (pc + 3) ls rest)) : W p l e R s m args below meth c H locs cells slots Q (F0 m pc ls (.int (i32 x) :: .ref (ad 30) :: rest)) := pf_X6_43 S hw hdg (fun z1 H1 locs1 ez hw => kk _ H1 locs1 rfl (Zok_up hz hx) (Yput (by decide) ez hw))
theorem pp_X6_45 (S : CallFix p m c cc nL s args Ztbl RX6) (hw : ZW D cA ad A (Zc z) s H locs) (hz : Zok z) {x : Int} (hx : InR x) (hdg : decode cc pc = .ok (.putfield 45, 3)) (kk : ∀ (z1 : ZI) (H1 : Heap) (locs1 : List Loc), z1 = Zup z 30 3 x → Zok z1 → ZW D cA ad A (Zc z1) s H1 locs1 → W p l e R s m args below meth c H1 locs1 cells slots Q (F0 m (pc + 3) ls rest)) : W p l e R s m args below meth c H locs cells slots Q (F0 m pc ls (.int (i32 x) :: .ref (ad 30) :: rest)) := pf_X6_45 S hw hdg (fun z1 H1 locs1 ez hw => kk _ H1 locs1 rfl (Zok_up hz hx) (Yput (by decide) ez hw))
theorem pp_X7_35 (S : CallFix p m c cc nL s args Ztbl RX7) (hw : ZW D cA ad A (Zc z) s H locs) (hz : Zok z) {x : Int} (hx : InR x) (hdg : decode cc pc = .ok (.putfield 35, 3)) (kk : ∀ (z1 : ZI) (H1 : Heap) (locs1 : List Loc), z1 = Zup z 24 1 x → Zok z1 → ZW D cA ad A (Zc z1) s H1 locs1 → W p l e R s m args below meth c H1 locs1 cells slots Q (F0 m (pc + 3) ls rest)) : W p l e R s m args below meth c H locs cells slots Q (F0 m pc ls (.int (i32 x) :: .ref (ad 24) :: rest)) := pf_X7_35 S hw hdg (fun z1 H1 locs1 ez hw => kk _ H1 locs1 rfl (Zok_up hz hx) (Yput (by decide) ez hw))
theorem pp_X7_50 (S : CallFix p m c cc nL s args Ztbl RX7) (hw : ZW D cA ad A (Zc z) s H locs) (hz : Zok z) {x : Int} (hx : InR x) (hdg : decode cc pc = .ok (.putfield 50, 3)) (kk : ∀ (z1 : ZI) (H1 : Heap) (locs1 : List Loc), z1 = Zup z 24 2 x → Zok z1 → ZW D cA ad A (Zc z1) s H1 locs1 → W p l e R s m args below meth c H1 locs1 cells slots Q (F0 m (pc + 3) ls rest)) : W p l e R s m args below meth c H locs cells slots Q (F0 m pc ls (.int (i32 x) :: .ref (ad 24) :: rest)) := pf_X7_50 S hw hdg (fun z1 H1 locs1 ez hw => kk _ H1 locs1 rfl (Zok_up hz hx) (Yput (by decide) ez hw))
theorem pp_X8_21 (S : CallFix p m c cc nL s args Ztbl RX8) (hw : ZW D cA ad A (Zc z) s H locs) (hz : Zok z) {x : Int} (hx : InR x) (hdg : decode cc pc = .ok (.putfield 21, 3)) (kk : ∀ (z1 : ZI) (H1 : Heap) (locs1 : List Loc), z1 = Zup z 37 0 x → Zok z1 → ZW D cA ad A (Zc z1) s H1 locs1 → W p l e R s m args below meth c H1 locs1 cells slots Q (F0 m (pc + 3) ls rest)) : W p l e R s m args below meth c H locs cells slots Q (F0 m pc ls (.int (i32 x) :: .ref (ad 37) :: rest)) := pf_X8_21 S hw hdg (fun z1 H1 locs1 ez hw => kk _ H1 locs1 rfl (Zok_up hz hx) (Yput (by decide) ez hw))
theorem pp_X9_54 (S : CallFix p m c cc nL s args Ztbl RX9) (hw : ZW D cA ad A (Zc z) s H locs) (hz : Zok z) {x : Int} (hx : InR x) (hdg : decode cc pc = .ok (.putfield 54, 3)) (kk : ∀ (z1 : ZI) (H1 : Heap) (locs1 : List Loc), z1 = Zup z 41 0 x → Zok z1 → ZW D cA ad A (Zc z1) s H1 locs1 → W p l e R s m args below meth c H1 locs1 cells slots Q (F0 m (pc + 3) ls rest)) : W p l e R s m args below meth c H locs cells slots Q (F0 m pc ls (.int (i32 x) :: .ref (ad 41) :: rest)) := pf_X9_54 S hw hdg (fun z1 H1 locs1 ez hw => kk _ H1 locs1 rfl (Zok_up hz hx) (Yput (by decide) ez hw))
theorem pp_X9_58 (S : CallFix p m c cc nL s args Ztbl RX9) (hw : ZW D cA ad A (Zc z) s H locs) (hz : Zok z) {x : Int} (hx : InR x) (h01 : x = 0 ∨ x = 1) (hdg : decode cc pc = .ok (.putfield 58, 3)) (kk : ∀ (z1 : ZI) (H1 : Heap) (locs1 : List Loc), z1 = Zup z 41 14 x → Zok z1 → ZW D cA ad A (Zc z1) s H1 locs1 → W p l e R s m args below meth c H1 locs1 cells slots Q (F0 m (pc + 3) ls rest)) : W p l e R s m args below meth c H locs cells slots Q (F0 m pc ls (.int (i32 x) :: .ref (ad 41) :: rest)) := pf_X9_58 S hw (by rcases h01 with rfl | rfl; exact Or.inl rfl; exact Or.inr rfl) hdg (fun z1 H1 locs1 ez hw => kk _ H1 locs1 rfl (Zok_up hz hx) (Yput (by decide) ez hw))
theorem pp_X9_68 (S : CallFix p m c cc nL s args Ztbl RX9) (hw : ZW D cA ad A (Zc z) s H locs) (hz : Zok z) {x : Int} (hx : InR x) (hdg : decode cc pc = .ok (.putfield 68, 3)) (kk : ∀ (z1 : ZI) (H1 : Heap) (locs1 : List Loc), z1 = Zup z 41 5 x → Zok z1 → ZW D cA ad A (Zc z1) s H1 locs1 → W p l e R s m args below meth c H1 locs1 cells slots Q (F0 m (pc + 3) ls rest)) : W p l e R s m args below meth c H locs cells slots Q (F0 m pc ls (.int (i32 x) :: .ref (ad 41) :: rest)) := pf_X9_68 S hw hdg (fun z1 H1 locs1 ez hw => kk _ H1 locs1 rfl (Zok_up hz hx) (Yput (by decide) ez hw))
theorem pp_X9_118 (S : CallFix p m c cc nL s args Ztbl RX9) (hw : ZW D cA ad A (Zc z) s H locs) (hz : Zok z) {x : Int} (hx : InR x) (hdg : decode cc pc = .ok (.putfield 118, 3)) (kk : ∀ (z1 : ZI) (H1 : Heap) (locs1 : List Loc), z1 = Zup z 41 15 x → Zok z1 → ZW D cA ad A (Zc z1) s H1 locs1 → W p l e R s m args below meth c H1 locs1 cells slots Q (F0 m (pc + 3) ls rest)) : W p l e R s m args below meth c H locs cells slots Q (F0 m pc ls (.int (i32 x) :: .ref (ad 41) :: rest)) := pf_X9_118 S hw hdg (fun z1 H1 locs1 ez hw => kk _ H1 locs1 rfl (Zok_up hz hx) (Yput (by decide) ez hw))
end YWORDS
