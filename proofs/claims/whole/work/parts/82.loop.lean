/-! the law: its loop -/
/-- the first call of best that asks: two rows come -/
def LBF (p : Program) (l : Launch) (e : Env) (s : State) (m : MethodId) (below : List Frame) (meth : Method) (c : Code) (D : va_G) (cA : Nat → ClassId) (b L : Nat) : Prop := ∀ {Q : State → Prop} {n : Int} {i : Nat} {z : ZI} {ad : Nat → Nat} {H : Heap} {locs : List Loc} {cells slots : Nat} {ls : Array Slot}, n ≤ 1000 → i + 5 ≤ L → Zdj ad → Zok z → K z → JN n z → z 41 14 = 0 → z 200 52 = 0 → ZW D cA ad (LA s) (Zc z) s H locs → cells + 2 ≤ room_1.cells ∧ slots + 8192 ≤ room_1.slots → lv_has ls 4 [(3, .int (i32 ((i : Int)))), (2, .ref (ad 68)), (1, .ref (ad 0)), (0, .ref b)] → (∀ (ad2 : Nat → Nat) (z2 : ZI) (H1 : Heap) (locs1 : List Loc), ad2 0 = ad 0 → ad2 68 = ad 68 → Zdj ad2 → Zok z2 → K z2 → JN (n + 1) z2 → ZW D cA ad2 (LA s) (Zc z2) s H1 locs1 → W p l e room_1 s m #[Value.ref b] below meth c H1 locs1 (cells + 2) (slots + 8192) Q (F0 m 1413 ls [])) → W p l e room_1 s m #[Value.ref b] below meth c H locs cells slots Q (F0 m 889 ls [])
set_option maxHeartbeats 2000000 in
theorem law_loop {p : Program} {l : Launch} {e : Env} {s : State} {m : MethodId} {below : List Frame} {meth : Method} {c : Code} {D : va_G} {cA : Nat → ClassId} {b L : Nat} {xs : Nat → Int32} (C : LC p s m c b L xs) (hr : meth.sig.returnType = ret) (hlk : meth.locks = false) (hB : LBF p l e s m below meth c D cA b L) : ∀ (d t : Nat), 5 * t ≤ L → L < 5 * (t + d) → ∀ (z : ZI) (ad : Nat → Nat) (H : Heap) (locs : List Loc) (cells slots : Nat) (ls : Array Slot), cells ≤ 1000 + 2 * t → slots ≤ 100000 + 8192 * t → Zdj ad → Zok z → K z → JN (t : Int) z → ZW D cA ad (LA s) (Zc z) s H locs → lv_has ls 4 [(3, .int (i32 (((5 * t : Nat) : Int)))), (2, .ref (ad 68)), (1, .ref (ad 0)), (0, .ref b)] → W p l e room_1 s m #[Value.ref b] below meth c H locs cells slots (lw_Z below #[Value.ref b] s) (F0 m 18 ls []) := by
  have S := C.1
  have hX := C.2.1
  have hbl := C.2.2.1
  have hL := C.2.2.2
  intro d
  induction d with
  | zero =>
    intro t h1 h2
    exact absurd h2 (by omega)
  | succ d ih =>
    intro t h1 h2 z ad H locs cells slots ls hc1 hc2 hdj hzz hK hN hw hl
    have rt : InR ((5 * t : Nat) : Int) := ⟨by omega, by omega⟩
    have rL : InR ((L : Int) - 5) := ⟨by omega, by omega⟩
    refine lv_iload_n S.1 S.2.1 dL_law_18 rfl (lv_at hl 0 rfl) ?_
    refine lv_aload_n S.1 S.2.1 dL_law_19 rfl (lv_at hl 3 rfl) ?_
    refine va_slen S.1 S.2.1 hX hbl (Nat.not_le.mpr hbl) hw.2.2.2 dL_law_20 ?_
    rw [show Int32.ofNat L = i32 (L : Int) from rfl]
    refine lv_iconst (v := i32 5) S.1 S.2.1 dL_law_21 ic_5 ?_
    refine Yisub S dL_law_22 ?_
    refine Yicmp_gt (tgt := 1419) S rt rL dL_law_23 (by decide) (fun c1 => ?_) (fun c1 => ?_)
    · refine lv_iconst (v := 1) S.1 S.2.1 dL_law_1419 rfl ?_
      refine va_forget (fun q hq => hw.2.2.2.2.2 q hq) ?_
      refine W.widen (k := 600000) (n := 7302250) (by omega) (by omega) ?_
      exact lw_ret S.1 S.2.1 hr hlk dL_law_1420
    · have hi : 5 * t + 5 ≤ L := by omega
      have hn : (t : Int) ≤ 1000 := by omega
      have hcs : cells ≤ room_1.cells ∧ slots ≤ room_1.slots := ⟨by show cells ≤ 600000; omega, by show slots ≤ 7302250; omega⟩
      refine lv_aload_n S.1 S.2.1 dL_law_26 rfl (lv_at hl 3 rfl) ?_
      refine lv_iload_n S.1 S.2.1 dL_law_27 rfl (lv_at hl 0 rfl) ?_
      refine va_sld S.1 S.2.1 hX hbl (Nat.not_le.mpr hbl) hw.2.2.2 (Zin (IJ_b rt ⟨by omega, by omega⟩)) dL_law_28 ?_
      refine lv_bipush (v := i32 63) S.1 S.2.1 dL_law_29 rfl ?_
      refine lv_iand S.1 S.2.1 dL_law_31 ?_
      generalize (xs (i32 ((5 * t : Nat) : Int)).toNatClampNeg &&& i32 63) = x
      have nx : ∀ (ad : Nat → Nat) (z2 : ZI) (H1 : Heap) (locs1 : List Loc) (cells slots : Nat), cells ≤ 1000 + 2 * (t + 1) → slots ≤ 100000 + 8192 * (t + 1) → Zdj ad → lv_has ls 4 [(3, .int (i32 (((5 * t : Nat) : Int)))), (2, .ref (ad 68)), (1, .ref (ad 0)), (0, .ref b)] → Zok z2 → K z2 → JN ((t : Int) + 1) z2 → ZW D cA ad (LA s) (Zc z2) s H1 locs1 → W p l e room_1 s m #[Value.ref b] below meth c H1 locs1 cells slots (lw_Z below #[Value.ref b] s) (F0 m 1413 ls []) := by
        intro ad z2 H1 locs1 cells slots a1 a2 a3 hl a4 a5 a6 a7
        refine lv_iinc (v := i32 (((5 * t : Nat) : Int) + 5)) (lv' := [(3, .int (i32 (((5 * t : Nat) : Int) + 5))), (2, .ref (ad 68)), (1, .ref (ad 0)), (0, .ref b)]) S.1 S.2.1 dL_law_1413 hl (k := 0) rfl Yiinc (by decide) rfl (fun ls hl => ?_)
        refine lv_goto (tgt := 18) S.1 S.2.1 dL_law_1416 (by decide) ?_
        rw [show ((5 * t : Nat) : Int) + 5 = ((5 * (t + 1) : Nat) : Int) by omega] at hl
        exact ih (t + 1) (by omega) (by omega) z2 ad H1 locs1 cells slots ls a1 a2 a3 a4 a5 (by rw [show ((t + 1 : Nat) : Int) = (t : Int) + 1 by omega]; exact a6) a7 hl
      have nx1 := fun z2 H1 locs1 => nx ad z2 H1 locs1 cells slots (by omega) (by omega) hdj hl
      have hx : x.toInt = 0 ∨ x.toInt = 1 ∨ x.toInt = 2 ∨ x.toInt = 3 ∨ x.toInt = 4 ∨ x.toInt = 5 ∨ x.toInt = 6 ∨ x.toInt = 7 ∨ x.toInt = 8 ∨ x.toInt = 9 ∨ x.toInt = 10 ∨ x.toInt = 11 ∨ x.toInt = 12 ∨ x.toInt = 13 ∨ x.toInt = 14 ∨ x.toInt = 15 ∨ x.toInt = 16 ∨ x.toInt = 17 ∨ x.toInt = 18 ∨ x.toInt = 19 ∨ x.toInt = 20 ∨ x.toInt = 21 ∨ x.toInt = 22 ∨ x.toInt = 23 ∨ x.toInt = 24 ∨ x.toInt = 25 ∨ x.toInt = 26 ∨ x.toInt = 27 ∨ x.toInt = 28 ∨ x.toInt = 29 ∨ x.toInt = 30 ∨ x.toInt = 31 ∨ x.toInt = 32 ∨ x.toInt = 33 ∨ x.toInt = 34 ∨ x.toInt = 35 ∨ x.toInt = 36 ∨ (x.toInt < 0 ∨ 36 < x.toInt) := by omega
      rcases hx with e1 | e1 | e1 | e1 | e1 | e1 | e1 | e1 | e1 | e1 | e1 | e1 | e1 | e1 | e1 | e1 | e1 | e1 | e1 | e1 | e1 | e1 | e1 | e1 | e1 | e1 | e1 | e1 | e1 | e1 | e1 | e1 | e1 | e1 | e1 | e1 | e1 | e1
      · refine lv_tableIn (off := 164) (tgt := 196) S.1 S.2.1 dL_law_32 (by rw [e1]; decide) (by rw [e1]; decide) (by rw [e1]; rfl) (by decide) ?_
        exact L_days C hn hi hdj hzz hK hN hw hcs hl nx1
      · refine lv_tableIn (off := 187) (tgt := 219) S.1 S.2.1 dL_law_32 (by rw [e1]; decide) (by rw [e1]; decide) (by rw [e1]; rfl) (by decide) ?_
        exact L_height C hn hi hdj hzz hK hN hw hcs hl nx1
      · refine lv_tableIn (off := 220) (tgt := 252) S.1 S.2.1 dL_law_32 (by rw [e1]; decide) (by rw [e1]; decide) (by rw [e1]; rfl) (by decide) ?_
        exact L_down C hn hi hdj hzz hK hN hw hcs hl nx1
      · refine lv_tableIn (off := 243) (tgt := 275) S.1 S.2.1 dL_law_32 (by rw [e1]; decide) (by rw [e1]; decide) (by rw [e1]; rfl) (by decide) ?_
        exact L_house C hn hi hdj hzz hK hN hw hcs hl nx1
      · refine lv_tableIn (off := 276) (tgt := 308) S.1 S.2.1 dL_law_32 (by rw [e1]; decide) (by rw [e1]; decide) (by rw [e1]; rfl) (by decide) ?_
        exact L_person C hn hi hdj hzz hK hN hw hcs hl nx1
      · refine lv_tableIn (off := 319) (tgt := 351) S.1 S.2.1 dL_law_32 (by rw [e1]; decide) (by rw [e1]; decide) (by rw [e1]; rfl) (by decide) ?_
        exact L_state C hn hi hdj hzz hK hN hw hcs hl nx1
      · refine lv_tableIn (off := 352) (tgt := 384) S.1 S.2.1 dL_law_32 (by rw [e1]; decide) (by rw [e1]; decide) (by rw [e1]; rfl) (by decide) ?_
        exact L_stateOf C hn hi hdj hzz hK hN hw hcs hl nx1
      · refine lv_tableIn (off := 385) (tgt := 417) S.1 S.2.1 dL_law_32 (by rw [e1]; decide) (by rw [e1]; decide) (by rw [e1]; rfl) (by decide) ?_
        exact L_here C hn hi hdj hzz hK hN hw hcs hl nx1
      · refine lv_tableIn (off := 418) (tgt := 450) S.1 S.2.1 dL_law_32 (by rw [e1]; decide) (by rw [e1]; decide) (by rw [e1]; rfl) (by decide) ?_
        exact L_feed C hn hi hdj hzz hK hN hw hcs hl nx1
      · refine lv_tableIn (off := 481) (tgt := 513) S.1 S.2.1 dL_law_32 (by rw [e1]; decide) (by rw [e1]; decide) (by rw [e1]; rfl) (by decide) ?_
        exact L_rule C hn hi hdj hzz hK hN hw hcs hl nx1
      · refine lv_tableIn (off := 514) (tgt := 546) S.1 S.2.1 dL_law_32 (by rw [e1]; decide) (by rw [e1]; decide) (by rw [e1]; rfl) (by decide) ?_
        exact L_card C hn hi hdj hzz hK hN hw hcs hl nx1
      · refine lv_tableIn (off := 537) (tgt := 569) S.1 S.2.1 dL_law_32 (by rw [e1]; decide) (by rw [e1]; decide) (by rw [e1]; rfl) (by decide) ?_
        exact L_end C hn hi hdj hzz hK hN hw hcs hl nx1
      · refine lv_tableIn (off := 560) (tgt := 592) S.1 S.2.1 dL_law_32 (by rw [e1]; decide) (by rw [e1]; decide) (by rw [e1]; rfl) (by decide) ?_
        exact L_draw C hn hi hdj hzz hK hN hw hcs hl nx1
      · refine lv_tableIn (off := 593) (tgt := 625) S.1 S.2.1 dL_law_32 (by rw [e1]; decide) (by rw [e1]; decide) (by rw [e1]; rfl) (by decide) ?_
        exact L_points C hn hi hdj hzz hK hN hw hcs hl nx1
      · refine lv_tableIn (off := 626) (tgt := 658) S.1 S.2.1 dL_law_32 (by rw [e1]; decide) (by rw [e1]; decide) (by rw [e1]; rfl) (by decide) ?_
        exact L_handed C hn hi hdj hzz hK hN hw hcs hl nx1
      · refine lv_tableIn (off := 669) (tgt := 701) S.1 S.2.1 dL_law_32 (by rw [e1]; decide) (by rw [e1]; decide) (by rw [e1]; rfl) (by decide) ?_
        exact L_since C hn hi hdj hzz hK hN hw hcs hl nx1
      · refine lv_tableIn (off := 692) (tgt := 724) S.1 S.2.1 dL_law_32 (by rw [e1]; decide) (by rw [e1]; decide) (by rw [e1]; rfl) (by decide) ?_
        exact L_pairs C hn hi hdj hzz hK hN hw hcs hl nx1
      · refine lv_tableIn (off := 725) (tgt := 757) S.1 S.2.1 dL_law_32 (by rw [e1]; decide) (by rw [e1]; decide) (by rw [e1]; rfl) (by decide) ?_
        exact L_alike C hn hi hdj hzz hK hN hw hcs hl nx1
      · refine lv_tableIn (off := 758) (tgt := 790) S.1 S.2.1 dL_law_32 (by rw [e1]; decide) (by rw [e1]; decide) (by rw [e1]; rfl) (by decide) ?_
        exact L_well C hn hi hdj hzz hK hN hw hcs hl nx1
      · refine lv_tableIn (off := 801) (tgt := 833) S.1 S.2.1 dL_law_32 (by rw [e1]; decide) (by rw [e1]; decide) (by rw [e1]; rfl) (by decide) ?_
        exact L_block C hn hi hdj hzz hK hN hw hcs hl nx1
      · refine lv_tableIn (off := 834) (tgt := 866) S.1 S.2.1 dL_law_32 (by rw [e1]; decide) (by rw [e1]; decide) (by rw [e1]; rfl) (by decide) ?_
        exact L_served C hn hi hdj hzz hK hN hw hcs hl nx1
      · refine lv_tableIn (off := 857) (tgt := 889) S.1 S.2.1 dL_law_32 (by rw [e1]; decide) (by rw [e1]; decide) (by rw [e1]; rfl) (by decide) ?_
        by_cases c2 : z 41 14 = 0 ∧ z 200 52 = 0
        · refine hB hn hi hdj hzz hK hN c2.1 c2.2 hw ⟨by show cells + 2 ≤ 600000; omega, by show slots + 8192 ≤ 7302250; omega⟩ hl (fun ad2 z2 H1 locs1 q0 q68 b1 b2 b3 b4 b5 => ?_)
          exact nx ad2 z2 H1 locs1 _ _ (by omega) (by omega) b1 (by rw [q0, q68]; exact hl) b2 b3 b4 b5
        · refine L_best C hn hi hdj hzz hK hN hw hcs (t_best hK hN hn _ (fun q => ?_)) hl nx1
          rcases (K_B hK).1 with r | r
          · exact absurd ⟨q, r.1⟩ c2
          · exact r
      · refine lv_tableIn (off := 880) (tgt := 912) S.1 S.2.1 dL_law_32 (by rw [e1]; decide) (by rw [e1]; decide) (by rw [e1]; rfl) (by decide) ?_
        exact L_latrine C hn hi hdj hzz hK hN hw hcs hl nx1
      · refine lv_tableIn (off := 913) (tgt := 945) S.1 S.2.1 dL_law_32 (by rw [e1]; decide) (by rw [e1]; decide) (by rw [e1]; rfl) (by decide) ?_
        exact L_drain C hn hi hdj hzz hK hN hw hcs hl nx1
      · refine lv_tableIn (off := 936) (tgt := 968) S.1 S.2.1 dL_law_32 (by rw [e1]; decide) (by rw [e1]; decide) (by rw [e1]; rfl) (by decide) ?_
        exact L_flow C hn hi hdj hzz hK hN hw hcs hl nx1
      · refine lv_tableIn (off := 969) (tgt := 1001) S.1 S.2.1 dL_law_32 (by rw [e1]; decide) (by rw [e1]; decide) (by rw [e1]; rfl) (by decide) ?_
        exact L_foul C hn hi hdj hzz hK hN hw hcs hl nx1
      · refine lv_tableIn (off := 1002) (tgt := 1034) S.1 S.2.1 dL_law_32 (by rw [e1]; decide) (by rw [e1]; decide) (by rw [e1]; rfl) (by decide) ?_
        exact L_drains C hn hi hdj hzz hK hN hw hcs hl nx1
      · refine lv_tableIn (off := 1025) (tgt := 1057) S.1 S.2.1 dL_law_32 (by rw [e1]; decide) (by rw [e1]; decide) (by rw [e1]; rfl) (by decide) ?_
        exact L_minutes C hn hi hdj hzz hK hN hw hcs hl nx1
      · refine lv_tableIn (off := 1078) (tgt := 1110) S.1 S.2.1 dL_law_32 (by rw [e1]; decide) (by rw [e1]; decide) (by rw [e1]; rfl) (by decide) ?_
        exact L_lane C hn hi hdj hzz hK hN hw hcs hl nx1
      · refine lv_tableIn (off := 1101) (tgt := 1133) S.1 S.2.1 dL_law_32 (by rw [e1]; decide) (by rw [e1]; decide) (by rw [e1]; rfl) (by decide) ?_
        exact L_lanes C hn hi hdj hzz hK hN hw hcs hl nx1
      · refine lv_tableIn (off := 1134) (tgt := 1166) S.1 S.2.1 dL_law_32 (by rw [e1]; decide) (by rw [e1]; decide) (by rw [e1]; rfl) (by decide) ?_
        exact L_queue C hn hi hdj hzz hK hN hw hcs hl nx1
      · refine lv_tableIn (off := 1183) (tgt := 1215) S.1 S.2.1 dL_law_32 (by rw [e1]; decide) (by rw [e1]; decide) (by rw [e1]; rfl) (by decide) ?_
        exact L_list C hn hi hdj hzz hK hN hw hcs hl nx1
      · refine lv_tableIn (off := 1216) (tgt := 1248) S.1 S.2.1 dL_law_32 (by rw [e1]; decide) (by rw [e1]; decide) (by rw [e1]; rfl) (by decide) ?_
        exact L_goes C hn hi hdj hzz hK hN hw hcs hl nx1
      · refine lv_tableIn (off := 1239) (tgt := 1271) S.1 S.2.1 dL_law_32 (by rw [e1]; decide) (by rw [e1]; decide) (by rw [e1]; rfl) (by decide) ?_
        exact L_count C hn hi hdj hzz hK hN hw hcs hl nx1
      · refine lv_tableIn (off := 1282) (tgt := 1314) S.1 S.2.1 dL_law_32 (by rw [e1]; decide) (by rw [e1]; decide) (by rw [e1]; rfl) (by decide) ?_
        exact L_counted C hn hi hdj hzz hK hN hw hcs hl nx1
      · refine lv_tableIn (off := 1325) (tgt := 1357) S.1 S.2.1 dL_law_32 (by rw [e1]; decide) (by rw [e1]; decide) (by rw [e1]; rfl) (by decide) ?_
        exact L_off C hn hi hdj hzz hK hN hw hcs hl nx1
      · refine lv_tableIn (off := 1358) (tgt := 1390) S.1 S.2.1 dL_law_32 (by rw [e1]; decide) (by rw [e1]; decide) (by rw [e1]; rfl) (by decide) ?_
        exact L_total C hn hi hdj hzz hK hN hw hcs hl nx1
      · refine lv_tableOut (tgt := 1413) S.1 S.2.1 dL_law_32 e1 (by decide) ?_
        exact nx1 z H locs hzz hK (JN_1 hN) hw
