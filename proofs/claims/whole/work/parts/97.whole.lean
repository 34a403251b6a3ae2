/-! the law, from its entry -/
def zS1 : ZI := (Zfi (Zfi (Zup (Zfi (Zfi (Zfi (Zup (fun _ _ => 0) 0 0 0) 3 144 50) 5 144 (-9)) 14 144 (-9)) 30 4 (-9)) 45 4 6) 55 30 (-9))
def zS : ZI := Zfi (Zfi zS1 70 144 50) 98 4 6
theorem law_start {p : Program} {l : Launch} {e : Env} {s : State} {m : MethodId} {below : List Frame} {meth : Method} {c : Code} {b L : Nat} {xs : Nat → Int32} (hL : L ≤ 320) (C0 : lw_At p s m meth c b L xs) (hok : Zok zS) (hK0 : K zS) (hN0 : JN 0 zS) : W p l e room_1 s m #[Value.ref b] below meth c s.heap [] 0 0 (lw_Z below #[Value.ref b] s) (entryFrame m ([Value.ref b] : List Value).toArray 4) := by
  obtain ⟨hx, hb, hr, hml, hown, hts, hX, hbl, hlocks, hgv⟩ := id C0
  have hA : ∀ q : Nat, s.heap.size ≤ q → LA s q := fun _ h => h
  have S : CallFix p m c cL_law 4 s #[Value.ref b] Ztbl RL := ⟨hx, hb, hml, hown, Zts hts⟩
  have C : LC p s m c b L xs := ⟨S, hX, hbl, hL⟩
  obtain ⟨D, cA, ad, hE⟩ := st_ZE (A := LA s) hts hgv (fun a ha => Nat.not_le.mpr ha)
  have hl := lv_entry ([.ref b]) (n := 4) (Nat.le_of_ble_eq_true rfl)
  rw [lg_entry_eq]
  generalize (lg_sl ([.ref b]) ++ List.replicate (4 - (lg_sl ([.ref b])).length) Slot.unset).toArray = ls at hl ⊢
  have hl : lv_has ls 4 [(0, .ref b)] := hl
  have hw : PW D cA ad (LA s) (Zc (fun _ _ => 0)) (fun _ => false) 0 s s.heap [] := ⟨hE, fun k q h => by simp [Zqw] at h, ⟨fun i j p q h => by simp [Zqw] at h, fun k q h => by simp [Zqw] at h⟩, va_S.rf, by decide, fun _ _ => rfl⟩
  have hz : Zzero (fun _ _ => 0) 0 := ⟨fun _ _ _ _ => rfl, fun _ _ _ => rfl, fun _ => rfl⟩
  refine Pnew (n := 0) (ix := 7) (C := RX10) (T := TX10) (N := 11) S hw hA hz zd_0 (by decide) zc_X10 iX10 tyX10 tyX10_ok (Ztb 22 (by decide +kernel) rfl) (Ztb 23 (by decide +kernel) rfl) (Ztb 1 (by decide +kernel) rfl) (fun j hj => by rcases (show j = 0 ∨ j = 1 ∨ j = 2 ∨ j = 3 ∨ j = 4 ∨ j = 5 ∨ j = 6 ∨ j = 7 ∨ j = 8 ∨ j = 9 ∨ j = 10 by omega) with rfl | rfl | rfl | rfl | rfl | rfl | rfl | rfl | rfl | rfl | rfl <;> rfl) ⟨by decide, by decide⟩ dL_law_0 (fun ad1 H1 e1 hw1 => ?_)
  refine lv_dup S.1 S.2.1 dL_law_3 rfl ?_
  have cb : CallB room_1 s #[Value.ref b] RL 9 yX10_init cX10_init 1 none (ZV yX10_init cX10_init 1 none) (Rmi 4 67 5161) 67 5161 0 := callB_of 0 S.2.2.2.2 (ZV_in my_X10_init.1) rfl rfl rfl (S.2.2.2.2 _ my_X10_init.2.1) (S.2.2.2.2 _ ml_L_9) my_X10_init.2.2.1 ⟨by decide, by decide⟩
  refine va_callv (va_runI (As := []) (rest := [.ref (ad1 0)]) S (c_X10_init (l := l) (D := D) (cA := cA) (ad := ad1) (A := LA s) (g := fun _ => false) (Zz_up hz (Nat.le_succ _)) (fun _ _ => rfl)) ⟨cb, rfl, S.2.2.2.2 _ (Ztb 25 (by decide +kernel) rfl)⟩ ⟨ZPi_blind, ZPi_down hw1 hA⟩ rfl rfl hl.1 rfl (lv_room (Nat.le_of_ble_eq_true rfl)) dL_law_4 ⟨by decide, by decide⟩) hw1.2.2.2.1 (fun q _ h => h) (fun q h => h) (fun u t H2 locs2 ht hvm hp hB hsz hk hS => ?_)
  have hw2 : PW D cA u (LA s) (Zc zS1) (gto (fun _ => false) 1 68) 68 s H2 locs2 := ⟨ZE_eq (fun k hk => hp k (Or.inr hk)) hw1.1, by rw [← ht]; exact hB.1, hB.2, hS, by decide, fun k hk => by unfold gto; rw [if_neg (by omega)]⟩
  have hz2 : Zzero zS1 68 := Zz_fi (Zz_fi (Zz_zup (Zz_fi (Zz_fi (Zz_fi (Zz_zup (Zz_up hz (by decide)) (by decide) (by decide)) (by decide) (by decide)) (by decide) (by decide)) (by decide) (by decide)) (by decide) (by decide)) (by decide) (by decide)) (by decide) (by decide)
  have eu0 : u 0 = ad1 0 := hp 0 (by decide)
  rw [← eu0]
  refine lv_astore_n (lv' := [(1, .ref (u 0)), (0, .ref b)]) S.1 S.2.1 dL_law_7 rfl hl (by decide) rfl (fun ls hl => ?_)
  refine Pnew (n := 68) (ix := 10) (C := RX11) (T := TX11) (N := 80) S hw2 hA hz2 zd_68 (by decide) zc_X11 iX11 tyX11 tyX11_ok (Ztb 1124 (by decide +kernel) rfl) (Ztb 1125 (by decide +kernel) rfl) (Ztb 14 (by decide +kernel) rfl) (fun j hj => by rcases (show j = 0 ∨ j = 1 ∨ j = 2 ∨ j = 3 ∨ j = 4 ∨ j = 5 ∨ j = 6 ∨ j = 7 ∨ j = 8 ∨ j = 9 ∨ j = 10 ∨ j = 11 ∨ j = 12 ∨ j = 13 ∨ j = 14 ∨ j = 15 ∨ j = 16 ∨ j = 17 ∨ j = 18 ∨ j = 19 ∨ j = 20 ∨ j = 21 ∨ j = 22 ∨ j = 23 ∨ j = 24 ∨ j = 25 ∨ j = 26 ∨ j = 27 ∨ j = 28 ∨ j = 29 ∨ j = 30 ∨ j = 31 ∨ j = 32 ∨ j = 33 ∨ j = 34 ∨ j = 35 ∨ j = 36 ∨ j = 37 ∨ j = 38 ∨ j = 39 ∨ j = 40 ∨ j = 41 ∨ j = 42 ∨ j = 43 ∨ j = 44 ∨ j = 45 ∨ j = 46 ∨ j = 47 ∨ j = 48 ∨ j = 49 ∨ j = 50 ∨ j = 51 ∨ j = 52 ∨ j = 53 ∨ j = 54 ∨ j = 55 ∨ j = 56 ∨ j = 57 ∨ j = 58 ∨ j = 59 ∨ j = 60 ∨ j = 61 ∨ j = 62 ∨ j = 63 ∨ j = 64 ∨ j = 65 ∨ j = 66 ∨ j = 67 ∨ j = 68 ∨ j = 69 ∨ j = 70 ∨ j = 71 ∨ j = 72 ∨ j = 73 ∨ j = 74 ∨ j = 75 ∨ j = 76 ∨ j = 77 ∨ j = 78 ∨ j = 79 by omega) with rfl | rfl | rfl | rfl | rfl | rfl | rfl | rfl | rfl | rfl | rfl | rfl | rfl | rfl | rfl | rfl | rfl | rfl | rfl | rfl | rfl | rfl | rfl | rfl | rfl | rfl | rfl | rfl | rfl | rfl | rfl | rfl | rfl | rfl | rfl | rfl | rfl | rfl | rfl | rfl | rfl | rfl | rfl | rfl | rfl | rfl | rfl | rfl | rfl | rfl | rfl | rfl | rfl | rfl | rfl | rfl | rfl | rfl | rfl | rfl | rfl | rfl | rfl | rfl | rfl | rfl | rfl | rfl | rfl | rfl | rfl | rfl | rfl | rfl | rfl | rfl | rfl | rfl | rfl | rfl <;> rfl) ⟨by decide, by decide⟩ dL_law_8 (fun ad3 H3 e3 hw3 => ?_)
  refine lv_dup S.1 S.2.1 dL_law_11 rfl ?_
  have cb2 : CallB room_1 s #[Value.ref b] RL 12 yX11_init cX11_init 2 none (ZV yX11_init cX11_init 2 none) (Rmi 1 60 5145) 60 5145 0 := callB_of 0 S.2.2.2.2 (ZV_in my_X11_init.1) rfl rfl rfl (S.2.2.2.2 _ my_X11_init.2.1) (S.2.2.2.2 _ ml_L_12) my_X11_init.2.2.1 ⟨by decide, by decide⟩
  refine va_callv (va_runI (As := []) (rest := [.ref (ad3 68)]) S (c_X11_init (l := l) (D := D) (cA := cA) (ad := ad3) (A := LA s) (g := gto (fun _ => false) 1 68) (Zz_up hz2 (Nat.le_succ _)) (fun k hk => hw2.2.2.2.2.2 k (by omega))) ⟨cb2, rfl, S.2.2.2.2 _ (Ztb 1127 (by decide +kernel) rfl)⟩ ⟨ZPi_blind, ZPi_down hw3 hA⟩ rfl rfl hl.1 rfl (lv_room (Nat.le_of_ble_eq_true rfl)) dL_law_12 ⟨by decide, by decide⟩) hw3.2.2.2.1 (fun q _ h => h) (fun q h => h) (fun v t4 H4 locs4 ht4 hvm4 hp4 hB4 hsz4 hk4 hS4 => ?_)
  have ev0 : v 0 = u 0 := (hp4 0 (by decide)).trans (e3 0 (by decide))
  have ev68 : v 68 = ad3 68 := hp4 68 (by decide)
  rw [← ev68]
  rw [← ev0] at hl
  have hE4 : ZE D cA v (LA s) s := ZE_eq (fun k hk => hp4 k (Or.inr hk)) hw3.1
  have hfull : Zqw cA v (Zc zS) (gto (gto (fun _ => false) 1 68) 69 129) 129 = Zws cA v (Zc zS) := Zqw_full (fun k k1 k2 k3 => by
    unfold gto
    by_cases q : 69 ≤ k ∧ k < 129
    · rw [if_pos q]
    · rw [if_neg q, if_pos (by omega)]) Zin129
  have hP4 : va_P D ZCL (Zqw cA v (Zc zS) (gto (gto (fun _ => false) 1 68) 69 129) 129) t4.heap := hB4.1
  have hD4 : va_D (LA s) (Zqw cA v (Zc zS) (gto (gto (fun _ => false) 1 68) 69 129) 129) := hB4.2
  rw [hfull] at hP4 hD4
  rw [ht4] at hP4
  have hw4 : ZW D cA v (LA s) (Zc zS) s H4 locs4 := ⟨hE4, hP4, hD4, hS4⟩
  refine lv_astore_n (lv' := [(2, .ref (v 68)), (1, .ref (v 0)), (0, .ref b)]) S.1 S.2.1 dL_law_15 rfl hl (by decide) rfl (fun ls hl => ?_)
  refine lv_iconst (v := i32 0) S.1 S.2.1 dL_law_16 ic_0 ?_
  refine lv_istore_n (lv' := [(3, .int (i32 0)), (2, .ref (v 68)), (1, .ref (v 0)), (0, .ref b)]) S.1 S.2.1 dL_law_17 rfl hl (by decide) rfl (fun ls hl => ?_)
  exact law_loop C hr hlocks (law_LBF C) (L + 1) 0 (by omega) (by omega) zS v H4 locs4 _ _ ls (by decide) (by decide) (Zd_of hD4).1 hok hK0 hN0 hw4 hl
