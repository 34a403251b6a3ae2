/-! the memory of class and reference as one: cell k, place i -/
abbrev ZS : Type := (Nat → Nat → Int32) × (Nat → Nat → Int64)
abbrev ZD : Type := (Nat × List (Option Nat)) ⊕ (Nat × Nat)
abbrev ZCL : List vw_C := [(RX0, TX0, 4), (RX1, TX1, 5), (RX2, TX2, 5), (RX3, TX3, 15), (RX4, TX4, 11), (RX5, TX5, 5), (RX6, TX6, 5), (RX7, TX7, 8), (RX8, TX8, 4), (RX9, TX9, 16), (RX10, TX10, 11), (RX11, TX11, 80)]
def ZDS : List ZD := [.inl (10, [none, some 1, some 2, some 11, some 24, some 33, some 37, some 41, some 54, some 59, some 63]), .inr (0, 7), .inl (4, [some 3, some 4, none, some 5, none, some 6, some 7, some 8, none, some 9, some 10]), .inr (0, 144), .inr (0, 144), .inr (0, 144), .inr (0, 144), .inr (0, 144), .inr (0, 100), .inr (0, 144), .inr (2, 144), .inl (3, [none, some 12, some 13, some 14, none, some 15, some 16, some 17, some 18, some 19, none, some 20, some 21, some 22, some 23]), .inr (0, 30), .inr (0, 30), .inr (0, 144), .inr (0, 60), .inr (0, 60), .inr (0, 60), .inr (0, 60), .inr (0, 60), .inr (0, 150), .inr (0, 150), .inr (0, 150), .inr (2, 60), .inl (7, [some 25, none, none, some 26, some 27, some 28, some 29, some 30]), .inr (1, 60), .inr (1, 1800), .inr (0, 30), .inr (0, 30), .inr (0, 30), .inl (6, [some 31, some 32, none, none, none]), .inr (0, 8), .inr (1, 60), .inl (0, [none, some 34, some 35, some 36]), .inr (0, 40), .inr (0, 40), .inr (0, 40), .inl (8, [none, some 38, some 39, some 40]), .inr (0, 60), .inr (0, 60), .inr (0, 60), .inl (9, [none, some 42, some 43, some 44, some 45, none, some 46, some 47, some 48, some 49, some 50, some 51, some 52, some 53, none, none]), .inr (0, 6), .inr (0, 6), .inr (0, 6), .inr (0, 4), .inr (0, 30), .inr (0, 30), .inr (0, 30), .inr (0, 30), .inr (0, 30), .inr (0, 4), .inr (4, 0), .inr (4, 0), .inl (2, [none, some 55, some 56, some 57, some 58]), .inr (0, 30), .inr (0, 30), .inr (2, 30), .inr (0, 30), .inl (5, [none, some 60, none, some 61, some 62]), .inr (0, 60), .inr (0, 60), .inr (0, 60), .inl (1, [none, some 64, some 65, some 66, some 67]), .inr (0, 40), .inr (0, 40), .inr (0, 40), .inr (0, 40), .inl (11, [some 69, some 70, some 71, some 72, some 73, some 74, some 75, some 76, some 77, some 78, some 79, none, none, none, none, some 80, some 81, some 82, some 83, some 84, some 85, none, none, none, some 86, some 87, none, none, some 88, some 89, some 90, some 91, some 92, some 93, none, none, some 94, some 95, some 96, some 97, some 98, some 99, some 100, some 101, some 102, some 103, some 104, none, none, none, some 105, some 106, some 107, none, some 108, some 109, some 110, some 111, some 112, some 113, some 114, none, none, some 115, some 116, some 117, some 118, some 119, some 120, some 121, none, some 122, some 123, some 124, some 125, some 126, some 127, some 128, none, none]), .inr (0, 7), .inr (0, 144), .inr (0, 30), .inr (0, 30), .inr (0, 60), .inr (0, 60), .inr (0, 60), .inr (0, 60), .inr (0, 150), .inr (0, 150), .inr (0, 150), .inr (0, 60), .inr (0, 1800), .inr (0, 30), .inr (0, 30), .inr (0, 30), .inr (0, 128), .inr (0, 70), .inr (3, 70), .inr (0, 40), .inr (0, 40), .inr (0, 40), .inr (0, 60), .inr (0, 60), .inr (0, 60), .inr (2, 60), .inr (0, 6), .inr (0, 6), .inr (0, 6), .inr (0, 4), .inr (0, 30), .inr (0, 30), .inr (0, 30), .inr (0, 30), .inr (0, 4), .inr (0, 4), .inr (0, 30), .inr (0, 6), .inr (0, 110), .inr (0, 14), .inr (0, 14), .inr (0, 10), .inr (0, 144), .inr (0, 144), .inr (2, 144), .inr (2, 144), .inr (0, 144), .inr (0, 8), .inr (0, 30), .inr (0, 144), .inr (0, 30), .inr (0, 30), .inr (2, 30), .inr (0, 60), .inr (0, 60), .inr (0, 60), .inr (0, 40), .inr (0, 40), .inr (0, 40), .inr (0, 40)]
theorem zd_0 : ZDS[0]? = some (.inl (10, [none, some 1, some 2, some 11, some 24, some 33, some 37, some 41, some 54, some 59, some 63])) := rfl
theorem zd_1 : ZDS[1]? = some (.inr (0, 7)) := rfl
theorem zd_2 : ZDS[2]? = some (.inl (4, [some 3, some 4, none, some 5, none, some 6, some 7, some 8, none, some 9, some 10])) := rfl
theorem zd_3 : ZDS[3]? = some (.inr (0, 144)) := rfl
theorem zd_4 : ZDS[4]? = some (.inr (0, 144)) := rfl
theorem zd_5 : ZDS[5]? = some (.inr (0, 144)) := rfl
theorem zd_6 : ZDS[6]? = some (.inr (0, 144)) := rfl
theorem zd_7 : ZDS[7]? = some (.inr (0, 144)) := rfl
theorem zd_8 : ZDS[8]? = some (.inr (0, 100)) := rfl
theorem zd_9 : ZDS[9]? = some (.inr (0, 144)) := rfl
theorem zd_10 : ZDS[10]? = some (.inr (2, 144)) := rfl
theorem zd_11 : ZDS[11]? = some (.inl (3, [none, some 12, some 13, some 14, none, some 15, some 16, some 17, some 18, some 19, none, some 20, some 21, some 22, some 23])) := rfl
theorem zd_12 : ZDS[12]? = some (.inr (0, 30)) := rfl
theorem zd_13 : ZDS[13]? = some (.inr (0, 30)) := rfl
theorem zd_14 : ZDS[14]? = some (.inr (0, 144)) := rfl
theorem zd_15 : ZDS[15]? = some (.inr (0, 60)) := rfl
theorem zd_16 : ZDS[16]? = some (.inr (0, 60)) := rfl
theorem zd_17 : ZDS[17]? = some (.inr (0, 60)) := rfl
theorem zd_18 : ZDS[18]? = some (.inr (0, 60)) := rfl
theorem zd_19 : ZDS[19]? = some (.inr (0, 60)) := rfl
theorem zd_20 : ZDS[20]? = some (.inr (0, 150)) := rfl
theorem zd_21 : ZDS[21]? = some (.inr (0, 150)) := rfl
theorem zd_22 : ZDS[22]? = some (.inr (0, 150)) := rfl
theorem zd_23 : ZDS[23]? = some (.inr (2, 60)) := rfl
theorem zd_24 : ZDS[24]? = some (.inl (7, [some 25, none, none, some 26, some 27, some 28, some 29, some 30])) := rfl
theorem zd_25 : ZDS[25]? = some (.inr (1, 60)) := rfl
theorem zd_26 : ZDS[26]? = some (.inr (1, 1800)) := rfl
theorem zd_27 : ZDS[27]? = some (.inr (0, 30)) := rfl
theorem zd_28 : ZDS[28]? = some (.inr (0, 30)) := rfl
theorem zd_29 : ZDS[29]? = some (.inr (0, 30)) := rfl
theorem zd_30 : ZDS[30]? = some (.inl (6, [some 31, some 32, none, none, none])) := rfl
theorem zd_31 : ZDS[31]? = some (.inr (0, 8)) := rfl
theorem zd_32 : ZDS[32]? = some (.inr (1, 60)) := rfl
theorem zd_33 : ZDS[33]? = some (.inl (0, [none, some 34, some 35, some 36])) := rfl
theorem zd_34 : ZDS[34]? = some (.inr (0, 40)) := rfl
theorem zd_35 : ZDS[35]? = some (.inr (0, 40)) := rfl
theorem zd_36 : ZDS[36]? = some (.inr (0, 40)) := rfl
theorem zd_37 : ZDS[37]? = some (.inl (8, [none, some 38, some 39, some 40])) := rfl
theorem zd_38 : ZDS[38]? = some (.inr (0, 60)) := rfl
theorem zd_39 : ZDS[39]? = some (.inr (0, 60)) := rfl
theorem zd_40 : ZDS[40]? = some (.inr (0, 60)) := rfl
theorem zd_41 : ZDS[41]? = some (.inl (9, [none, some 42, some 43, some 44, some 45, none, some 46, some 47, some 48, some 49, some 50, some 51, some 52, some 53, none, none])) := rfl
theorem zd_42 : ZDS[42]? = some (.inr (0, 6)) := rfl
theorem zd_43 : ZDS[43]? = some (.inr (0, 6)) := rfl
theorem zd_44 : ZDS[44]? = some (.inr (0, 6)) := rfl
theorem zd_45 : ZDS[45]? = some (.inr (0, 4)) := rfl
theorem zd_46 : ZDS[46]? = some (.inr (0, 30)) := rfl
theorem zd_47 : ZDS[47]? = some (.inr (0, 30)) := rfl
theorem zd_48 : ZDS[48]? = some (.inr (0, 30)) := rfl
theorem zd_49 : ZDS[49]? = some (.inr (0, 30)) := rfl
theorem zd_50 : ZDS[50]? = some (.inr (0, 30)) := rfl
theorem zd_51 : ZDS[51]? = some (.inr (0, 4)) := rfl
theorem zd_52 : ZDS[52]? = some (.inr (4, 0)) := rfl
theorem zd_53 : ZDS[53]? = some (.inr (4, 0)) := rfl
theorem zd_54 : ZDS[54]? = some (.inl (2, [none, some 55, some 56, some 57, some 58])) := rfl
theorem zd_55 : ZDS[55]? = some (.inr (0, 30)) := rfl
theorem zd_56 : ZDS[56]? = some (.inr (0, 30)) := rfl
theorem zd_57 : ZDS[57]? = some (.inr (2, 30)) := rfl
theorem zd_58 : ZDS[58]? = some (.inr (0, 30)) := rfl
theorem zd_59 : ZDS[59]? = some (.inl (5, [none, some 60, none, some 61, some 62])) := rfl
theorem zd_60 : ZDS[60]? = some (.inr (0, 60)) := rfl
theorem zd_61 : ZDS[61]? = some (.inr (0, 60)) := rfl
theorem zd_62 : ZDS[62]? = some (.inr (0, 60)) := rfl
theorem zd_63 : ZDS[63]? = some (.inl (1, [none, some 64, some 65, some 66, some 67])) := rfl
theorem zd_64 : ZDS[64]? = some (.inr (0, 40)) := rfl
theorem zd_65 : ZDS[65]? = some (.inr (0, 40)) := rfl
theorem zd_66 : ZDS[66]? = some (.inr (0, 40)) := rfl
theorem zd_67 : ZDS[67]? = some (.inr (0, 40)) := rfl
theorem zd_68 : ZDS[68]? = some (.inl (11, [some 69, some 70, some 71, some 72, some 73, some 74, some 75, some 76, some 77, some 78, some 79, none, none, none, none, some 80, some 81, some 82, some 83, some 84, some 85, none, none, none, some 86, some 87, none, none, some 88, some 89, some 90, some 91, some 92, some 93, none, none, some 94, some 95, some 96, some 97, some 98, some 99, some 100, some 101, some 102, some 103, some 104, none, none, none, some 105, some 106, some 107, none, some 108, some 109, some 110, some 111, some 112, some 113, some 114, none, none, some 115, some 116, some 117, some 118, some 119, some 120, some 121, none, some 122, some 123, some 124, some 125, some 126, some 127, some 128, none, none])) := rfl
theorem zd_69 : ZDS[69]? = some (.inr (0, 7)) := rfl
theorem zd_70 : ZDS[70]? = some (.inr (0, 144)) := rfl
theorem zd_71 : ZDS[71]? = some (.inr (0, 30)) := rfl
theorem zd_72 : ZDS[72]? = some (.inr (0, 30)) := rfl
theorem zd_73 : ZDS[73]? = some (.inr (0, 60)) := rfl
theorem zd_74 : ZDS[74]? = some (.inr (0, 60)) := rfl
theorem zd_75 : ZDS[75]? = some (.inr (0, 60)) := rfl
theorem zd_76 : ZDS[76]? = some (.inr (0, 60)) := rfl
theorem zd_77 : ZDS[77]? = some (.inr (0, 150)) := rfl
theorem zd_78 : ZDS[78]? = some (.inr (0, 150)) := rfl
theorem zd_79 : ZDS[79]? = some (.inr (0, 150)) := rfl
theorem zd_80 : ZDS[80]? = some (.inr (0, 60)) := rfl
theorem zd_81 : ZDS[81]? = some (.inr (0, 1800)) := rfl
theorem zd_82 : ZDS[82]? = some (.inr (0, 30)) := rfl
theorem zd_83 : ZDS[83]? = some (.inr (0, 30)) := rfl
theorem zd_84 : ZDS[84]? = some (.inr (0, 30)) := rfl
theorem zd_85 : ZDS[85]? = some (.inr (0, 128)) := rfl
theorem zd_86 : ZDS[86]? = some (.inr (0, 70)) := rfl
theorem zd_87 : ZDS[87]? = some (.inr (3, 70)) := rfl
theorem zd_88 : ZDS[88]? = some (.inr (0, 40)) := rfl
theorem zd_89 : ZDS[89]? = some (.inr (0, 40)) := rfl
theorem zd_90 : ZDS[90]? = some (.inr (0, 40)) := rfl
theorem zd_91 : ZDS[91]? = some (.inr (0, 60)) := rfl
theorem zd_92 : ZDS[92]? = some (.inr (0, 60)) := rfl
theorem zd_93 : ZDS[93]? = some (.inr (0, 60)) := rfl
theorem zd_94 : ZDS[94]? = some (.inr (2, 60)) := rfl
theorem zd_95 : ZDS[95]? = some (.inr (0, 6)) := rfl
theorem zd_96 : ZDS[96]? = some (.inr (0, 6)) := rfl
theorem zd_97 : ZDS[97]? = some (.inr (0, 6)) := rfl
theorem zd_98 : ZDS[98]? = some (.inr (0, 4)) := rfl
theorem zd_99 : ZDS[99]? = some (.inr (0, 30)) := rfl
theorem zd_100 : ZDS[100]? = some (.inr (0, 30)) := rfl
theorem zd_101 : ZDS[101]? = some (.inr (0, 30)) := rfl
theorem zd_102 : ZDS[102]? = some (.inr (0, 30)) := rfl
theorem zd_103 : ZDS[103]? = some (.inr (0, 4)) := rfl
theorem zd_104 : ZDS[104]? = some (.inr (0, 4)) := rfl
theorem zd_105 : ZDS[105]? = some (.inr (0, 30)) := rfl
theorem zd_106 : ZDS[106]? = some (.inr (0, 6)) := rfl
theorem zd_107 : ZDS[107]? = some (.inr (0, 110)) := rfl
theorem zd_108 : ZDS[108]? = some (.inr (0, 14)) := rfl
theorem zd_109 : ZDS[109]? = some (.inr (0, 14)) := rfl
theorem zd_110 : ZDS[110]? = some (.inr (0, 10)) := rfl
theorem zd_111 : ZDS[111]? = some (.inr (0, 144)) := rfl
theorem zd_112 : ZDS[112]? = some (.inr (0, 144)) := rfl
theorem zd_113 : ZDS[113]? = some (.inr (2, 144)) := rfl
theorem zd_114 : ZDS[114]? = some (.inr (2, 144)) := rfl
theorem zd_115 : ZDS[115]? = some (.inr (0, 144)) := rfl
theorem zd_116 : ZDS[116]? = some (.inr (0, 8)) := rfl
theorem zd_117 : ZDS[117]? = some (.inr (0, 30)) := rfl
theorem zd_118 : ZDS[118]? = some (.inr (0, 144)) := rfl
theorem zd_119 : ZDS[119]? = some (.inr (0, 30)) := rfl
theorem zd_120 : ZDS[120]? = some (.inr (0, 30)) := rfl
theorem zd_121 : ZDS[121]? = some (.inr (2, 30)) := rfl
theorem zd_122 : ZDS[122]? = some (.inr (0, 60)) := rfl
theorem zd_123 : ZDS[123]? = some (.inr (0, 60)) := rfl
theorem zd_124 : ZDS[124]? = some (.inr (0, 60)) := rfl
theorem zd_125 : ZDS[125]? = some (.inr (0, 40)) := rfl
theorem zd_126 : ZDS[126]? = some (.inr (0, 40)) := rfl
theorem zd_127 : ZDS[127]? = some (.inr (0, 40)) := rfl
theorem zd_128 : ZDS[128]? = some (.inr (0, 40)) := rfl
theorem ZDS_len : ZDS.length = 129 := by decide +kernel
theorem zc_X0 : ZCL[0]? = some (RX0, TX0, 4) := rfl
theorem zc_X1 : ZCL[1]? = some (RX1, TX1, 5) := rfl
theorem zc_X2 : ZCL[2]? = some (RX2, TX2, 5) := rfl
theorem zc_X3 : ZCL[3]? = some (RX3, TX3, 15) := rfl
theorem zc_X4 : ZCL[4]? = some (RX4, TX4, 11) := rfl
theorem zc_X5 : ZCL[5]? = some (RX5, TX5, 5) := rfl
theorem zc_X6 : ZCL[6]? = some (RX6, TX6, 5) := rfl
theorem zc_X7 : ZCL[7]? = some (RX7, TX7, 8) := rfl
theorem zc_X8 : ZCL[8]? = some (RX8, TX8, 4) := rfl
theorem zc_X9 : ZCL[9]? = some (RX9, TX9, 16) := rfl
theorem zc_X10 : ZCL[10]? = some (RX10, TX10, 11) := rfl
theorem zc_X11 : ZCL[11]? = some (RX11, TX11, 80) := rfl
def Ztys (cA : Nat → ClassId) : List (ClassId × FieldType) := [(cA 0, .int), (cA 1, .byte), (cA 2, .boolean), (cA 3, .long)]
def Zfv (ad : Nat → Nat) (f : Nat → Int32) (fk : List (Option Nat)) : List Value := fk.mapIdx (fun j o => match o with
  | none => .int (f j)
  | some k => .ref (ad k))
def Zen (cA : Nat → ClassId) (ad : Nat → Nat) (z : ZS) (k : Nat) (d : ZD) : Nat × va_E := (ad k, match d with
  | .inl q => .inr (q.1, Zfv ad (z.1 k) q.2)
  | .inr q => .inl (if q.1 = 3 then (cA 3, q.2, .inr (.inl (z.2 k))) else if q.1 = 4 then (cA 0, (z.1 200 k).toNatClampNeg, .inl (z.1 k)) else (cA q.1, q.2, .inl (z.1 k))))
def Zws (cA : Nat → ClassId) (ad : Nat → Nat) (z : ZS) : va_W := ZDS.mapIdx (fun k d => Zen cA ad z k d)
def Zset (z : ZS) (k : Nat) (f : Nat → Int32) : ZS := (fun k' => if k' = k then f else z.1 k', z.2)
def ZsetL (z : ZS) (k : Nat) (f : Nat → Int64) : ZS := (z.1, fun k' => if k' = k then f else z.2 k')
theorem Zset_self (z : ZS) (k : Nat) (f : Nat → Int32) : (Zset z k f).1 k = f := by simp [Zset]
theorem Zset_ne (z : ZS) {k k' : Nat} (f : Nat → Int32) (h : k' ≠ k) : (Zset z k f).1 k' = z.1 k' := by simp [Zset, h]
theorem Zws_get {cA : Nat → ClassId} {ad : Nat → Nat} {z : ZS} {k : Nat} {d : ZD} (h : ZDS[k]? = some d) : (Zws cA ad z)[k]? = some (Zen cA ad z k d) := by
  simp [Zws, List.getElem?_mapIdx, h]
theorem Zws_of {cA : Nat → ClassId} {ad : Nat → Nat} {z : ZS} {k : Nat} {q : Nat × va_E} (h : (Zws cA ad z)[k]? = some q) : ∃ d, ZDS[k]? = some d ∧ q = Zen cA ad z k d := by
  simp only [Zws, List.getElem?_mapIdx] at h
  cases hd : ZDS[k]? with
  | none => rw [hd] at h; cases h
  | some d => rw [hd] at h; exact ⟨d, rfl, (Option.some.inj h).symm⟩
theorem Zws_set {cA : Nat → ClassId} {ad : Nat → Nat} {z z' : ZS} {k : Nat} {d : ZD} {e : Nat × va_E} (h : ZDS[k]? = some d) (he : Zen cA ad z' k d = e) (ho : ∀ j dj, j ≠ k → ZDS[j]? = some dj → Zen cA ad z' j dj = Zen cA ad z j dj) : (Zws cA ad z).set k e = Zws cA ad z' := by
  apply List.ext_getElem?
  intro j
  by_cases hj : j = k
  · subst hj
    have hl := (List.getElem?_eq_some_iff.mp (Zws_get (cA := cA) (ad := ad) (z := z) h)).1
    rw [List.getElem?_set_self hl, Zws_get h, he]
  · rw [List.getElem?_set_ne (Ne.symm hj)]
    cases hd : ZDS[j]? with
    | none => simp [Zws, List.getElem?_mapIdx, hd]
    | some dj => rw [Zws_get hd, Zws_get hd, ho j dj hj hd]
theorem ZDS_lt {k : Nat} {d : ZD} (h : ZDS[k]? = some d) : k < 129 := by
  have := (List.getElem?_eq_some_iff.mp h).1
  rwa [ZDS_len] at this
theorem Zen_other {cA : Nat → ClassId} {ad : Nat → Nat} {z : ZS} {k : Nat} {f : Nat → Int32} (hk : k < 129) (j : Nat) (dj : ZD) (hj : j ≠ k) : Zen cA ad (Zset z k f) j dj = Zen cA ad z j dj := by
  have h1 : (Zset z k f).1 j = z.1 j := Zset_ne z f hj
  have h2 : (Zset z k f).1 200 = z.1 200 := Zset_ne z f (by omega)
  have h3 : (Zset z k f).2 = z.2 := rfl
  simp only [Zen, h1, h2, h3]
theorem Zen_otherL {cA : Nat → ClassId} {ad : Nat → Nat} {z : ZS} {k : Nat} {f : Nat → Int64} (j : Nat) (dj : ZD) (hj : j ≠ k) : Zen cA ad (ZsetL z k f) j dj = Zen cA ad z j dj := by
  have h1 : (ZsetL z k f).1 = z.1 := rfl
  have h2 : (ZsetL z k f).2 j = z.2 j := by simp [ZsetL, hj]
  simp only [Zen, h1, h2]
theorem Zfv_get {ad : Nat → Nat} {f : Nat → Int32} {fk : List (Option Nat)} {j : Nat} (h : fk[j]? = some none) : (Zfv ad f fk)[j]? = some (.int (f j)) := by
  simp [Zfv, List.getElem?_mapIdx, h]
theorem Zfv_ref {ad : Nat → Nat} {f : Nat → Int32} {fk : List (Option Nat)} {j k : Nat} (h : fk[j]? = some (some k)) : (Zfv ad f fk)[j]? = some (.ref (ad k)) := by
  simp [Zfv, List.getElem?_mapIdx, h]
theorem Zfv_len {ad : Nat → Nat} {f : Nat → Int32} {fk : List (Option Nat)} : (Zfv ad f fk).length = fk.length := by simp [Zfv]
theorem Zfv_set {ad : Nat → Nat} {f : Nat → Int32} {fk : List (Option Nat)} {j : Nat} {x : Int32} (h : fk[j]? = some none) : (Zfv ad f fk).set j (.int x) = Zfv ad (upd f j x) fk := by
  apply List.ext_getElem?
  intro i
  by_cases hi : i = j
  · subst hi
    have hl : i < (Zfv ad f fk).length := by rw [Zfv_len]; exact (List.getElem?_eq_some_iff.mp h).1
    rw [List.getElem?_set_self hl, Zfv_get h]
    simp [upd]
  · rw [List.getElem?_set_ne (Ne.symm hi)]
    simp only [Zfv, List.getElem?_mapIdx]
    cases fk[i]? with
    | none => rfl
    | some o => cases o with
      | none => simp [upd, hi]
      | some k => rfl
/-- the addresses are apart -/
def Zdj (ad : Nat → Nat) : Prop := ∀ i j, i < 129 → j < 129 → ad i = ad j → i = j
def ZA (ad : Nat → Nat) : Nat → Prop := fun q => ∃ k, k < 129 ∧ q = ad k
theorem Zd {cA : Nat → ClassId} {ad : Nat → Nat} {z : ZS} {A : Nat → Prop} (h : Zdj ad) (hA : ∀ k, k < 129 → A (ad k)) : va_D A (Zws cA ad z) := by
  refine ⟨fun i j p q hi hj hpq => ?_, fun k q hk => ?_⟩
  · obtain ⟨di, e1, rfl⟩ := Zws_of hi
    obtain ⟨dj, e2, rfl⟩ := Zws_of hj
    exact h i j (ZDS_lt e1) (ZDS_lt e2) hpq
  · obtain ⟨d, e1, rfl⟩ := Zws_of hk
    exact hA k (ZDS_lt e1)
theorem Zd_of {cA : Nat → ClassId} {ad : Nat → Nat} {z : ZS} {A : Nat → Prop} (h : va_D A (Zws cA ad z)) : Zdj ad ∧ ∀ k, k < 129 → A (ad k) := by
  have key : ∀ k, k < 129 → ∃ d, ZDS[k]? = some d := fun k hk => by
    have hk' : k < ZDS.length := by rw [ZDS_len]; exact hk
    exact ⟨ZDS[k], List.getElem?_eq_getElem hk'⟩
  refine ⟨fun i j hi hj e => ?_, fun k hk => ?_⟩
  · obtain ⟨di, h1⟩ := key i hi
    obtain ⟨dj, h2⟩ := key j hj
    exact h.1 i j _ _ (Zws_get h1) (Zws_get h2) e
  · obtain ⟨d, h1⟩ := key k hk
    exact h.2 k _ (Zws_get h1)
/-! the words that a method may rely on -/
def Ztbl : List Cond := lw_tbl.filter goodWord
def ZV (y : MethodName) (b : ByteArray) (n : Nat) (r : Option FieldType) : List Cond := .code y b n r :: Ztbl
theorem ZV_in {y : MethodName} {b : ByteArray} {n : Nat} {r : Option FieldType} (h : Cond.code y b n r ∈ Ztbl) : GoodIn Ztbl (ZV y b n r) := by
  intro w hw
  have hm : w ∈ Ztbl := (List.mem_cons.mp hw).elim (fun e => e ▸ h) id
  exact ⟨hm, good_of_word (List.mem_filter.mp hm).2⟩
theorem Ztb {w : Cond} (i : Nat) (h : tables_1[i]? = some w) (hg : goodWord w = true) : w ∈ Ztbl := List.mem_filter.mpr ⟨List.mem_append_right _ (List.mem_of_getElem? h), hg⟩
theorem Zsb {w : Cond} (i : Nat) (h : (k2_sels lw_privs)[i]? = some w) (hg : goodWord w = true) : w ∈ Ztbl := List.mem_filter.mpr ⟨List.mem_append_left _ (List.mem_of_getElem? h), hg⟩
def Zrm (h : Nat) : Room := { frames := h, cells := 0, slots := 0, locals := 60 * h }
def Zisn : Cond → Bool
  | .fieldLinkNest .. => true
  | .methodLinkNest .. => true
  | _ => false
/-- the words of nest mates -/
def Znl : List Cond := tables_1.filter Zisn
theorem Znb {w : Cond} (i : Nat) (h : tables_1[i]? = some w) (hg : Zisn w = true) : w ∈ Znl := List.mem_filter.mpr ⟨List.mem_of_getElem? h, hg⟩
def Zsides (j : Nat) : Int32 := match j with
  | 0 => 3
  | 1 => 2
  | 2 => 0
  | _ => 1
/-- what stays as it was at the start: nest words, statics, the text of letters -/
def ZT (ad : Nat → Nat) (A : Nat → Prop) (U : State) (H : Heap) : Prop :=
  (∀ w ∈ Znl, va_Nw w U) ∧ va_Z "CampCards$Land" "SIDES_BY_CELL" "[I" (.ref (ad 300)) A U H ∧ va_T .int (ad 300) 4 (fun j => .int (Zsides j)) A U H ∧ va_Z "java/lang/String" "COMPACT_STRINGS" "Z" (.int 1) A U H ∧ vk_R "CampCards$Reader" 11 "nkosdatc" (ad 301) U ∧ vk_S 1 [8] [[110, 107, 111, 115, 100, 97, 116, 99]] (fun _ => ad 301) (fun _ => ad 302) A U H
theorem Znw_warm {w : Cond} (h : Zisn w = true) {s U : State} (hW : s.WarmedH U.vm) (hZ : va_Nw w s) : va_Nw w U := by
  cases w <;> first | exact va_Nw.warmF hW hZ | exact va_Nw.warmM hW hZ | cases h
theorem Znw_same {w : Cond} (h : Zisn w = true) {s U : State} (hv : s.vm = U.vm) (hZ : va_Nw w s) : va_Nw w U := by
  cases w <;> first | exact va_Nw.same rfl hv hZ | cases h
theorem ZT.down {ad : Nat → Nat} {A B : Nat → Prop} {s U : State} {H : Heap} {locs : List Loc} (h : ZT ad A s s.heap) (hW : s.WarmedH U.vm) (hU : U.heap = H) (hS : va_S A s.heap H locs) (hAB : ∀ q, B q → A q) : ZT ad B U U.heap := by
  obtain ⟨h1, h2, h3, h4, h5, h6⟩ := h
  rw [hU]
  have hv := hW.alike
  exact ⟨fun w hw => Znw_warm (List.mem_filter.mp hw).2 hW (h1 w hw), ((h2.kept hS.2.1).moved hv).narrow hAB, ((h3.kept hS.2.1).moved hv).narrow hAB, ((h4.kept hS.2.1).moved hv).narrow hAB, h5.warm hW, ((h6.kept hS.2.1).moved hv).narrow hAB⟩
theorem ZT.call {ad : Nat → Nat} {A : Nat → Prop} {U V : State} (h : ZT ad A U U.heap) (hv : V.vm = U.vm) (hh : V.heap = U.heap) : ZT ad A V V.heap := by
  obtain ⟨h1, h2, h3, h4, h5, h6⟩ := h
  rw [hh]
  have ha : U.vm.Alike V.vm := by rw [hv]; exact Vm.Alike.refl U.vm
  exact ⟨fun w hw => Znw_same (List.mem_filter.mp hw).2 hv.symm (h1 w hw), h2.moved ha, h3.moved ha, h4.moved ha, h5.same hv, h6.moved ha⟩
def ZE (D : va_G) (cA : Nat → ClassId) (ad : Nat → Nat) (A : Nat → Prop) (U : State) : Prop := va_K D ZCL (Ztys cA) U ∧ ZT ad A U U.heap
/-- the world of a method: its heap holds the memory z -/
def ZB (D : va_G) (cA : Nat → ClassId) (ad : Nat → Nat) (z : ZS) (U : State) : Prop := ZE D cA ad (ZA ad) U ∧ va_P D ZCL (Zws cA ad z) U.heap
def ZO (D : va_G) (cA : Nat → ClassId) (ad : Nat → Nat) (z : ZS) (t : State) : Prop := va_P D ZCL (Zws cA ad z) t.heap
def ZW (D : va_G) (cA : Nat → ClassId) (ad : Nat → Nat) (A : Nat → Prop) (z : ZS) (U : State) (H : Heap) (locs : List Loc) : Prop := ZE D cA ad A U ∧ va_P D ZCL (Zws cA ad z) H ∧ va_D A (Zws cA ad z) ∧ va_S A U.heap H locs
/-! what a functional program is made of -/
abbrev IB (i : Int32) (n : Nat) : Prop := 0 ≤ i.toInt ∧ i.toInt < (n : Int)
noncomputable def Zgd {β : Type} (c : Prop) (a : Option β) : Option β := @ite _ c (Classical.propDecidable c) a none
def Zb {α β : Type} (x : Option (α × ZS)) (k : α → ZS → Option β) : Option β := match x with
  | some q => k q.1 q.2
  | none => none
def Zl {α β : Type} (e : α) (k : α → β) : β := k e
def Zlp {α ρ : Type} (b : (α → Option ρ) → α → Option ρ) : Nat → α → Option ρ
  | 0, _ => none
  | n + 1, a => b (Zlp b n) a
def Zfuel : Nat := 1000000
theorem Zgd_t {β : Type} {c : Prop} {a : Option β} (h : c) : Zgd c a = a := by unfold Zgd; rw [if_pos h]
theorem Zgd_f {β : Type} {c : Prop} {a : Option β} (h : ¬ c) : Zgd c a = none := by unfold Zgd; rw [if_neg h]
theorem Zgs {β : Type} {c : Prop} {a : Option β} {r : β} (h : Zgd c a = some r) : c ∧ a = some r := by
  by_cases hc : c
  · rw [Zgd_t hc] at h; exact ⟨hc, h⟩
  · rw [Zgd_f hc] at h; cases h
theorem Zbs {α β : Type} {x : Option (α × ZS)} {k : α → ZS → Option β} {r : β} (h : Zb x k = some r) : ∃ a z, x = some (a, z) ∧ k a z = some r := by
  cases x with
  | none => cases h
  | some q => exact ⟨q.1, q.2, rfl, h⟩
theorem Zle {α β : Type} {e x : α} {k : α → β} {r : β} (hx : x = e) (h : Zl e k = r) : k x = r := by rw [hx]; exact h
theorem ZtP {β : Type} {c : Prop} [Decidable c] {a b : Option β} {r : Option β} (hc : c) (h : ite c a b = r) : a = r := by rw [if_pos hc] at h; exact h
theorem ZtN {β : Type} {c : Prop} [Decidable c] {a b : Option β} {r : Option β} (hc : ¬ c) (h : ite c a b = r) : b = r := by rw [if_neg hc] at h; exact h
theorem Zin {i : Int32} {n : Nat} (h : IB i n) : vp_in i n := vp_in_iff.mpr h
section ZROWS
variable {p : Program} {l : Launch} {e : Env} {R : Room} {s : State} {m : MethodId} {args : Array Value} {below : List Frame} {meth : Method} {c : Code} {H : Heap} {locs : List Loc} {cells slots : Nat} {Q : State → Prop}
variable {cc : ByteArray} {nL pc : Nat} {ls : Array Slot} {rest : List Value} {own : String}
variable {D : va_G} {cA : Nat → ClassId} {ad : Nat → Nat} {A : Nat → Prop} {z : ZS}
theorem Zgeti (S : CallFix p m c cc nL s args Ztbl own) (hw : ZW D cA ad A z s H locs) {k j ci index N : Nat} {fk : List (Option Nat)} {C : String} {T : u_T} (hd : ZDS[k]? = some (.inl (ci, fk))) (hf : fk[j]? = some none) (hc : ZCL[ci]? = some (C, T, N)) (hin : ∀ w ∈ u_ws C T N, w ∈ Ztbl) (hj : j < N) (hl : Cond.fieldLink own index (T j).1 (T j).2.1 (T j).2.2.1 ∈ Ztbl) (hdg : decode cc pc = .ok (.getfield index, 3))
    (kk : W p l e R s m args below meth c H locs cells slots Q (F0 m (pc + 3) ls (.int (z.1 k j) :: rest))) : W p l e R s m args below meth c H locs cells slots Q (F0 m pc ls (.ref (ad k) :: rest)) :=
  va_get S.1 S.2.1 S.2.2.2.2 hin S.2.2.2.1 hw.1.1 hw.2.1 k (Zws_get hd) hc j hj (S.2.2.2.2 _ hl) (fun _ h => h) (Zfv_get hf) hdg kk
theorem Zgetr (S : CallFix p m c cc nL s args Ztbl own) (hw : ZW D cA ad A z s H locs) {k j k2 ci index N : Nat} {fk : List (Option Nat)} {C : String} {T : u_T} (hd : ZDS[k]? = some (.inl (ci, fk))) (hf : fk[j]? = some (some k2)) (hc : ZCL[ci]? = some (C, T, N)) (hin : ∀ w ∈ u_ws C T N, w ∈ Ztbl) (hj : j < N) (hl : Cond.fieldLink own index (T j).1 (T j).2.1 (T j).2.2.1 ∈ Ztbl) (hdg : decode cc pc = .ok (.getfield index, 3))
    (kk : W p l e R s m args below meth c H locs cells slots Q (F0 m (pc + 3) ls (.ref (ad k2) :: rest))) : W p l e R s m args below meth c H locs cells slots Q (F0 m pc ls (.ref (ad k) :: rest)) :=
  va_get S.1 S.2.1 S.2.2.2.2 hin S.2.2.2.1 hw.1.1 hw.2.1 k (Zws_get hd) hc j hj (S.2.2.2.2 _ hl) (fun _ h => h) (Zfv_ref hf) hdg kk
theorem ZgetiN (S : CallFix p m c cc nL s args Ztbl own) (hw : ZW D cA ad A z s H locs) {k j ci index N : Nat} {fk : List (Option Nat)} {C host : String} {T : u_T} (hd : ZDS[k]? = some (.inl (ci, fk))) (hf : fk[j]? = some none) (hc : ZCL[ci]? = some (C, T, N)) (hin : ∀ w ∈ u_ws C T N, w ∈ Ztbl) (hj : j < N) (hl : Cond.fieldLinkNest own index (T j).1 (T j).2.1 (T j).2.2.1 host ∈ Znl) (hdg : decode cc pc = .ok (.getfield index, 3))
    (kk : W p l e R s m args below meth c H locs cells slots Q (F0 m (pc + 3) ls (.int (z.1 k j) :: rest))) : W p l e R s m args below meth c H locs cells slots Q (F0 m pc ls (.ref (ad k) :: rest)) :=
  va_getN S.1 S.2.1 S.2.2.2.2 hin S.2.2.2.1 hw.1.1 hw.2.1 k (Zws_get hd) hc j hj (va_Nw.use rfl (hw.1.2.1 _ hl)) (fun _ h => h) (Zfv_get hf) hdg kk
theorem ZgetrN (S : CallFix p m c cc nL s args Ztbl own) (hw : ZW D cA ad A z s H locs) {k j k2 ci index N : Nat} {fk : List (Option Nat)} {C host : String} {T : u_T} (hd : ZDS[k]? = some (.inl (ci, fk))) (hf : fk[j]? = some (some k2)) (hc : ZCL[ci]? = some (C, T, N)) (hin : ∀ w ∈ u_ws C T N, w ∈ Ztbl) (hj : j < N) (hl : Cond.fieldLinkNest own index (T j).1 (T j).2.1 (T j).2.2.1 host ∈ Znl) (hdg : decode cc pc = .ok (.getfield index, 3))
    (kk : W p l e R s m args below meth c H locs cells slots Q (F0 m (pc + 3) ls (.ref (ad k2) :: rest))) : W p l e R s m args below meth c H locs cells slots Q (F0 m pc ls (.ref (ad k) :: rest)) :=
  va_getN S.1 S.2.1 S.2.2.2.2 hin S.2.2.2.1 hw.1.1 hw.2.1 k (Zws_get hd) hc j hj (va_Nw.use rfl (hw.1.2.1 _ hl)) (fun _ h => h) (Zfv_ref hf) hdg kk
theorem ZW_put {U : State} {k ci j : Nat} {fk : List (Option Nat)} {x : Int32} {H1 : Heap} {locs1 : List Loc} (hd : ZDS[k]? = some (.inl (ci, fk))) (hf : fk[j]? = some none) (hE : ZE D cA ad A U) (h1 : va_P D ZCL ((Zws cA ad z).set k (ad k, .inr (ci, (Zfv ad (z.1 k) fk).set j (.int x)))) H1) (h2 : va_D A ((Zws cA ad z).set k (ad k, .inr (ci, (Zfv ad (z.1 k) fk).set j (.int x))))) (h3 : va_S A U.heap H1 locs1) : ZW D cA ad A (Zset z k (upd (z.1 k) j x)) U H1 locs1 := by
  have e1 : (Zws cA ad z).set k (ad k, .inr (ci, (Zfv ad (z.1 k) fk).set j (.int x))) = Zws cA ad (Zset z k (upd (z.1 k) j x)) :=
    Zws_set hd (by simp only [Zen, Zset_self]; rw [Zfv_set hf]) (fun i di hi _ => Zen_other (ZDS_lt hd) i di hi)
  rw [e1] at h1 h2
  exact ⟨hE, h1, h2, h3⟩
theorem Zputi (S : CallFix p m c cc nL s args Ztbl own) (hw : ZW D cA ad A z s H locs) {k j ci index N : Nat} {fk : List (Option Nat)} {C : String} {T : u_T} {x : Int32} (hd : ZDS[k]? = some (.inl (ci, fk))) (hf : fk[j]? = some none) (hc : ZCL[ci]? = some (C, T, N)) (hin : ∀ w ∈ u_ws C T N, w ∈ Ztbl) (ty0 : Nat → FieldType) (hty : ∀ k, k < N → parseFieldDescriptor (T k).2.2.1 = some (ty0 k)) (hnm : ∀ a, a < N → ∀ b, b < N → a ≠ b → (T a).2.1 ≠ (T b).2.1) (hj : j < N) (hl : Cond.fieldLink own index (T j).1 (T j).2.1 (T j).2.2.1 ∈ Ztbl) (hfin : (T j).2.2.2 = false) {ty : FieldType} (hty2 : parseFieldDescriptor (T j).2.2.1 = some ty) (hn : narrow ty (.int x) = .int x) (hfit : fits ty (.int x) = true) (hdg : decode cc pc = .ok (.putfield index, 3))
    (kk : ∀ (z1 : ZS) (H1 : Heap) (locs1 : List Loc), z1 = Zset z k (upd (z.1 k) j x) → ZW D cA ad A z1 s H1 locs1 → W p l e R s m args below meth c H1 locs1 cells slots Q (F0 m (pc + 3) ls rest)) : W p l e R s m args below meth c H locs cells slots Q (F0 m pc ls (.int x :: .ref (ad k) :: rest)) :=
  va_put S.1 S.2.1 S.2.2.2.2 hin ty0 hty hnm S.2.2.2.1 hw.1.1 hw.2.1 hw.2.2.1 hw.2.2.2 k (Zws_get hd) hc j hj (S.2.2.2.2 _ hl) (fun _ h => h) hfin hty2 hn hfit (by rw [Zfv_len]; exact (List.getElem?_eq_some_iff.mp hf).1) hdg (fun H1 locs1 h1 h2 h3 => kk _ H1 locs1 rfl (ZW_put hd hf hw.1 h1 h2 h3))
theorem ZputiN (S : CallFix p m c cc nL s args Ztbl own) (hw : ZW D cA ad A z s H locs) {k j ci index N : Nat} {fk : List (Option Nat)} {C host : String} {T : u_T} {x : Int32} (hd : ZDS[k]? = some (.inl (ci, fk))) (hf : fk[j]? = some none) (hc : ZCL[ci]? = some (C, T, N)) (hin : ∀ w ∈ u_ws C T N, w ∈ Ztbl) (ty0 : Nat → FieldType) (hty : ∀ k, k < N → parseFieldDescriptor (T k).2.2.1 = some (ty0 k)) (hnm : ∀ a, a < N → ∀ b, b < N → a ≠ b → (T a).2.1 ≠ (T b).2.1) (hj : j < N) (hl : Cond.fieldLinkNest own index (T j).1 (T j).2.1 (T j).2.2.1 host ∈ Znl) (hfin : (T j).2.2.2 = false) {ty : FieldType} (hty2 : parseFieldDescriptor (T j).2.2.1 = some ty) (hn : narrow ty (.int x) = .int x) (hfit : fits ty (.int x) = true) (hdg : decode cc pc = .ok (.putfield index, 3))
    (kk : ∀ (z1 : ZS) (H1 : Heap) (locs1 : List Loc), z1 = Zset z k (upd (z.1 k) j x) → ZW D cA ad A z1 s H1 locs1 → W p l e R s m args below meth c H1 locs1 cells slots Q (F0 m (pc + 3) ls rest)) : W p l e R s m args below meth c H locs cells slots Q (F0 m pc ls (.int x :: .ref (ad k) :: rest)) :=
  va_putN S.1 S.2.1 S.2.2.2.2 hin ty0 hty hnm S.2.2.2.1 hw.1.1 hw.2.1 hw.2.2.1 hw.2.2.2 k (Zws_get hd) hc j hj (va_Nw.use rfl (hw.1.2.1 _ hl)) (fun _ h => h) hfin hty2 hn hfit (by rw [Zfv_len]; exact (List.getElem?_eq_some_iff.mp hf).1) hdg (fun H1 locs1 h1 h2 h3 => kk _ H1 locs1 rfl (ZW_put hd hf hw.1 h1 h2 h3))
/-! arrays -/
theorem Zarr0 {k n : Nat} (hd : ZDS[k]? = some (.inr (0, n))) : (Zws cA ad z)[k]? = some (ad k, .inl (cA 0, n, .inl (z.1 k))) := Zws_get hd
theorem Zarr1 {k n : Nat} (hd : ZDS[k]? = some (.inr (1, n))) : (Zws cA ad z)[k]? = some (ad k, .inl (cA 1, n, .inl (z.1 k))) := Zws_get hd
theorem Zarr2 {k n : Nat} (hd : ZDS[k]? = some (.inr (2, n))) : (Zws cA ad z)[k]? = some (ad k, .inl (cA 2, n, .inl (z.1 k))) := Zws_get hd
theorem Zarr3 {k n : Nat} (hd : ZDS[k]? = some (.inr (3, n))) : (Zws cA ad z)[k]? = some (ad k, .inl (cA 3, n, .inr (.inl (z.2 k)))) := Zws_get hd
theorem Zarr4 {k n : Nat} (hd : ZDS[k]? = some (.inr (4, n))) : (Zws cA ad z)[k]? = some (ad k, .inl (cA 0, (z.1 200 k).toNatClampNeg, .inl (z.1 k))) := Zws_get hd
theorem ZW_arr {U : State} {k t n : Nat} {f : Nat → Int32} {H1 : Heap} {locs1 : List Loc} (ht : t < 3) (hd : ZDS[k]? = some (.inr (t, n))) (hE : ZE D cA ad A U) (h1 : va_P D ZCL ((Zws cA ad z).set k (ad k, .inl (cA t, n, .inl f))) H1) (h2 : va_D A ((Zws cA ad z).set k (ad k, .inl (cA t, n, .inl f)))) (h3 : va_S A U.heap H1 locs1) : ZW D cA ad A (Zset z k f) U H1 locs1 := by
  have e1 : (Zws cA ad z).set k (ad k, .inl (cA t, n, .inl f)) = Zws cA ad (Zset z k f) :=
    Zws_set hd (by simp only [Zen, Zset_self]; rw [if_neg (by omega), if_neg (by omega)]) (fun i di hi _ => Zen_other (ZDS_lt hd) i di hi)
  rw [e1] at h1 h2
  exact ⟨hE, h1, h2, h3⟩
theorem ZW_arr4 {U : State} {k n : Nat} {f : Nat → Int32} {H1 : Heap} {locs1 : List Loc} (hd : ZDS[k]? = some (.inr (4, n))) (hE : ZE D cA ad A U) (h1 : va_P D ZCL ((Zws cA ad z).set k (ad k, .inl (cA 0, (z.1 200 k).toNatClampNeg, .inl f))) H1) (h2 : va_D A ((Zws cA ad z).set k (ad k, .inl (cA 0, (z.1 200 k).toNatClampNeg, .inl f)))) (h3 : va_S A U.heap H1 locs1) : ZW D cA ad A (Zset z k f) U H1 locs1 := by
  have hk := ZDS_lt hd
  have e1 : (Zws cA ad z).set k (ad k, .inl (cA 0, (z.1 200 k).toNatClampNeg, .inl f)) = Zws cA ad (Zset z k f) :=
    Zws_set hd (by simp [Zen, Zset_self, Zset_ne z f (show 200 ≠ k by omega)]) (fun i di hi _ => Zen_other hk i di hi)
  rw [e1] at h1 h2
  exact ⟨hE, h1, h2, h3⟩
theorem ZW_arrL {U : State} {k n : Nat} {f : Nat → Int64} {H1 : Heap} {locs1 : List Loc} (hd : ZDS[k]? = some (.inr (3, n))) (hE : ZE D cA ad A U) (h1 : va_P D ZCL ((Zws cA ad z).set k (ad k, .inl (cA 3, n, .inr (.inl f)))) H1) (h2 : va_D A ((Zws cA ad z).set k (ad k, .inl (cA 3, n, .inr (.inl f))))) (h3 : va_S A U.heap H1 locs1) : ZW D cA ad A (ZsetL z k f) U H1 locs1 := by
  have e1 : (Zws cA ad z).set k (ad k, .inl (cA 3, n, .inr (.inl f))) = Zws cA ad (ZsetL z k f) :=
    Zws_set hd (by simp [Zen, ZsetL]) (fun i di hi _ => Zen_otherL i di hi)
  rw [e1] at h1 h2
  exact ⟨hE, h1, h2, h3⟩
theorem Zial (S : CallFix p m c cc nL s args Ztbl own) (hw : ZW D cA ad A z s H locs) {k n : Nat} (hd : ZDS[k]? = some (.inr (0, n))) {i : Int32} (hin : IB i n) (hdg : decode cc pc = .ok (.iaload, 1))
    (kk : W p l e R s m args below meth c H locs cells slots Q (F0 m (pc + 1) ls (.int (z.1 k i.toNatClampNeg) :: rest))) : W p l e R s m args below meth c H locs cells slots Q (F0 m pc ls (.int i :: .ref (ad k) :: rest)) :=
  va_iald S.1 S.2.1 hw.1.1 hw.2.1 k 0 (Zarr0 hd) rfl (Zin hin) hdg kk
theorem Zial4 (S : CallFix p m c cc nL s args Ztbl own) (hw : ZW D cA ad A z s H locs) {k n : Nat} (hd : ZDS[k]? = some (.inr (4, n))) {i : Int32} (hin : IB i (z.1 200 k).toNatClampNeg) (hdg : decode cc pc = .ok (.iaload, 1))
    (kk : W p l e R s m args below meth c H locs cells slots Q (F0 m (pc + 1) ls (.int (z.1 k i.toNatClampNeg) :: rest))) : W p l e R s m args below meth c H locs cells slots Q (F0 m pc ls (.int i :: .ref (ad k) :: rest)) :=
  va_iald S.1 S.2.1 hw.1.1 hw.2.1 k 0 (Zarr4 hd) rfl (Zin hin) hdg kk
theorem Zbal (S : CallFix p m c cc nL s args Ztbl own) (hw : ZW D cA ad A z s H locs) {k n : Nat} (hd : ZDS[k]? = some (.inr (1, n))) {i : Int32} (hin : IB i n) (hdg : decode cc pc = .ok (.baload, 1))
    (kk : W p l e R s m args below meth c H locs cells slots Q (F0 m (pc + 1) ls (.int (z.1 k i.toNatClampNeg) :: rest))) : W p l e R s m args below meth c H locs cells slots Q (F0 m pc ls (.int i :: .ref (ad k) :: rest)) :=
  va_bald S.1 S.2.1 hw.1.1 hw.2.1 k 1 (Zarr1 hd) rfl (Zin hin) hdg kk
theorem Zzal (S : CallFix p m c cc nL s args Ztbl own) (hw : ZW D cA ad A z s H locs) {k n : Nat} (hd : ZDS[k]? = some (.inr (2, n))) {i : Int32} (hin : IB i n) (hdg : decode cc pc = .ok (.baload, 1))
    (kk : W p l e R s m args below meth c H locs cells slots Q (F0 m (pc + 1) ls (.int (z.1 k i.toNatClampNeg) :: rest))) : W p l e R s m args below meth c H locs cells slots Q (F0 m pc ls (.int i :: .ref (ad k) :: rest)) :=
  va_zald S.1 S.2.1 hw.1.1 hw.2.1 k 2 (Zarr2 hd) rfl (Zin hin) hdg kk
theorem Zlal (S : CallFix p m c cc nL s args Ztbl own) (hw : ZW D cA ad A z s H locs) {k n : Nat} (hd : ZDS[k]? = some (.inr (3, n))) {i : Int32} (hin : IB i n) (hdg : decode cc pc = .ok (.laload, 1))
    (kk : W p l e R s m args below meth c H locs cells slots Q (F0 m (pc + 1) ls (.long (z.2 k i.toNatClampNeg) :: rest))) : W p l e R s m args below meth c H locs cells slots Q (F0 m pc ls (.int i :: .ref (ad k) :: rest)) :=
  va_lald S.1 S.2.1 hw.1.1 hw.2.1 k 3 (Zarr3 hd) rfl (Zin hin) hdg kk
theorem Zias (S : CallFix p m c cc nL s args Ztbl own) (hw : ZW D cA ad A z s H locs) {k n : Nat} (hd : ZDS[k]? = some (.inr (0, n))) {i x : Int32} (hin : IB i n) (hdg : decode cc pc = .ok (.iastore, 1))
    (kk : ∀ (z1 : ZS) (H1 : Heap) (locs1 : List Loc), z1 = Zset z k (upd (z.1 k) i.toNatClampNeg x) → ZW D cA ad A z1 s H1 locs1 → W p l e R s m args below meth c H1 locs1 cells slots Q (F0 m (pc + 1) ls rest)) : W p l e R s m args below meth c H locs cells slots Q (F0 m pc ls (.int x :: .int i :: .ref (ad k) :: rest)) :=
  va_iast S.1 S.2.1 hw.1.1 hw.2.1 hw.2.2.1 hw.2.2.2 k 0 (Zarr0 hd) rfl (Zin hin) hdg (fun H1 locs1 h1 h2 h3 => kk _ H1 locs1 rfl (ZW_arr (by decide) hd hw.1 h1 h2 h3))
theorem Zias4 (S : CallFix p m c cc nL s args Ztbl own) (hw : ZW D cA ad A z s H locs) {k n : Nat} (hd : ZDS[k]? = some (.inr (4, n))) {i x : Int32} (hin : IB i (z.1 200 k).toNatClampNeg) (hdg : decode cc pc = .ok (.iastore, 1))
    (kk : ∀ (z1 : ZS) (H1 : Heap) (locs1 : List Loc), z1 = Zset z k (upd (z.1 k) i.toNatClampNeg x) → ZW D cA ad A z1 s H1 locs1 → W p l e R s m args below meth c H1 locs1 cells slots Q (F0 m (pc + 1) ls rest)) : W p l e R s m args below meth c H locs cells slots Q (F0 m pc ls (.int x :: .int i :: .ref (ad k) :: rest)) :=
  va_iast S.1 S.2.1 hw.1.1 hw.2.1 hw.2.2.1 hw.2.2.2 k 0 (Zarr4 hd) rfl (Zin hin) hdg (fun H1 locs1 h1 h2 h3 => kk _ H1 locs1 rfl (ZW_arr4 hd hw.1 h1 h2 h3))
theorem Zbas (S : CallFix p m c cc nL s args Ztbl own) (hw : ZW D cA ad A z s H locs) {k n : Nat} (hd : ZDS[k]? = some (.inr (1, n))) {i x : Int32} (hin : IB i n) (hdg : decode cc pc = .ok (.bastore, 1))
    (kk : ∀ (z1 : ZS) (H1 : Heap) (locs1 : List Loc), z1 = Zset z k (upd (z.1 k) i.toNatClampNeg (vp_nar .byte x)) → ZW D cA ad A z1 s H1 locs1 → W p l e R s m args below meth c H1 locs1 cells slots Q (F0 m (pc + 1) ls rest)) : W p l e R s m args below meth c H locs cells slots Q (F0 m pc ls (.int x :: .int i :: .ref (ad k) :: rest)) :=
  va_bast S.1 S.2.1 hw.1.1 hw.2.1 hw.2.2.1 hw.2.2.2 k 1 (Zarr1 hd) rfl (Zin hin) hdg (fun H1 locs1 h1 h2 h3 => kk _ H1 locs1 rfl (ZW_arr (by decide) hd hw.1 h1 h2 h3))
theorem Zzas (S : CallFix p m c cc nL s args Ztbl own) (hw : ZW D cA ad A z s H locs) {k n : Nat} (hd : ZDS[k]? = some (.inr (2, n))) {i x : Int32} (hin : IB i n) (hdg : decode cc pc = .ok (.bastore, 1))
    (kk : ∀ (z1 : ZS) (H1 : Heap) (locs1 : List Loc), z1 = Zset z k (upd (z.1 k) i.toNatClampNeg (vp_nar .boolean x)) → ZW D cA ad A z1 s H1 locs1 → W p l e R s m args below meth c H1 locs1 cells slots Q (F0 m (pc + 1) ls rest)) : W p l e R s m args below meth c H locs cells slots Q (F0 m pc ls (.int x :: .int i :: .ref (ad k) :: rest)) :=
  va_zast S.1 S.2.1 hw.1.1 hw.2.1 hw.2.2.1 hw.2.2.2 k 2 (Zarr2 hd) rfl (Zin hin) hdg (fun H1 locs1 h1 h2 h3 => kk _ H1 locs1 rfl (ZW_arr (by decide) hd hw.1 h1 h2 h3))
theorem Zlas (S : CallFix p m c cc nL s args Ztbl own) (hw : ZW D cA ad A z s H locs) {k n : Nat} (hd : ZDS[k]? = some (.inr (3, n))) {i : Int32} {x : Int64} (hin : IB i n) (hdg : decode cc pc = .ok (.lastore, 1))
    (kk : ∀ (z1 : ZS) (H1 : Heap) (locs1 : List Loc), z1 = ZsetL z k (vp_updL (z.2 k) i.toNatClampNeg x) → ZW D cA ad A z1 s H1 locs1 → W p l e R s m args below meth c H1 locs1 cells slots Q (F0 m (pc + 1) ls rest)) : W p l e R s m args below meth c H locs cells slots Q (F0 m pc ls (.long x :: .int i :: .ref (ad k) :: rest)) :=
  va_last S.1 S.2.1 hw.1.1 hw.2.1 hw.2.2.1 hw.2.2.2 k 3 (Zarr3 hd) rfl (Zin hin) hdg (fun H1 locs1 h1 h2 h3 => kk _ H1 locs1 rfl (ZW_arrL hd hw.1 h1 h2 h3))
theorem Zalen (S : CallFix p m c cc nL s args Ztbl own) (hw : ZW D cA ad A z s H locs) {k n : Nat} (hd : ZDS[k]? = some (.inr (0, n))) {v : Int32} (hv : Int32.ofNat n = v) (hdg : decode cc pc = .ok (.arraylength, 1))
    (kk : W p l e R s m args below meth c H locs cells slots Q (F0 m (pc + 1) ls (.int v :: rest))) : W p l e R s m args below meth c H locs cells slots Q (F0 m pc ls (.ref (ad k) :: rest)) :=
  va_alen S.1 S.2.1 hw.1.1 hw.2.1 k 0 (Zarr0 hd) (ty := .int) rfl hv hdg kk
theorem Zalen4 (S : CallFix p m c cc nL s args Ztbl own) (hw : ZW D cA ad A z s H locs) {k n : Nat} (hd : ZDS[k]? = some (.inr (4, n))) (hdg : decode cc pc = .ok (.arraylength, 1))
    (kk : W p l e R s m args below meth c H locs cells slots Q (F0 m (pc + 1) ls (.int (Int32.ofNat (z.1 200 k).toNatClampNeg) :: rest))) : W p l e R s m args below meth c H locs cells slots Q (F0 m pc ls (.ref (ad k) :: rest)) :=
  va_alen S.1 S.2.1 hw.1.1 hw.2.1 k 0 (Zarr4 hd) (ty := .int) rfl rfl hdg kk
/-! contracts: the answer r, the memory z1 -/
abbrev ZPc (D : va_G) (cA : Nat → ClassId) (ad : Nat → Nat) (avs : List Value) (z : ZS) : Array Value → State → Prop := va_Pc avs (fun U => ZB D cA ad z U)
abbrev ZQi (D : va_G) (cA : Nat → ClassId) (ad : Nat → Nat) (r : Int32) (z1 : ZS) : Array Value → State → Outcome → State → Prop := va_Qi (fun r' u => r' = r ∧ u = z1) (ZO D cA ad) (ZA ad)
abbrev ZQl (D : va_G) (cA : Nat → ClassId) (ad : Nat → Nat) (r : Int64) (z1 : ZS) : Array Value → State → Outcome → State → Prop := va_Ql (fun r' u => r' = r ∧ u = z1) (ZO D cA ad) (ZA ad)
abbrev ZQv (D : va_G) (cA : Nat → ClassId) (ad : Nat → Nat) (z1 : ZS) : Array Value → State → Outcome → State → Prop := va_Qv (fun u => u = z1) (ZO D cA ad) (ZA ad)
def ZMi (l : Launch) (D : va_G) (cA : Nat → ClassId) (ad : Nat → Nat) (h : Nat) (y : MethodName) (b : ByteArray) (n : Nat) (rt : Option FieldType) (avs : List Value) (z : ZS) (r : Int32) (z1 : ZS) : Prop := Met l y (ZV y b n rt) (Zrm h) (ZPc D cA ad avs z) (ZQi D cA ad r z1) 0 0 (ZA ad)
def ZMl (l : Launch) (D : va_G) (cA : Nat → ClassId) (ad : Nat → Nat) (h : Nat) (y : MethodName) (b : ByteArray) (n : Nat) (avs : List Value) (z : ZS) (r : Int64) (z1 : ZS) : Prop := Met l y (ZV y b n (some .long)) (Zrm h) (ZPc D cA ad avs z) (ZQl D cA ad r z1) 0 0 (ZA ad)
def ZMv (l : Launch) (D : va_G) (cA : Nat → ClassId) (ad : Nat → Nat) (h : Nat) (y : MethodName) (b : ByteArray) (n : Nat) (avs : List Value) (z : ZS) (z1 : ZS) : Prop := Met l y (ZV y b n none) (Zrm h) (ZPc D cA ad avs z) (ZQv D cA ad z1) 0 0 (ZA ad)
theorem Zblind {avs : List Value} : FrameBlind (ZPc D cA ad avs z) := by
  intro a U g mk q
  obtain ⟨q0, ⟨qK, qT⟩, qP⟩ := q
  exact ⟨q0, ⟨va_K.moved (u := U) (U := U.calling g mk a) (Vm.Alike.refl U.vm) qK, ZT.call (U := U) (V := U.calling g mk a) qT rfl rfl⟩, qP⟩
theorem Zdown {avs : List Value} (hw : ZW D cA ad A z s H locs) : ∀ U : State, U.heap = H → s.WarmedH U.vm → ZPc D cA ad avs z avs.toArray U := by
  intro U hU hW
  refine ⟨rfl, ⟨va_K.moved hW.alike hw.1.1, ZT.down hw.1.2 hW hU hw.2.2.2 ?_⟩, by rw [hU]; exact hw.2.1⟩
  rintro q ⟨k, hk, rfl⟩
  exact (Zd_of hw.2.2.1).2 k hk
theorem ZW_call {z1 : ZS} {t : State} {H1 : Heap} {locs1 : List Loc} (hw : ZW D cA ad A z s H locs) (ht : t.heap = H1) (h1 : ZO D cA ad z1 t) (hS : va_S A s.heap H1 locs1) : ZW D cA ad A z1 s H1 locs1 := by
  have h1 : va_P D ZCL (Zws cA ad z1) t.heap := h1
  rw [ht] at h1
  have hd := Zd_of hw.2.2.1
  exact ⟨hw.1, h1, Zd hd.1 hd.2, hS⟩
theorem ZA_in (hw : ZW D cA ad A z s H locs) : ∀ q, ZA ad q → A q := by
  rintro q ⟨k, hk, rfl⟩
  exact (Zd_of hw.2.2.1).2 k hk
/-- what a call of y asks of the tables: instance, static -/
def ZyV (y : MethodName) (b : ByteArray) (mx : Nat) (rt : Option FieldType) (n : Nat) : Prop := Cond.code y b mx rt ∈ Ztbl ∧ Cond.initialized y.cls ∈ Ztbl ∧ (y.cls ≠ "java/lang/invoke/MethodHandle" ∧ y.cls ≠ "java/lang/invoke/VarHandle" ∧ (parseMethodDescriptor y.desc).map (fun d => d.parameters.length) = some n) ∧ mx ≤ 41
def ZyI (y : MethodName) : Prop := Cond.instanceMethod y ∈ Ztbl ∧ Cond.selects y.cls y y ∈ Ztbl
variable {y : MethodName} {b : ByteArray} {mx n index h : Nat} {rt : Option FieldType} {As st0 : List Value} {z1 : ZS}
theorem Zcb (S : CallFix p m c cc nL s args Ztbl own) (hy : ZyV y b mx rt n) (hl : Cond.methodLink own index y ∈ Ztbl) (hR : h + 1 ≤ R.frames ∧ 60 * (h + 1) ≤ R.locals) : CallB R s args own index y b mx rt (ZV y b mx rt) (Zrm h) 0 0 n :=
  callB_of n S.2.2.2.2 (ZV_in hy.1) rfl rfl rfl (S.2.2.2.2 _ hy.2.1) (S.2.2.2.2 _ hl) hy.2.2.1 ⟨hR.1, by have := hy.2.2.2; have := hR.2; show 8 + (mx + 11) + 60 * h ≤ R.locals; omega⟩
theorem Zcn {host : String} (S : CallFix p m c cc nL s args Ztbl own) (hw : ZW D cA ad A z s H locs) (hy : ZyV y b mx rt n) (hl : Cond.methodLinkNest own index y host ∈ Znl) (hR : h + 1 ≤ R.frames ∧ 60 * (h + 1) ≤ R.locals) : va_CN R s args own index y host b mx rt (ZV y b mx rt) (Zrm h) 0 0 n :=
  va_cnB n S.2.2.2.2 (ZV_in hy.1) rfl rfl rfl (hw.1.2.1 _ hl) (S.2.2.2.2 _ hy.2.1) hy.2.2.1 ⟨hR.1, by have := hy.2.2.2; have := hR.2; show 8 + (mx + 11) + 60 * h ≤ R.locals; omega⟩
theorem Zrecv (hw : ZW D cA ad A z s H locs) {k ci : Nat} {fk : List (Option Nat)} {q : vw_C} (hd : ZDS[k]? = some (.inl (ci, fk))) (hc : ZCL[ci]? = some q) : ∃ cell : Cell, H[ad k]? = some cell ∧ cell.vm.isStatics = false ∧ s.vm.findClass q.1 = some cell.cls := va_recv hw.1.1 hw.2.1 hc (Zws_get hd)
theorem ZcallVi (S : CallFix p m c cc nL s args Ztbl own) (hw : ZW D cA ad A z s H locs) {r : Int32} {k ci : Nat} {fk : List (Option Nat)} {q : vw_C} (hM : ZMi l D cA ad h y b mx rt (.ref (ad k) :: As) z r z1) (hy : ZyV y b mx rt n) (hi : ZyI y) (hl : Cond.methodLink own index y ∈ Ztbl) (hd : ZDS[k]? = some (.inl (ci, fk))) (hc : ZCL[ci]? = some q) (hq : q.1 = y.cls) (hR : h + 1 ≤ R.frames ∧ 60 * (h + 1) ≤ R.locals) (hcs : cells ≤ R.cells ∧ slots ≤ R.slots) (hls : ls.size = nL) (hn : As.length = n) (hst : st0 = As.reverse ++ .ref (ad k) :: rest) (hro : (rest.map fun v => v.category).sum ≤ 8) (hdg : decode cc pc = .ok (.invokevirtual index, 3))
    (kk : ∀ (H1 : Heap) (locs1 : List Loc), ZW D cA ad A z1 s H1 locs1 → W p l e R s m args below meth c H1 locs1 cells slots Q (F0 m (pc + 3) ls (.int r :: rest))) : W p l e R s m args below meth c H locs cells slots Q (F0 m pc ls st0) :=
  va_calli (va_runV (C := y.cls) (As := As) (rest := rest) S hM ⟨Zcb S hy hl hR, S.2.2.2.2 _ hi.1, S.2.2.2.2 _ hi.2⟩ ⟨Zblind, hq ▸ Zrecv hw hd hc, Zdown hw⟩ rfl hn hls hst (lv_room hro) hdg hcs) hw.2.2.2 (fun q _ h => ZA_in hw q h) (ZA_in hw) (fun r' u t H1 locs1 ht _ hp hB _ _ hS => by
    obtain ⟨rfl, rfl⟩ := hp
    exact kk H1 locs1 (ZW_call hw ht hB hS))
theorem ZcallVv (S : CallFix p m c cc nL s args Ztbl own) (hw : ZW D cA ad A z s H locs) {k ci : Nat} {fk : List (Option Nat)} {q : vw_C} (hM : ZMv l D cA ad h y b mx (.ref (ad k) :: As) z z1) (hy : ZyV y b mx none n) (hi : ZyI y) (hl : Cond.methodLink own index y ∈ Ztbl) (hd : ZDS[k]? = some (.inl (ci, fk))) (hc : ZCL[ci]? = some q) (hq : q.1 = y.cls) (hR : h + 1 ≤ R.frames ∧ 60 * (h + 1) ≤ R.locals) (hcs : cells ≤ R.cells ∧ slots ≤ R.slots) (hls : ls.size = nL) (hn : As.length = n) (hst : st0 = As.reverse ++ .ref (ad k) :: rest) (hro : (rest.map fun v => v.category).sum ≤ 8) (hdg : decode cc pc = .ok (.invokevirtual index, 3))
    (kk : ∀ (H1 : Heap) (locs1 : List Loc), ZW D cA ad A z1 s H1 locs1 → W p l e R s m args below meth c H1 locs1 cells slots Q (F0 m (pc + 3) ls rest)) : W p l e R s m args below meth c H locs cells slots Q (F0 m pc ls st0) :=
  va_callv (va_runV (C := y.cls) (As := As) (rest := rest) S hM ⟨Zcb S hy hl hR, S.2.2.2.2 _ hi.1, S.2.2.2.2 _ hi.2⟩ ⟨Zblind, hq ▸ Zrecv hw hd hc, Zdown hw⟩ rfl hn hls hst (lv_room hro) hdg hcs) hw.2.2.2 (fun q _ h => ZA_in hw q h) (ZA_in hw) (fun u t H1 locs1 ht _ hp hB _ _ hS => by
    obtain rfl := hp
    exact kk H1 locs1 (ZW_call hw ht hB hS))
theorem ZcallNi {host : String} (S : CallFix p m c cc nL s args Ztbl own) (hw : ZW D cA ad A z s H locs) {r : Int32} {k ci : Nat} {fk : List (Option Nat)} {q : vw_C} (hM : ZMi l D cA ad h y b mx rt (.ref (ad k) :: As) z r z1) (hy : ZyV y b mx rt n) (hi : ZyI y) (hl : Cond.methodLinkNest own index y host ∈ Znl) (hd : ZDS[k]? = some (.inl (ci, fk))) (hc : ZCL[ci]? = some q) (hq : q.1 = y.cls) (hR : h + 1 ≤ R.frames ∧ 60 * (h + 1) ≤ R.locals) (hcs : cells ≤ R.cells ∧ slots ≤ R.slots) (hls : ls.size = nL) (hn : As.length = n) (hst : st0 = As.reverse ++ .ref (ad k) :: rest) (hro : (rest.map fun v => v.category).sum ≤ 8) (hdg : decode cc pc = .ok (.invokevirtual index, 3))
    (kk : ∀ (H1 : Heap) (locs1 : List Loc), ZW D cA ad A z1 s H1 locs1 → W p l e R s m args below meth c H1 locs1 cells slots Q (F0 m (pc + 3) ls (.int r :: rest))) : W p l e R s m args below meth c H locs cells slots Q (F0 m pc ls st0) :=
  va_calli (va_runVN (C := y.cls) (As := As) (rest := rest) S hM ⟨Zcn S hw hy hl hR, S.2.2.2.2 _ hi.1, S.2.2.2.2 _ hi.2⟩ ⟨Zblind, hq ▸ Zrecv hw hd hc, Zdown hw⟩ rfl hn hls hst (lv_room hro) hdg hcs) hw.2.2.2 (fun q _ h => ZA_in hw q h) (ZA_in hw) (fun r' u t H1 locs1 ht _ hp hB _ _ hS => by
    obtain ⟨rfl, rfl⟩ := hp
    exact kk H1 locs1 (ZW_call hw ht hB hS))
theorem ZcallSi (S : CallFix p m c cc nL s args Ztbl own) (hw : ZW D cA ad A z s H locs) {r : Int32} (hM : ZMi l D cA ad h y b mx rt As z r z1) (hy : ZyV y b mx rt n) (hi : Cond.static y ∈ Ztbl) (hl : Cond.methodLink own index y ∈ Ztbl) (hR : h + 1 ≤ R.frames ∧ 60 * (h + 1) ≤ R.locals) (hcs : cells ≤ R.cells ∧ slots ≤ R.slots) (hls : ls.size = nL) (hn : As.length = n) (hst : st0 = As.reverse ++ rest) (hro : (rest.map fun v => v.category).sum ≤ 8) (hdg : decode cc pc = .ok (.invokestatic index, 3))
    (kk : ∀ (H1 : Heap) (locs1 : List Loc), ZW D cA ad A z1 s H1 locs1 → W p l e R s m args below meth c H1 locs1 cells slots Q (F0 m (pc + 3) ls (.int r :: rest))) : W p l e R s m args below meth c H locs cells slots Q (F0 m pc ls st0) :=
  va_calli (va_runS (As := As) (rest := rest) S hM ⟨Zcb S hy hl hR, S.2.2.2.2 _ hi⟩ ⟨Zblind, Zdown hw⟩ rfl hn hls hst (lv_room hro) hdg hcs) hw.2.2.2 (fun q _ h => ZA_in hw q h) (ZA_in hw) (fun r' u t H1 locs1 ht _ hp hB _ _ hS => by
    obtain ⟨rfl, rfl⟩ := hp
    exact kk H1 locs1 (ZW_call hw ht hB hS))
theorem ZcallSl (S : CallFix p m c cc nL s args Ztbl own) (hw : ZW D cA ad A z s H locs) {r : Int64} (hM : ZMl l D cA ad h y b mx As z r z1) (hy : ZyV y b mx (some .long) n) (hi : Cond.static y ∈ Ztbl) (hl : Cond.methodLink own index y ∈ Ztbl) (hR : h + 1 ≤ R.frames ∧ 60 * (h + 1) ≤ R.locals) (hcs : cells ≤ R.cells ∧ slots ≤ R.slots) (hls : ls.size = nL) (hn : As.length = n) (hst : st0 = As.reverse ++ rest) (hro : (rest.map fun v => v.category).sum ≤ 8) (hdg : decode cc pc = .ok (.invokestatic index, 3))
    (kk : ∀ (H1 : Heap) (locs1 : List Loc), ZW D cA ad A z1 s H1 locs1 → W p l e R s m args below meth c H1 locs1 cells slots Q (F0 m (pc + 3) ls (.long r :: rest))) : W p l e R s m args below meth c H locs cells slots Q (F0 m pc ls st0) :=
  va_calll (va_runS (As := As) (rest := rest) S hM ⟨Zcb S hy hl hR, S.2.2.2.2 _ hi⟩ ⟨Zblind, Zdown hw⟩ rfl hn hls hst (lv_room hro) hdg hcs) hw.2.2.2 (fun q _ h => ZA_in hw q h) (ZA_in hw) (fun r' u t H1 locs1 ht _ hp hB _ _ hS => by
    obtain ⟨rfl, rfl⟩ := hp
    exact kk H1 locs1 (ZW_call hw ht hB hS))
/-! a method's end -/
theorem Zreti {r : Int32} {RR : Int32 × ZS} (S : CallFix p m c cc nL s args Ztbl own) (hw : ZW D cA ad (ZA ad) z s H locs) (hr : meth.sig.returnType = some .int) (hlk : meth.locks = false) (hF : some (r, z) = some RR) (hdg : decode cc pc = .ok (.ireturn, 1)) : W p l e R s m args below meth c H locs cells slots (MQ below (ZQi D cA ad RR.1 RR.2) args s cells slots (ZA ad)) (F0 m pc ls [.int r]) := by
  obtain rfl := Option.some.inj hF
  exact W.iret S.1 S.2.1 hr (fun t ht hW => ⟨⟨r, z, rfl, ⟨rfl, rfl⟩, by show va_P _ _ _ _; rw [ht]; exact hw.2.1⟩, hw.2.2.2.F ht⟩) hw.2.2.2.2.2 hdg hlk
theorem Zretz {r : Int32} {RR : Int32 × ZS} (S : CallFix p m c cc nL s args Ztbl own) (hw : ZW D cA ad (ZA ad) z s H locs) (hr : meth.sig.returnType = some .boolean) (hlk : meth.locks = false) (h01 : r = 0 ∨ r = 1) (hF : some (r, z) = some RR) (hdg : decode cc pc = .ok (.ireturn, 1)) : W p l e R s m args below meth c H locs cells slots (MQ below (ZQi D cA ad RR.1 RR.2) args s cells slots (ZA ad)) (F0 m pc ls [.int r]) := by
  obtain rfl := Option.some.inj hF
  exact W.zret S.1 S.2.1 hr (by rcases h01 with rfl | rfl <;> rfl) (fun t ht hW => ⟨⟨r, z, rfl, ⟨rfl, rfl⟩, by show va_P _ _ _ _; rw [ht]; exact hw.2.1⟩, hw.2.2.2.F ht⟩) hw.2.2.2.2.2 hdg hlk
theorem Zretl {r : Int64} {RR : Int64 × ZS} (S : CallFix p m c cc nL s args Ztbl own) (hw : ZW D cA ad (ZA ad) z s H locs) (hr : meth.sig.returnType = some .long) (hlk : meth.locks = false) (hF : some (r, z) = some RR) (hdg : decode cc pc = .ok (.lreturn, 1)) : W p l e R s m args below meth c H locs cells slots (MQ below (ZQl D cA ad RR.1 RR.2) args s cells slots (ZA ad)) (F0 m pc ls [.long r]) := by
  obtain rfl := Option.some.inj hF
  exact W.lret S.1 S.2.1 hr (fun t ht hW => ⟨⟨r, z, rfl, ⟨rfl, rfl⟩, by show va_P _ _ _ _; rw [ht]; exact hw.2.1⟩, hw.2.2.2.F ht⟩) hw.2.2.2.2.2 hdg hlk
theorem Zretv {RR : Unit × ZS} (S : CallFix p m c cc nL s args Ztbl own) (hw : ZW D cA ad (ZA ad) z s H locs) (hr : meth.sig.returnType = none) (hlk : meth.locks = false) (hF : some ((), z) = some RR) (hdg : decode cc pc = .ok (.return_, 1)) : W p l e R s m args below meth c H locs cells slots (MQ below (ZQv D cA ad RR.2) args s cells slots (ZA ad)) (F0 m pc ls []) := by
  obtain rfl := Option.some.inj hF
  exact W.vret S.1 S.2.1 hr (fun t ht hW => ⟨⟨z, rfl, rfl, by show va_P _ _ _ _; rw [ht]; exact hw.2.1⟩, hw.2.2.2.F ht⟩) hw.2.2.2.2.2 hdg hlk
end ZROWS
/-! a method's start -/
theorem Zmet {l : Launch} {D : va_G} {cA : Nat → ClassId} {ad : Nat → Nat} {h mx : Nat} {y : MethodName} {b : ByteArray} {rt : Option FieldType} {avs : List Value} {z : ZS} {Qc : Array Value → State → Outcome → State → Prop} {lv : List (Nat × Value)} {own : String} (hdj : Zdj ad) (hy : plainName y.cls = true) (ho : y.cls = own) (hlen : (lg_sl avs).length ≤ mx) (hlv : lv_args 0 avs = lv)
    (body : ∀ (p : Program) (e : Env) (s : State) (m : MethodId) (args : Array Value) (below : List Frame) (meth : Method) (c : Code) (ls : Array Slot), CallFix p m c b mx s args Ztbl own → meth.sig.returnType = rt → meth.locks = false → ZW D cA ad (ZA ad) z s s.heap [] → lv_has ls mx lv → W p l e (Zrm h) s m args below meth c s.heap [] 0 0 (MQ below Qc args s 0 0 (ZA ad)) (F0 m 0 ls [])) : Met l y (ZV y b mx rt) (Zrm h) (ZPc D cA ad avs z) Qc 0 0 (ZA ad) := by
  refine Met.ofW (cc := b) (maxL := mx) (ret := rt) hy rfl ?_
  intro p e s m args below meth c s₁ B hml hv
  obtain ⟨rfl, hE, hP⟩ := hv
  have hts := atoms_spec (ws := ZV y b mx rt) B.pre
  have hown : s.vm.findClass y.cls = some m.cls := findClass_of_methodNamed B.named
  have hl := lv_entry avs (n := mx) hlen
  rw [lg_entry_eq]
  subst hlv
  subst ho
  exact body p e s m _ below meth c _ ⟨B.exec, B.bytes, hml, hown, fun w hw => hts w (List.mem_cons_of_mem _ hw)⟩ B.returns B.notSynchronized ⟨hE, hP, Zd hdj (fun k hk => ⟨k, hk, rfl⟩), va_S.rf⟩ hl

