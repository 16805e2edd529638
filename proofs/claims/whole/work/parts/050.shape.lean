/-! ===== the cells of the world by their places; words, links, literals (own work, printed by wip/whole/gen) ===== -/
def bSHf : bShp := [(16, [5, 34, 37, 40, 62, 67, 70, 2, 0, 0, 0]), (14, [6, 8, 9, 10, 2, 0, 0, 0]), (13, [7, 0, 0, 0, 0, 0, 0, 1]), (1, [1000]), (3, [10]), (3, [6]), (3, [7]), (12, [12, 18, 26, 31, 0]), (8, [13, 14, 15, 16, 17, 0, 0, 0, 0, 0, 0]), (0, [6]), (0, [6]), (0, [6]), (0, [6]), (0, [6]), (7, [19, 20, 21, 22, 23, 24, 25, 0, 0, 0]), (0, [7]), (3, [7]), (0, [7]), (0, [7]), (0, [9]), (0, [9]), (0, [9]), (15, [27, 28, 29, 30, 0, 0, 0]), (0, [8]), (2, [8]), (0, [77]), (0, [100]), (9, [32, 33, 0, 0]), (0, [7]), (0, [7]), (9, [35, 36, 0, 0]), (0, [7]), (0, [7]), (9, [38, 39, 0, 0]), (0, [7]), (0, [7]), (11, [41, 58, 0, 0, 0]), (4, [16, 38]), (0, [16]), (0, [16]), (0, [16]), (0, [16]), (0, [16]), (0, [16]), (0, [16]), (0, [16]), (0, [16]), (0, [16]), (0, [16]), (0, [16]), (0, [16]), (0, [16]), (0, [16]), (0, [16]), (4, [3, 55]), (0, [16]), (0, [16]), (0, [16]), (10, [63, 64, 65, 66, 0, 0, 0]), (0, [6]), (0, [6]), (0, [7]), (0, [7]), (5, [68, 69]), (0, [128]), (0, [7]), (6, [71, 72]), (0, [7]), (0, [7]), (12, [74, 80, 88, 93, 0]), (8, [75, 76, 77, 78, 79, 0, 0, 0, 0, 0, 0]), (0, [6]), (0, [6]), (0, [6]), (0, [6]), (0, [6]), (7, [81, 82, 83, 84, 85, 86, 87, 0, 0, 0]), (0, [7]), (3, [7]), (0, [7]), (0, [7]), (0, [9]), (0, [9]), (0, [9]), (15, [89, 90, 91, 92, 0, 0, 0]), (0, [8]), (2, [8]), (0, [77]), (0, [100]), (9, [94, 95, 0, 0]), (0, [7]), (0, [7]), (17, [0, 97, 0, 0, 0, 0, 0, 0, 0, 0, 0, 0, 98, 0, 0, 99, 100, 101, 102, 103, 0, 0, 104, 105, 106, 0, 0, 107, 108, 109, 0, 110, 111, 0, 112, 113]), (0, [1000]), (0, [8]), (0, [406]), (0, [406]), (0, [16]), (0, [256]), (0, [48]), (0, [7]), (0, [7]), (0, [6]), (0, [6]), (0, [7]), (0, [7]), (0, [7]), (0, [7]), (0, [7]), (0, [7]), (3, [1])]
theorem sh_0 : bSHf[0]? = some (16, [5, 34, 37, 40, 62, 67, 70, 2, 0, 0, 0]) := rfl
theorem sh_1 : bSHf[1]? = some (14, [6, 8, 9, 10, 2, 0, 0, 0]) := rfl
theorem sh_2 : bSHf[2]? = some (13, [7, 0, 0, 0, 0, 0, 0, 1]) := rfl
theorem sh_3 : bSHf[3]? = some (1, [1000]) := rfl
theorem sh_4 : bSHf[4]? = some (3, [10]) := rfl
theorem sh_5 : bSHf[5]? = some (3, [6]) := rfl
theorem sh_6 : bSHf[6]? = some (3, [7]) := rfl
theorem sh_7 : bSHf[7]? = some (12, [12, 18, 26, 31, 0]) := rfl
theorem sh_8 : bSHf[8]? = some (8, [13, 14, 15, 16, 17, 0, 0, 0, 0, 0, 0]) := rfl
theorem sh_9 : bSHf[9]? = some (0, [6]) := rfl
theorem sh_10 : bSHf[10]? = some (0, [6]) := rfl
theorem sh_11 : bSHf[11]? = some (0, [6]) := rfl
theorem sh_12 : bSHf[12]? = some (0, [6]) := rfl
theorem sh_13 : bSHf[13]? = some (0, [6]) := rfl
theorem sh_14 : bSHf[14]? = some (7, [19, 20, 21, 22, 23, 24, 25, 0, 0, 0]) := rfl
theorem sh_15 : bSHf[15]? = some (0, [7]) := rfl
theorem sh_16 : bSHf[16]? = some (3, [7]) := rfl
theorem sh_17 : bSHf[17]? = some (0, [7]) := rfl
theorem sh_18 : bSHf[18]? = some (0, [7]) := rfl
theorem sh_19 : bSHf[19]? = some (0, [9]) := rfl
theorem sh_20 : bSHf[20]? = some (0, [9]) := rfl
theorem sh_21 : bSHf[21]? = some (0, [9]) := rfl
theorem sh_22 : bSHf[22]? = some (15, [27, 28, 29, 30, 0, 0, 0]) := rfl
theorem sh_23 : bSHf[23]? = some (0, [8]) := rfl
theorem sh_24 : bSHf[24]? = some (2, [8]) := rfl
theorem sh_25 : bSHf[25]? = some (0, [77]) := rfl
theorem sh_26 : bSHf[26]? = some (0, [100]) := rfl
theorem sh_27 : bSHf[27]? = some (9, [32, 33, 0, 0]) := rfl
theorem sh_28 : bSHf[28]? = some (0, [7]) := rfl
theorem sh_29 : bSHf[29]? = some (0, [7]) := rfl
theorem sh_30 : bSHf[30]? = some (9, [35, 36, 0, 0]) := rfl
theorem sh_31 : bSHf[31]? = some (0, [7]) := rfl
theorem sh_32 : bSHf[32]? = some (0, [7]) := rfl
theorem sh_33 : bSHf[33]? = some (9, [38, 39, 0, 0]) := rfl
theorem sh_34 : bSHf[34]? = some (0, [7]) := rfl
theorem sh_35 : bSHf[35]? = some (0, [7]) := rfl
theorem sh_36 : bSHf[36]? = some (11, [41, 58, 0, 0, 0]) := rfl
theorem sh_37 : bSHf[37]? = some (4, [16, 38]) := rfl
theorem sh_38 : bSHf[38]? = some (0, [16]) := rfl
theorem sh_39 : bSHf[39]? = some (0, [16]) := rfl
theorem sh_40 : bSHf[40]? = some (0, [16]) := rfl
theorem sh_41 : bSHf[41]? = some (0, [16]) := rfl
theorem sh_42 : bSHf[42]? = some (0, [16]) := rfl
theorem sh_43 : bSHf[43]? = some (0, [16]) := rfl
theorem sh_44 : bSHf[44]? = some (0, [16]) := rfl
theorem sh_45 : bSHf[45]? = some (0, [16]) := rfl
theorem sh_46 : bSHf[46]? = some (0, [16]) := rfl
theorem sh_47 : bSHf[47]? = some (0, [16]) := rfl
theorem sh_48 : bSHf[48]? = some (0, [16]) := rfl
theorem sh_49 : bSHf[49]? = some (0, [16]) := rfl
theorem sh_50 : bSHf[50]? = some (0, [16]) := rfl
theorem sh_51 : bSHf[51]? = some (0, [16]) := rfl
theorem sh_52 : bSHf[52]? = some (0, [16]) := rfl
theorem sh_53 : bSHf[53]? = some (0, [16]) := rfl
theorem sh_54 : bSHf[54]? = some (4, [3, 55]) := rfl
theorem sh_55 : bSHf[55]? = some (0, [16]) := rfl
theorem sh_56 : bSHf[56]? = some (0, [16]) := rfl
theorem sh_57 : bSHf[57]? = some (0, [16]) := rfl
theorem sh_58 : bSHf[58]? = some (10, [63, 64, 65, 66, 0, 0, 0]) := rfl
theorem sh_59 : bSHf[59]? = some (0, [6]) := rfl
theorem sh_60 : bSHf[60]? = some (0, [6]) := rfl
theorem sh_61 : bSHf[61]? = some (0, [7]) := rfl
theorem sh_62 : bSHf[62]? = some (0, [7]) := rfl
theorem sh_63 : bSHf[63]? = some (5, [68, 69]) := rfl
theorem sh_64 : bSHf[64]? = some (0, [128]) := rfl
theorem sh_65 : bSHf[65]? = some (0, [7]) := rfl
theorem sh_66 : bSHf[66]? = some (6, [71, 72]) := rfl
theorem sh_67 : bSHf[67]? = some (0, [7]) := rfl
theorem sh_68 : bSHf[68]? = some (0, [7]) := rfl
theorem sh_69 : bSHf[69]? = some (12, [74, 80, 88, 93, 0]) := rfl
theorem sh_70 : bSHf[70]? = some (8, [75, 76, 77, 78, 79, 0, 0, 0, 0, 0, 0]) := rfl
theorem sh_71 : bSHf[71]? = some (0, [6]) := rfl
theorem sh_72 : bSHf[72]? = some (0, [6]) := rfl
theorem sh_73 : bSHf[73]? = some (0, [6]) := rfl
theorem sh_74 : bSHf[74]? = some (0, [6]) := rfl
theorem sh_75 : bSHf[75]? = some (0, [6]) := rfl
theorem sh_76 : bSHf[76]? = some (7, [81, 82, 83, 84, 85, 86, 87, 0, 0, 0]) := rfl
theorem sh_77 : bSHf[77]? = some (0, [7]) := rfl
theorem sh_78 : bSHf[78]? = some (3, [7]) := rfl
theorem sh_79 : bSHf[79]? = some (0, [7]) := rfl
theorem sh_80 : bSHf[80]? = some (0, [7]) := rfl
theorem sh_81 : bSHf[81]? = some (0, [9]) := rfl
theorem sh_82 : bSHf[82]? = some (0, [9]) := rfl
theorem sh_83 : bSHf[83]? = some (0, [9]) := rfl
theorem sh_84 : bSHf[84]? = some (15, [89, 90, 91, 92, 0, 0, 0]) := rfl
theorem sh_85 : bSHf[85]? = some (0, [8]) := rfl
theorem sh_86 : bSHf[86]? = some (2, [8]) := rfl
theorem sh_87 : bSHf[87]? = some (0, [77]) := rfl
theorem sh_88 : bSHf[88]? = some (0, [100]) := rfl
theorem sh_89 : bSHf[89]? = some (9, [94, 95, 0, 0]) := rfl
theorem sh_90 : bSHf[90]? = some (0, [7]) := rfl
theorem sh_91 : bSHf[91]? = some (0, [7]) := rfl
theorem sh_92 : bSHf[92]? = some (17, [0, 97, 0, 0, 0, 0, 0, 0, 0, 0, 0, 0, 98, 0, 0, 99, 100, 101, 102, 103, 0, 0, 104, 105, 106, 0, 0, 107, 108, 109, 0, 110, 111, 0, 112, 113]) := rfl
theorem sh_93 : bSHf[93]? = some (0, [1000]) := rfl
theorem sh_94 : bSHf[94]? = some (0, [8]) := rfl
theorem sh_95 : bSHf[95]? = some (0, [406]) := rfl
theorem sh_96 : bSHf[96]? = some (0, [406]) := rfl
theorem sh_97 : bSHf[97]? = some (0, [16]) := rfl
theorem sh_98 : bSHf[98]? = some (0, [256]) := rfl
theorem sh_99 : bSHf[99]? = some (0, [48]) := rfl
theorem sh_100 : bSHf[100]? = some (0, [7]) := rfl
theorem sh_101 : bSHf[101]? = some (0, [7]) := rfl
theorem sh_102 : bSHf[102]? = some (0, [6]) := rfl
theorem sh_103 : bSHf[103]? = some (0, [6]) := rfl
theorem sh_104 : bSHf[104]? = some (0, [7]) := rfl
theorem sh_105 : bSHf[105]? = some (0, [7]) := rfl
theorem sh_106 : bSHf[106]? = some (0, [7]) := rfl
theorem sh_107 : bSHf[107]? = some (0, [7]) := rfl
theorem sh_108 : bSHf[108]? = some (0, [7]) := rfl
theorem sh_109 : bSHf[109]? = some (0, [7]) := rfl
theorem sh_110 : bSHf[110]? = some (3, [1]) := rfl
abbrev kF (t : Nat) : Prop := t = 14 ∨ t = 76
abbrev kH (t : Nat) : Prop := t = 8 ∨ t = 70
abbrev kN (t : Nat) : Prop := t = 27 ∨ t = 30 ∨ t = 33 ∨ t = 89
abbrev kR (t : Nat) : Prop := t = 7 ∨ t = 69
abbrev kT (t : Nat) : Prop := t = 22 ∨ t = 84
def bln (a : Nat) : Nat := match bSHf[a]? with
  | some (0, [n]) => n
  | _ => 0
def blnJ (a : Nat) : Nat := match bSHf[a]? with
  | some (3, [n]) => n
  | _ => 0
def kIA (a : Nat) : Prop := bSHf[a]? = some (0, [bln a])
def kJA (a : Nat) : Prop := bSHf[a]? = some (3, [blnJ a])
theorem shF {t : Nat} (h : kF t) : bSHf[t]? = some (7, [t + 1 + 4, t + 2 + 4, t + 3 + 4, t + 4 + 4, t + 5 + 4, t + 6 + 4, t + 7 + 4, 0, 0, 0]) := by rcases h with rfl | rfl <;> rfl
theorem sa_2_0 {t : Nat} (h : kF t) : bSHf[t + 1]? = some (0, [7]) := by rcases h with rfl | rfl <;> rfl
theorem ki_2_0 {t : Nat} (h : kF t) : kIA (t + 1) := by rcases h with rfl | rfl <;> rfl
theorem sa_2_1 {t : Nat} (h : kF t) : bSHf[t + 2]? = some (3, [7]) := by rcases h with rfl | rfl <;> rfl
theorem sa_2_2 {t : Nat} (h : kF t) : bSHf[t + 3]? = some (0, [7]) := by rcases h with rfl | rfl <;> rfl
theorem ki_2_2 {t : Nat} (h : kF t) : kIA (t + 3) := by rcases h with rfl | rfl <;> rfl
theorem sa_2_3 {t : Nat} (h : kF t) : bSHf[t + 4]? = some (0, [7]) := by rcases h with rfl | rfl <;> rfl
theorem ki_2_3 {t : Nat} (h : kF t) : kIA (t + 4) := by rcases h with rfl | rfl <;> rfl
theorem sa_2_4 {t : Nat} (h : kF t) : bSHf[t + 5]? = some (0, [9]) := by rcases h with rfl | rfl <;> rfl
theorem ki_2_4 {t : Nat} (h : kF t) : kIA (t + 5) := by rcases h with rfl | rfl <;> rfl
theorem sa_2_5 {t : Nat} (h : kF t) : bSHf[t + 6]? = some (0, [9]) := by rcases h with rfl | rfl <;> rfl
theorem ki_2_5 {t : Nat} (h : kF t) : kIA (t + 6) := by rcases h with rfl | rfl <;> rfl
theorem sa_2_6 {t : Nat} (h : kF t) : bSHf[t + 7]? = some (0, [9]) := by rcases h with rfl | rfl <;> rfl
theorem ki_2_6 {t : Nat} (h : kF t) : kIA (t + 7) := by rcases h with rfl | rfl <;> rfl
theorem shH {t : Nat} (h : kH t) : bSHf[t]? = some (8, [t + 1 + 4, t + 2 + 4, t + 3 + 4, t + 4 + 4, t + 5 + 4, 0, 0, 0, 0, 0, 0]) := by rcases h with rfl | rfl <;> rfl
theorem sa_3_0 {t : Nat} (h : kH t) : bSHf[t + 1]? = some (0, [6]) := by rcases h with rfl | rfl <;> rfl
theorem ki_3_0 {t : Nat} (h : kH t) : kIA (t + 1) := by rcases h with rfl | rfl <;> rfl
theorem sa_3_1 {t : Nat} (h : kH t) : bSHf[t + 2]? = some (0, [6]) := by rcases h with rfl | rfl <;> rfl
theorem ki_3_1 {t : Nat} (h : kH t) : kIA (t + 2) := by rcases h with rfl | rfl <;> rfl
theorem sa_3_2 {t : Nat} (h : kH t) : bSHf[t + 3]? = some (0, [6]) := by rcases h with rfl | rfl <;> rfl
theorem ki_3_2 {t : Nat} (h : kH t) : kIA (t + 3) := by rcases h with rfl | rfl <;> rfl
theorem sa_3_3 {t : Nat} (h : kH t) : bSHf[t + 4]? = some (0, [6]) := by rcases h with rfl | rfl <;> rfl
theorem ki_3_3 {t : Nat} (h : kH t) : kIA (t + 4) := by rcases h with rfl | rfl <;> rfl
theorem sa_3_4 {t : Nat} (h : kH t) : bSHf[t + 5]? = some (0, [6]) := by rcases h with rfl | rfl <;> rfl
theorem ki_3_4 {t : Nat} (h : kH t) : kIA (t + 5) := by rcases h with rfl | rfl <;> rfl
theorem shN {t : Nat} (h : kN t) : bSHf[t]? = some (9, [t + 1 + 4, t + 2 + 4, 0, 0]) := by rcases h with rfl | rfl | rfl | rfl <;> rfl
theorem sa_4_0 {t : Nat} (h : kN t) : bSHf[t + 1]? = some (0, [7]) := by rcases h with rfl | rfl | rfl | rfl <;> rfl
theorem ki_4_0 {t : Nat} (h : kN t) : kIA (t + 1) := by rcases h with rfl | rfl | rfl | rfl <;> rfl
theorem sa_4_1 {t : Nat} (h : kN t) : bSHf[t + 2]? = some (0, [7]) := by rcases h with rfl | rfl | rfl | rfl <;> rfl
theorem ki_4_1 {t : Nat} (h : kN t) : kIA (t + 2) := by rcases h with rfl | rfl | rfl | rfl <;> rfl
theorem shR {t : Nat} (h : kR t) : bSHf[t]? = some (12, [t + 1 + 4, t + 7 + 4, t + 15 + 4, t + 20 + 4, 0]) := by rcases h with rfl | rfl <;> rfl
theorem kk_7_0 {t : Nat} (h : kR t) : kH (t + 1) := by rcases h with rfl | rfl <;> decide
theorem kk_7_1 {t : Nat} (h : kR t) : kF (t + 7) := by rcases h with rfl | rfl <;> decide
theorem kk_7_2 {t : Nat} (h : kR t) : kT (t + 15) := by rcases h with rfl | rfl <;> decide
theorem kk_7_3 {t : Nat} (h : kR t) : kN (t + 20) := by rcases h with rfl | rfl <;> decide
theorem shT {t : Nat} (h : kT t) : bSHf[t]? = some (15, [t + 1 + 4, t + 2 + 4, t + 3 + 4, t + 4 + 4, 0, 0, 0]) := by rcases h with rfl | rfl <;> rfl
theorem sa_10_0 {t : Nat} (h : kT t) : bSHf[t + 1]? = some (0, [8]) := by rcases h with rfl | rfl <;> rfl
theorem ki_10_0 {t : Nat} (h : kT t) : kIA (t + 1) := by rcases h with rfl | rfl <;> rfl
theorem sa_10_1 {t : Nat} (h : kT t) : bSHf[t + 2]? = some (2, [8]) := by rcases h with rfl | rfl <;> rfl
theorem sa_10_2 {t : Nat} (h : kT t) : bSHf[t + 3]? = some (0, [77]) := by rcases h with rfl | rfl <;> rfl
theorem ki_10_2 {t : Nat} (h : kT t) : kIA (t + 3) := by rcases h with rfl | rfl <;> rfl
theorem sa_10_3 {t : Nat} (h : kT t) : bSHf[t + 4]? = some (0, [100]) := by rcases h with rfl | rfl <;> rfl
theorem ki_10_3 {t : Nat} (h : kT t) : kIA (t + 4) := by rcases h with rfl | rfl <;> rfl
theorem kaa_37_all : ∀ j : Fin 16, bSHf[38 + j.val]? = some (0, [bln (38 + j.val)]) := by decide +kernel
theorem kaa_37 {i : Int32} (h : ¬ (i < 0 ∨ 16 ≤ i.toNatClampNeg)) : kIA (38 + i.toNatClampNeg) := kaa_37_all ⟨i.toNatClampNeg, Nat.not_le.mp fun z => h (Or.inr z)⟩
theorem kaa_54_all : ∀ j : Fin 3, bSHf[55 + j.val]? = some (0, [bln (55 + j.val)]) := by decide +kernel
theorem kaa_54 {i : Int32} (h : ¬ (i < 0 ∨ 3 ≤ i.toNatClampNeg)) : kIA (55 + i.toNatClampNeg) := kaa_54_all ⟨i.toNatClampNeg, Nat.not_le.mp fun z => h (Or.inr z)⟩
/-- what a frame of the full world gives -/
def bH (X : bX) (l : Launch) (G : bG) (SH : bShp) (ρ : Nat → Nat) (A : Nat → Prop) (nL : Nat) : Prop := (∀ (o : Nat) (q : Nat × List Nat), SH[o]? = some q → (bShOf X)[o]? = some q) ∧ (∀ i, i < nL → i < bNL X) ∧ ∀ y bytes maxL ret d as σ r σ', bEv l G SH ρ A y bytes maxL ret d as σ r σ' → bEvX X y bytes maxL ret d as σ r σ'
theorem lvl_eq {l : Launch} {G : bG} {SH : bShp} {ρ : Nat → Nat} {A : Nat → Prop} {y : MethodName} {cc : ByteArray} {nL : Nat} {ret : Option FieldType} {d d2 : Nat} {as : List Value} {σ : bSto} {r : Option Value} {σ2 : bSto} (e : d = d2) (h : bEv l G SH ρ A y cc nL ret d as σ r σ2) : bEv l G SH ρ A y cc nL ret d2 as σ r σ2 := e ▸ h
theorem bmem {big ws : List Cond} (ps : List Nat) (hp : ws = ps.filterMap (fun i => big[i]?)) : ∀ w ∈ ws, w ∈ big := by
  intro w hw
  rw [hp] at hw
  obtain ⟨i, -, hi⟩ := List.mem_filterMap.mp hw
  exact List.mem_of_getElem? hi
theorem inX0_t : ∀ w ∈ u_ws RX0 TX0 2, w ∈ tables_1 := bmem [458, 460] (by decide +kernel)
theorem inX0 : ∀ w ∈ u_ws RX0 TX0 2, w ∈ bTB := fun w h => bTB_in (List.mem_append_right _ (inX0_t w h)) (List.all_eq_true.mp (show (u_ws RX0 TX0 2).all goodWord = true by decide +kernel) w h)
theorem inX1_t : ∀ w ∈ u_ws RX1 TX1 2, w ∈ tables_1 := bmem [472, 474] (by decide +kernel)
theorem inX1 : ∀ w ∈ u_ws RX1 TX1 2, w ∈ bTB := fun w h => bTB_in (List.mem_append_right _ (inX1_t w h)) (List.all_eq_true.mp (show (u_ws RX1 TX1 2).all goodWord = true by decide +kernel) w h)
theorem inX2_t : ∀ w ∈ u_ws RX2 TX2 10, w ∈ tables_1 := bmem [191, 193, 195, 197, 199, 201, 203, 205, 207, 209] (by decide +kernel)
theorem inX2 : ∀ w ∈ u_ws RX2 TX2 10, w ∈ bTB := fun w h => bTB_in (List.mem_append_right _ (inX2_t w h)) (List.all_eq_true.mp (show (u_ws RX2 TX2 10).all goodWord = true by decide +kernel) w h)
theorem inX3_t : ∀ w ∈ u_ws RX3 TX3 11, w ∈ tables_1 := bmem [128, 130, 132, 134, 136, 138, 140, 142, 144, 146, 148] (by decide +kernel)
theorem inX3 : ∀ w ∈ u_ws RX3 TX3 11, w ∈ bTB := fun w h => bTB_in (List.mem_append_right _ (inX3_t w h)) (List.all_eq_true.mp (show (u_ws RX3 TX3 11).all goodWord = true by decide +kernel) w h)
theorem inX4_t : ∀ w ∈ u_ws RX4 TX4 4, w ∈ tables_1 := bmem [265, 267, 269, 271] (by decide +kernel)
theorem inX4 : ∀ w ∈ u_ws RX4 TX4 4, w ∈ bTB := fun w h => bTB_in (List.mem_append_right _ (inX4_t w h)) (List.all_eq_true.mp (show (u_ws RX4 TX4 4).all goodWord = true by decide +kernel) w h)
theorem inX5_t : ∀ w ∈ u_ws RX5 TX5 7, w ∈ tables_1 := bmem [434, 436, 438, 440, 442, 444, 446] (by decide +kernel)
theorem inX5 : ∀ w ∈ u_ws RX5 TX5 7, w ∈ bTB := fun w h => bTB_in (List.mem_append_right _ (inX5_t w h)) (List.all_eq_true.mp (show (u_ws RX5 TX5 7).all goodWord = true by decide +kernel) w h)
theorem inX6_t : ∀ w ∈ u_ws RX6 TX6 5, w ∈ tables_1 := bmem [410, 412, 414, 416, 418] (by decide +kernel)
theorem inX6 : ∀ w ∈ u_ws RX6 TX6 5, w ∈ bTB := fun w h => bTB_in (List.mem_append_right _ (inX6_t w h)) (List.all_eq_true.mp (show (u_ws RX6 TX6 5).all goodWord = true by decide +kernel) w h)
theorem inX7_t : ∀ w ∈ u_ws RX7 TX7 5, w ∈ tables_1 := bmem [291, 293, 295, 297, 299] (by decide +kernel)
theorem inX7 : ∀ w ∈ u_ws RX7 TX7 5, w ∈ bTB := fun w h => bTB_in (List.mem_append_right _ (inX7_t w h)) (List.all_eq_true.mp (show (u_ws RX7 TX7 5).all goodWord = true by decide +kernel) w h)
theorem inX8_t : ∀ w ∈ u_ws RX8 TX8 8, w ∈ tables_1 := bmem [59, 61, 63, 65, 67, 69, 71, 73] (by decide +kernel)
theorem inX8 : ∀ w ∈ u_ws RX8 TX8 8, w ∈ bTB := fun w h => bTB_in (List.mem_append_right _ (inX8_t w h)) (List.all_eq_true.mp (show (u_ws RX8 TX8 8).all goodWord = true by decide +kernel) w h)
theorem inX9_t : ∀ w ∈ u_ws RX9 TX9 8, w ∈ tables_1 := bmem [376, 378, 380, 382, 384, 386, 388, 390] (by decide +kernel)
theorem inX9 : ∀ w ∈ u_ws RX9 TX9 8, w ∈ bTB := fun w h => bTB_in (List.mem_append_right _ (inX9_t w h)) (List.all_eq_true.mp (show (u_ws RX9 TX9 8).all goodWord = true by decide +kernel) w h)
theorem inX10_t : ∀ w ∈ u_ws RX10 TX10 7, w ∈ tables_1 := bmem [230, 232, 234, 236, 238, 240, 242] (by decide +kernel)
theorem inX10 : ∀ w ∈ u_ws RX10 TX10 7, w ∈ bTB := fun w h => bTB_in (List.mem_append_right _ (inX10_t w h)) (List.all_eq_true.mp (show (u_ws RX10 TX10 7).all goodWord = true by decide +kernel) w h)
theorem inX11_t : ∀ w ∈ u_ws RX11 TX11 11, w ∈ tables_1 := bmem [490, 492, 494, 496, 498, 500, 502, 504, 506, 508, 510] (by decide +kernel)
theorem inX11 : ∀ w ∈ u_ws RX11 TX11 11, w ∈ bTB := fun w h => bTB_in (List.mem_append_right _ (inX11_t w h)) (List.all_eq_true.mp (show (u_ws RX11 TX11 11).all goodWord = true by decide +kernel) w h)
theorem inX12_t : ∀ w ∈ u_ws RX12 TX12 36, w ∈ tables_1 := bmem [1369, 1371, 1373, 1375, 1377, 1379, 1381, 1383, 1385, 1387, 1389, 1391, 1393, 1395, 1397, 1399, 1401, 1403, 1405, 1407, 1409, 1411, 1413, 1415, 1417, 1419, 1421, 1423, 1425, 1427, 1429, 1431, 1433, 1435, 1437, 1439] (by decide +kernel)
theorem inX12 : ∀ w ∈ u_ws RX12 TX12 36, w ∈ bTB := fun w h => bTB_in (List.mem_append_right _ (inX12_t w h)) (List.all_eq_true.mp (show (u_ws RX12 TX12 36).all goodWord = true by decide +kernel) w h)
theorem wArr : Cond.native arraycopyName ∈ bTB ∧ Cond.static arraycopyName ∈ bTB ∧ Cond.initialized "java/lang/System" ∈ bTB := ⟨(bTB_in (List.mem_append_right _ (List.mem_of_getElem? (i := 760) (by decide +kernel))) rfl), (bTB_in (List.mem_append_right _ (List.mem_of_getElem? (i := 759) (by decide +kernel))) rfl), (bTB_in (List.mem_append_right _ (List.mem_of_getElem? (i := 21) (by decide +kernel))) rfl)⟩
theorem bp_m100 : (Int8.ofInt (-100)).toInt32 = (-100 : Int32) := by decide
theorem bp_m2 : (Int8.ofInt (-2)).toInt32 = (-2 : Int32) := by decide
theorem bp_6 : (Int8.ofInt 6).toInt32 = (6 : Int32) := by decide
theorem bp_7 : (Int8.ofInt 7).toInt32 = (7 : Int32) := by decide
theorem bp_8 : (Int8.ofInt 8).toInt32 = (8 : Int32) := by decide
theorem bp_9 : (Int8.ofInt 9).toInt32 = (9 : Int32) := by decide
theorem bp_10 : (Int8.ofInt 10).toInt32 = (10 : Int32) := by decide
theorem bp_11 : (Int8.ofInt 11).toInt32 = (11 : Int32) := by decide
theorem bp_12 : (Int8.ofInt 12).toInt32 = (12 : Int32) := by decide
theorem bp_13 : (Int8.ofInt 13).toInt32 = (13 : Int32) := by decide
theorem bp_14 : (Int8.ofInt 14).toInt32 = (14 : Int32) := by decide
theorem bp_15 : (Int8.ofInt 15).toInt32 = (15 : Int32) := by decide
theorem bp_16 : (Int8.ofInt 16).toInt32 = (16 : Int32) := by decide
theorem bp_20 : (Int8.ofInt 20).toInt32 = (20 : Int32) := by decide
theorem bp_24 : (Int8.ofInt 24).toInt32 = (24 : Int32) := by decide
theorem bp_30 : (Int8.ofInt 30).toInt32 = (30 : Int32) := by decide
theorem bp_32 : (Int8.ofInt 32).toInt32 = (32 : Int32) := by decide
theorem bp_35 : (Int8.ofInt 35).toInt32 = (35 : Int32) := by decide
theorem bp_48 : (Int8.ofInt 48).toInt32 = (48 : Int32) := by decide
theorem bp_57 : (Int8.ofInt 57).toInt32 = (57 : Int32) := by decide
theorem bp_59 : (Int8.ofInt 59).toInt32 = (59 : Int32) := by decide
theorem bp_60 : (Int8.ofInt 60).toInt32 = (60 : Int32) := by decide
theorem bp_63 : (Int8.ofInt 63).toInt32 = (63 : Int32) := by decide
theorem bp_70 : (Int8.ofInt 70).toInt32 = (70 : Int32) := by decide
theorem bp_74 : (Int8.ofInt 74).toInt32 = (74 : Int32) := by decide
theorem bp_75 : (Int8.ofInt 75).toInt32 = (75 : Int32) := by decide
theorem bp_77 : (Int8.ofInt 77).toInt32 = (77 : Int32) := by decide
theorem bp_90 : (Int8.ofInt 90).toInt32 = (90 : Int32) := by decide
theorem bp_96 : (Int8.ofInt 96).toInt32 = (96 : Int32) := by decide
theorem bp_97 : (Int8.ofInt 97).toInt32 = (97 : Int32) := by decide
theorem bp_99 : (Int8.ofInt 99).toInt32 = (99 : Int32) := by decide
theorem bp_100 : (Int8.ofInt 100).toInt32 = (100 : Int32) := by decide
theorem bp_122 : (Int8.ofInt 122).toInt32 = (122 : Int32) := by decide
theorem bp_126 : (Int8.ofInt 126).toInt32 = (126 : Int32) := by decide
theorem ic_m8 : Int32.ofInt (-8) = (-8 : Int32) := by decide
theorem ic_m1 : Int32.ofInt (-1) = (-1 : Int32) := by decide
theorem ic_0 : Int32.ofInt 0 = (0 : Int32) := by decide
theorem ic_1 : Int32.ofInt 1 = (1 : Int32) := by decide
theorem ic_2 : Int32.ofInt 2 = (2 : Int32) := by decide
theorem ic_3 : Int32.ofInt 3 = (3 : Int32) := by decide
theorem ic_4 : Int32.ofInt 4 = (4 : Int32) := by decide
theorem ic_5 : Int32.ofInt 5 = (5 : Int32) := by decide
theorem ic_8 : Int32.ofInt 8 = (8 : Int32) := by decide
theorem ic_16 : Int32.ofInt 16 = (16 : Int32) := by decide
theorem sp_m1000 : (Int16.ofInt (-1000)).toInt32 = (-1000 : Int32) := by decide
theorem sp_200 : (Int16.ofInt 200).toInt32 = (200 : Int32) := by decide
theorem sp_226 : (Int16.ofInt 226).toInt32 = (226 : Int32) := by decide
theorem sp_240 : (Int16.ofInt 240).toInt32 = (240 : Int32) := by decide
theorem sp_255 : (Int16.ofInt 255).toInt32 = (255 : Int32) := by decide
theorem sp_256 : (Int16.ofInt 256).toInt32 = (256 : Int32) := by decide
theorem sp_289 : (Int16.ofInt 289).toInt32 = (289 : Int32) := by decide
theorem sp_302 : (Int16.ofInt 302).toInt32 = (302 : Int32) := by decide
theorem sp_406 : (Int16.ofInt 406).toInt32 = (406 : Int32) := by decide
theorem sp_980 : (Int16.ofInt 980).toInt32 = (980 : Int32) := by decide
theorem sp_999 : (Int16.ofInt 999).toInt32 = (999 : Int32) := by decide
theorem sp_1000 : (Int16.ofInt 1000).toInt32 = (1000 : Int32) := by decide
theorem tn_0 : ¬ (0 : Int32) < 0 ∧ (0 : Int32).toNatClampNeg = 0 := by decide
theorem tn_1 : ¬ (1 : Int32) < 0 ∧ (1 : Int32).toNatClampNeg = 1 := by decide
theorem tn_2 : ¬ (2 : Int32) < 0 ∧ (2 : Int32).toNatClampNeg = 2 := by decide
theorem tn_3 : ¬ (3 : Int32) < 0 ∧ (3 : Int32).toNatClampNeg = 3 := by decide
theorem tn_4 : ¬ (4 : Int32) < 0 ∧ (4 : Int32).toNatClampNeg = 4 := by decide
theorem tn_5 : ¬ (5 : Int32) < 0 ∧ (5 : Int32).toNatClampNeg = 5 := by decide
theorem tn_6 : ¬ (6 : Int32) < 0 ∧ (6 : Int32).toNatClampNeg = 6 := by decide
theorem tn_7 : ¬ (7 : Int32) < 0 ∧ (7 : Int32).toNatClampNeg = 7 := by decide
theorem tn_8 : ¬ (8 : Int32) < 0 ∧ (8 : Int32).toNatClampNeg = 8 := by decide
theorem tn_9 : ¬ (9 : Int32) < 0 ∧ (9 : Int32).toNatClampNeg = 9 := by decide
theorem tn_10 : ¬ (10 : Int32) < 0 ∧ (10 : Int32).toNatClampNeg = 10 := by decide
theorem tn_14 : ¬ (14 : Int32) < 0 ∧ (14 : Int32).toNatClampNeg = 14 := by decide
theorem tn_15 : ¬ (15 : Int32) < 0 ∧ (15 : Int32).toNatClampNeg = 15 := by decide
