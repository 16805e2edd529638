/-! ===== the start: what is given of the first state (own work, printed by wip/whole/gen/start.py) ===== -/
def bFl : List Cond := flatC (Jvm.Cond.and given_1 narrow_1)
def bIx : List Nat := [252, 258, 144, 136, 268, 272, 146, 264, 270, 239, 142, 250, 140, 266, 152, 246, 138, 150, 260, 134, 148, 259, 241, 237, 235, 262, 248, 284, 229]
def bTm (k : Nat) : Term := .string "BenchColonyModel" (bIx.getD k 0)
/-- the words on a String constant: its class, its letters -/
def bSw (tm : Term) (n : Nat) (bs : List Int32) : List Cond := .exactly tm "java/lang/String" :: .eq (.field tm "java/lang/String" "code\x72" "B") (.int 0) :: .arrayOf (.field tm "java/lang/String" "value" "[B") .byte :: .eq (.length (.field tm "java/lang/String" "value" "[B")) (.int (Int32.ofNat n)) :: (List.range n).map (fun j => .eq (.elem (.field tm "java/lang/String" "value" "[B") (.int (Int32.ofNat j))) (.int (bs.getD j 0)))
theorem str_of {s : State} {args : Array Value} {A : Nat → Prop} {tm : Term} {n : Nat} {bs : List Int32} (hn : n < 2 ^ 31) (h : ∀ w ∈ bSw tm n bs, w.before args s = true) (hA : ∀ a : Nat, a < s.heap.size → ¬ A a) :
    ∃ q : Nat × Nat, tm.eval args s none [] s = some (.ref q.1) ∧ va_O "java/lang/String" q.1 A s s.heap ∧ va_OF "java/lang/String" "code\x72" "B" (.int 0) q.1 A s s.heap ∧ va_OF "java/lang/String" "value" "[B" (.ref q.2) q.1 A s s.heap ∧ va_T .byte q.2 n (fun j => .int (bs.getD j 0)) A s s.heap := by
  have h0 := h _ (List.mem_cons_self)
  have h1 := h _ (List.mem_cons_of_mem _ (List.mem_cons_self))
  have h2 := h _ (List.mem_cons_of_mem _ (List.mem_cons_of_mem _ (List.mem_cons_self)))
  have h3 := h _ (List.mem_cons_of_mem _ (List.mem_cons_of_mem _ (List.mem_cons_of_mem _ (List.mem_cons_self))))
  have h4 : ∀ j : Nat, j < n → (Cond.eq (.elem (.field tm "java/lang/String" "value" "[B") (.int (Int32.ofNat j))) (.int (bs.getD j 0))).before args s = true := fun j hj => h _ (List.mem_cons_of_mem _ (List.mem_cons_of_mem _ (List.mem_cons_of_mem _ (List.mem_cons_of_mem _ (List.mem_map.mpr ⟨j, List.mem_range.mpr hj, rfl⟩)))))
  obtain ⟨a, c, cA, kA, q1, q2, q3, q4, q5, q6, -⟩ := Cond.exactly_spec (args := args) (first := s) (o := none) (s := s) (idx := []) (t := tm) (cls := "java/lang/String") h0
  obtain ⟨t, ht, hT⟩ := va_Tof (f := fun j => .int (bs.getD j 0)) (A := A) hn h2 (va_eqt h3) (fun j hj => va_eqt (h4 j hj)) hA
  exact ⟨(a, t), q1, va_Oof h0 q1 hA, vk_OFof q1 (va_eqt h1) hA, vk_OFof q1 ht hA, hT⟩
theorem sw_0 : ∀ w ∈ bSw (bTm 0) (blen 0) (bbyt.getD 0 []), w ∈ bFl := bmem [450, 451, 452, 453] (by decide +kernel)
theorem sw_1 : ∀ w ∈ bSw (bTm 1) (blen 1) (bbyt.getD 1 []), w ∈ bFl := bmem [454, 455, 456, 457, 458, 459] (by decide +kernel)
theorem sw_2 : ∀ w ∈ bSw (bTm 2) (blen 2) (bbyt.getD 2 []), w ∈ bFl := bmem [368, 369, 370, 371, 372, 373, 374, 375, 376, 377, 378, 379] (by decide +kernel)
theorem sw_3 : ∀ w ∈ bSw (bTm 3) (blen 3) (bbyt.getD 3 []), w ∈ bFl := bmem [329, 330, 331, 332, 333, 334, 335, 336, 337] (by decide +kernel)
theorem sw_4 : ∀ w ∈ bSw (bTm 4) (blen 4) (bbyt.getD 4 []), w ∈ bFl := bmem [509, 510, 511, 512, 513, 514, 515, 516, 517] (by decide +kernel)
theorem sw_5 : ∀ w ∈ bSw (bTm 5) (blen 5) (bbyt.getD 5 []), w ∈ bFl := bmem [527, 528, 529, 530, 531, 532, 533, 534] (by decide +kernel)
theorem sw_6 : ∀ w ∈ bSw (bTm 6) (blen 6) (bbyt.getD 6 []), w ∈ bFl := bmem [381, 382, 383, 384, 385, 386, 387, 388, 389, 390] (by decide +kernel)
theorem sw_7 : ∀ w ∈ bSw (bTm 7) (blen 7) (bbyt.getD 7 []), w ∈ bFl := bmem [490, 491, 492, 493, 494, 495, 496, 497, 498] (by decide +kernel)
theorem sw_8 : ∀ w ∈ bSw (bTm 8) (blen 8) (bbyt.getD 8 []), w ∈ bFl := bmem [519, 520, 521, 522, 523, 524, 525] (by decide +kernel)
theorem sw_9 : ∀ w ∈ bSw (bTm 9) (blen 9) (bbyt.getD 9 []), w ∈ bFl := bmem [310, 311, 312, 313, 314, 315, 316, 317] (by decide +kernel)
theorem sw_10 : ∀ w ∈ bSw (bTm 10) (blen 10) (bbyt.getD 10 []), w ∈ bFl := bmem [358, 359, 360, 361, 362, 363, 364, 365, 366] (by decide +kernel)
theorem sw_11 : ∀ w ∈ bSw (bTm 11) (blen 11) (bbyt.getD 11 []), w ∈ bFl := bmem [439, 440, 441, 442, 443, 444, 445, 446, 447, 448] (by decide +kernel)
theorem sw_12 : ∀ w ∈ bSw (bTm 12) (blen 12) (bbyt.getD 12 []), w ∈ bFl := bmem [350, 351, 352, 353, 354, 355, 356] (by decide +kernel)
theorem sw_13 : ∀ w ∈ bSw (bTm 13) (blen 13) (bbyt.getD 13 []), w ∈ bFl := bmem [500, 501, 502, 503, 504, 505, 506, 507] (by decide +kernel)
theorem sw_14 : ∀ w ∈ bSw (bTm 14) (blen 14) (bbyt.getD 14 []), w ∈ bFl := bmem [413, 414, 415, 416, 417, 418] (by decide +kernel)
theorem sw_15 : ∀ w ∈ bSw (bTm 15) (blen 15) (bbyt.getD 15 []), w ∈ bFl := bmem [420, 421, 422, 423, 424, 425, 426, 427] (by decide +kernel)
theorem sw_16 : ∀ w ∈ bSw (bTm 16) (blen 16) (bbyt.getD 16 []), w ∈ bFl := bmem [339, 340, 341, 342, 343, 344, 345, 346, 347, 348] (by decide +kernel)
theorem sw_17 : ∀ w ∈ bSw (bTm 17) (blen 17) (bbyt.getD 17 []), w ∈ bFl := bmem [403, 404, 405, 406, 407, 408, 409, 410, 411] (by decide +kernel)
theorem sw_18 : ∀ w ∈ bSw (bTm 18) (blen 18) (bbyt.getD 18 []), w ∈ bFl := bmem [471, 472, 473, 474, 475, 476, 477, 478] (by decide +kernel)
theorem sw_19 : ∀ w ∈ bSw (bTm 19) (blen 19) (bbyt.getD 19 []), w ∈ bFl := bmem [273, 274, 275, 276, 277, 278, 279, 280] (by decide +kernel)
theorem sw_20 : ∀ w ∈ bSw (bTm 20) (blen 20) (bbyt.getD 20 []), w ∈ bFl := bmem [392, 393, 394, 395, 396, 397, 398, 399, 400, 401] (by decide +kernel)
theorem sw_21 : ∀ w ∈ bSw (bTm 21) (blen 21) (bbyt.getD 21 []), w ∈ bFl := bmem [461, 462, 463, 464, 465, 466, 467, 468, 469] (by decide +kernel)
theorem sw_22 : ∀ w ∈ bSw (bTm 22) (blen 22) (bbyt.getD 22 []), w ∈ bFl := bmem [319, 320, 321, 322, 323, 324, 325, 326, 327] (by decide +kernel)
theorem sw_23 : ∀ w ∈ bSw (bTm 23) (blen 23) (bbyt.getD 23 []), w ∈ bFl := bmem [300, 301, 302, 303, 304, 305, 306, 307, 308] (by decide +kernel)
theorem sw_24 : ∀ w ∈ bSw (bTm 24) (blen 24) (bbyt.getD 24 []), w ∈ bFl := bmem [291, 292, 293, 294, 295, 296, 297, 298] (by decide +kernel)
theorem sw_25 : ∀ w ∈ bSw (bTm 25) (blen 25) (bbyt.getD 25 []), w ∈ bFl := bmem [480, 481, 482, 483, 484, 485, 486, 487, 488] (by decide +kernel)
theorem sw_26 : ∀ w ∈ bSw (bTm 26) (blen 26) (bbyt.getD 26 []), w ∈ bFl := bmem [429, 430, 431, 432, 433, 434, 435, 436, 437] (by decide +kernel)
theorem sw_27 : ∀ w ∈ bSw (bTm 27) (blen 27) (bbyt.getD 27 []), w ∈ bFl := bmem [536, 537, 538, 539, 540, 541, 542, 543, 544, 545] (by decide +kernel)
theorem sw_28 : ∀ w ∈ bSw (bTm 28) (blen 28) (bbyt.getD 28 []), w ∈ bFl := bmem [282, 283, 284, 285, 286, 287, 288, 289] (by decide +kernel)
theorem sw_all (k : Nat) (hk : k < bnS) : ∀ w ∈ bSw (bTm k) (blen k) (bbyt.getD k []), w ∈ bFl := match k, hk with
  | 0, _ => sw_0
  | 1, _ => sw_1
  | 2, _ => sw_2
  | 3, _ => sw_3
  | 4, _ => sw_4
  | 5, _ => sw_5
  | 6, _ => sw_6
  | 7, _ => sw_7
  | 8, _ => sw_8
  | 9, _ => sw_9
  | 10, _ => sw_10
  | 11, _ => sw_11
  | 12, _ => sw_12
  | 13, _ => sw_13
  | 14, _ => sw_14
  | 15, _ => sw_15
  | 16, _ => sw_16
  | 17, _ => sw_17
  | 18, _ => sw_18
  | 19, _ => sw_19
  | 20, _ => sw_20
  | 21, _ => sw_21
  | 22, _ => sw_22
  | 23, _ => sw_23
  | 24, _ => sw_24
  | 25, _ => sw_25
  | 26, _ => sw_26
  | 27, _ => sw_27
  | 28, _ => sw_28
  | k + 29, h => absurd h (by unfold bnS; omega)
theorem sw_len (k : Nat) (hk : k < bnS) : blen k < 2 ^ 31 := match k, hk with
  | 0, _ => by decide
  | 1, _ => by decide
  | 2, _ => by decide
  | 3, _ => by decide
  | 4, _ => by decide
  | 5, _ => by decide
  | 6, _ => by decide
  | 7, _ => by decide
  | 8, _ => by decide
  | 9, _ => by decide
  | 10, _ => by decide
  | 11, _ => by decide
  | 12, _ => by decide
  | 13, _ => by decide
  | 14, _ => by decide
  | 15, _ => by decide
  | 16, _ => by decide
  | 17, _ => by decide
  | 18, _ => by decide
  | 19, _ => by decide
  | 20, _ => by decide
  | 21, _ => by decide
  | 22, _ => by decide
  | 23, _ => by decide
  | 24, _ => by decide
  | 25, _ => by decide
  | 26, _ => by decide
  | 27, _ => by decide
  | 28, _ => by decide
  | k + 29, h => absurd h (by unfold bnS; omega)
theorem sw_eq : ∀ w ∈ (bstr.take 28).map (fun q => Cond.eq (.string q.1 q.2.1) (bTm q.2.2.2)), w ∈ bFl := bmem [290, 299, 309, 318, 328, 460, 470, 479, 526, 535, 546, 428, 438, 449, 489, 499, 508, 518, 281, 338, 349, 357, 367, 380, 391, 402, 412, 419] (by decide +kernel)
theorem sw_mod : ∀ q ∈ bstr.drop 28, Term.string q.1 q.2.1 = bTm q.2.2.2 := by decide +kernel
theorem sw_lt : ∀ q ∈ bstr, q.2.2.2 < bnS := by decide +kernel
theorem sw_ref : ∀ w ∈ bstr.map (fun q => Cond.stringRef q.1 q.2.1 q.2.2.1), w ∈ tables_1 := bmem [607, 620, 621, 622, 623, 643, 652, 653, 666, 671, 720, 640, 641, 642, 662, 663, 664, 665, 302, 355, 356, 357, 358, 359, 360, 361, 362, 363, 1483, 1523, 1540, 1541, 1542, 1543, 1544, 1545, 1546, 1547, 1498, 1519, 1520, 1521, 1522, 1552, 1553, 1554, 1555, 1560, 1561, 1562, 1567, 1568, 1569, 1570, 1571, 1572, 1599] (by decide +kernel)
theorem wl_sk : Cond.laysStatic "BenchColony" "SORTS_FOR_KIND" "[I" ∈ tables_1 := (List.mem_of_getElem? (i := 681) (by decide +kernel))
theorem wl_so : Cond.laysStatic "jdk/internal/util/Preconditions" "SIOOBE_FORMATTER" "Ljava/util/function/BiFunction;" ∈ tables_1 := (List.mem_of_getElem? (i := 332) (by decide +kernel))
theorem wl_sc : Cond.laysStatic "java/lang/String" "COMPACT_STRINGS" "Z" ∈ tables_1 := (List.mem_of_getElem? (i := 315) (by decide +kernel))
theorem wl_tu : Cond.laysStatic "java/lang/Throwable" "UNASSIGNED_STACK" "[Ljava/lang/StackTraceElement;" ∈ tables_1 := (List.mem_of_getElem? (i := 1293) (by decide +kernel))
theorem wl_ts : Cond.laysStatic "java/lang/Throwable" "SUPPRESSED_SENTINEL" "Ljava/util/List;" ∈ tables_1 := (List.mem_of_getElem? (i := 1295) (by decide +kernel))
theorem wi_bc : Cond.initialized "BenchColony" ∈ tables_1 := (List.mem_of_getElem? (i := 1) (by decide +kernel))
theorem wi_pc : Cond.initialized "jdk/internal/util/Preconditions" ∈ tables_1 := (List.mem_of_getElem? (i := 11) (by decide +kernel))
theorem wi_st : Cond.initialized "java/lang/String" ∈ tables_1 := (List.mem_of_getElem? (i := 9) (by decide +kernel))
theorem wi_th : Cond.initialized "java/lang/Throwable" ∈ tables_1 := (List.mem_of_getElem? (i := 22) (by decide +kernel))
theorem wn_so : Cond.isRef (.static "jdk/internal/util/Preconditions" "SIOOBE_FORMATTER" "Ljava/util/function/BiFunction;") ∈ bFl := (List.mem_of_getElem? (i := 5) (by decide +kernel))
theorem wn_tu : Cond.isRef (.static "java/lang/Throwable" "UNASSIGNED_STACK" "[Ljava/lang/StackTraceElement;") ∈ bFl := (List.mem_of_getElem? (i := 16) (by decide +kernel))
theorem wn_ts : Cond.isRef (.static "java/lang/Throwable" "SUPPRESSED_SENTINEL" "Ljava/util/List;") ∈ bFl := (List.mem_of_getElem? (i := 17) (by decide +kernel))
theorem wn_sc : Cond.eq (.static "java/lang/String" "COMPACT_STRINGS" "Z") (.int 1) ∈ bFl := (List.mem_of_getElem? (i := 4) (by decide +kernel))
theorem wn_ka : Cond.arrayOf (.static "BenchColony" "SORTS_FOR_KIND" "[I") .int ∈ bFl := (List.mem_of_getElem? (i := 10) (by decide +kernel))
theorem wn_kl : Cond.eq (.length (.static "BenchColony" "SORTS_FOR_KIND" "[I")) (.int (Int32.ofNat 4)) ∈ bFl := (List.mem_of_getElem? (i := 11) (by decide +kernel))
theorem wn_ke : ∀ w ∈ (List.range 4).map (fun j => Cond.eq (.elem (.static "BenchColony" "SORTS_FOR_KIND" "[I") (.int (Int32.ofNat j))) (.int (([1, 3, 5, 7] : List Int32).getD j 0))), w ∈ bFl := bmem [12, 13, 14, 15] (by decide +kernel)
theorem wI_0 : Cond.instantiable RX0 2 ∈ tables_1 := (List.mem_of_getElem? (i := 450) (by decide +kernel))
theorem wI_1 : Cond.instantiable RX1 2 ∈ tables_1 := (List.mem_of_getElem? (i := 464) (by decide +kernel))
theorem wI_2 : Cond.instantiable RX2 10 ∈ tables_1 := (List.mem_of_getElem? (i := 154) (by decide +kernel))
theorem wI_3 : Cond.instantiable RX3 11 ∈ tables_1 := (List.mem_of_getElem? (i := 84) (by decide +kernel))
theorem wI_4 : Cond.instantiable RX4 4 ∈ tables_1 := (List.mem_of_getElem? (i := 247) (by decide +kernel))
theorem wI_5 : Cond.instantiable RX5 7 ∈ tables_1 := (List.mem_of_getElem? (i := 422) (by decide +kernel))
theorem wI_6 : Cond.instantiable RX6 5 ∈ tables_1 := (List.mem_of_getElem? (i := 396) (by decide +kernel))
theorem wI_7 : Cond.instantiable RX7 5 ∈ tables_1 := (List.mem_of_getElem? (i := 78) (by decide +kernel))
theorem wI_8 : Cond.instantiable RX8 8 ∈ tables_1 := (List.mem_of_getElem? (i := 41) (by decide +kernel))
theorem wI_9 : Cond.instantiable RX9 8 ∈ tables_1 := (List.mem_of_getElem? (i := 35) (by decide +kernel))
theorem wI_10 : Cond.instantiable RX10 7 ∈ tables_1 := (List.mem_of_getElem? (i := 213) (by decide +kernel))
theorem wI_11 : Cond.instantiable RX11 11 ∈ tables_1 := (List.mem_of_getElem? (i := 27) (by decide +kernel))
theorem wI_12 : Cond.instantiable RX12 36 ∈ tables_1 := (List.mem_of_getElem? (i := 1328) (by decide +kernel))
theorem start_cls {s : State} {b : Nat} (hts : ∀ w ∈ lw_tbl, w.before #[Value.ref b] s = true) (k : Nat) : ∃ q : ClassId × (Nat → Nat), ∀ r : vw_C, bcl[k]? = some r → u_Kn s r.1 r.2.1 r.2.2 q.1 q.2 := by
  have ht : ∀ w ∈ bTB, w.before #[Value.ref b] s = true := fun w hw => hts w (List.mem_filter.mp hw).1
  have hi : ∀ w ∈ tables_1, w.before #[Value.ref b] s = true := fun w hw => hts w (List.mem_append_right _ hw)
  match k with
  | 0 =>
    obtain ⟨cC, iS, h⟩ := u_known (C := RX0) (T := TX0) (N := 2) (n := 2) ht inX0 (hi _ wI_0)
    exact ⟨(cC, iS), fun r hr => by cases hr; exact h⟩
  | 1 =>
    obtain ⟨cC, iS, h⟩ := u_known (C := RX1) (T := TX1) (N := 2) (n := 2) ht inX1 (hi _ wI_1)
    exact ⟨(cC, iS), fun r hr => by cases hr; exact h⟩
  | 2 =>
    obtain ⟨cC, iS, h⟩ := u_known (C := RX2) (T := TX2) (N := 10) (n := 10) ht inX2 (hi _ wI_2)
    exact ⟨(cC, iS), fun r hr => by cases hr; exact h⟩
  | 3 =>
    obtain ⟨cC, iS, h⟩ := u_known (C := RX3) (T := TX3) (N := 11) (n := 11) ht inX3 (hi _ wI_3)
    exact ⟨(cC, iS), fun r hr => by cases hr; exact h⟩
  | 4 =>
    obtain ⟨cC, iS, h⟩ := u_known (C := RX4) (T := TX4) (N := 4) (n := 4) ht inX4 (hi _ wI_4)
    exact ⟨(cC, iS), fun r hr => by cases hr; exact h⟩
  | 5 =>
    obtain ⟨cC, iS, h⟩ := u_known (C := RX5) (T := TX5) (N := 7) (n := 7) ht inX5 (hi _ wI_5)
    exact ⟨(cC, iS), fun r hr => by cases hr; exact h⟩
  | 6 =>
    obtain ⟨cC, iS, h⟩ := u_known (C := RX6) (T := TX6) (N := 5) (n := 5) ht inX6 (hi _ wI_6)
    exact ⟨(cC, iS), fun r hr => by cases hr; exact h⟩
  | 7 =>
    obtain ⟨cC, iS, h⟩ := u_known (C := RX7) (T := TX7) (N := 5) (n := 5) ht inX7 (hi _ wI_7)
    exact ⟨(cC, iS), fun r hr => by cases hr; exact h⟩
  | 8 =>
    obtain ⟨cC, iS, h⟩ := u_known (C := RX8) (T := TX8) (N := 8) (n := 8) ht inX8 (hi _ wI_8)
    exact ⟨(cC, iS), fun r hr => by cases hr; exact h⟩
  | 9 =>
    obtain ⟨cC, iS, h⟩ := u_known (C := RX9) (T := TX9) (N := 8) (n := 8) ht inX9 (hi _ wI_9)
    exact ⟨(cC, iS), fun r hr => by cases hr; exact h⟩
  | 10 =>
    obtain ⟨cC, iS, h⟩ := u_known (C := RX10) (T := TX10) (N := 7) (n := 7) ht inX10 (hi _ wI_10)
    exact ⟨(cC, iS), fun r hr => by cases hr; exact h⟩
  | 11 =>
    obtain ⟨cC, iS, h⟩ := u_known (C := RX11) (T := TX11) (N := 11) (n := 11) ht inX11 (hi _ wI_11)
    exact ⟨(cC, iS), fun r hr => by cases hr; exact h⟩
  | 12 =>
    obtain ⟨cC, iS, h⟩ := u_known (C := RX12) (T := TX12) (N := 36) (n := 36) ht inX12 (hi _ wI_12)
    exact ⟨(cC, iS), fun r hr => by cases hr; exact h⟩
  | k + 13 => exact ⟨(0, fun _ => 0), fun r hr => by simp [bcl] at hr⟩
theorem w_over : Cond.arrayOver (.array .int) ∈ tables_1 := (List.mem_of_getElem? (i := 402) (by decide +kernel))
theorem over_spec {args : Array Value} {s : State} (h : (Cond.arrayOver (.array .int)).before args s = true) : ∃ comp c k, s.vm.findClass (FieldType.array .int).toString = some comp ∧ s.vm.classes[c]? = some k ∧ k.kind = .array comp (.array .int) ∧ s.vm.findClass ("[" ++ (FieldType.array .int).toString) = some c := by
  simp only [Cond.before, Cond.holds, Cond.value, beq_iff_eq, Option.bind_eq_some_iff, Option.map_eq_some_iff] at h
  obtain ⟨comp, hc, c, hi, k, hk, hb⟩ := h
  have hp := (Array.findIdx?_eq_some_iff_getElem.mp hi).choose_spec.1
  rw [(Array.getElem?_eq_some_iff.mp hk).2] at hp
  cases hkind : k.kind with
  | array component ty =>
    rw [hkind] at hb hp
    simp at hb hp
    exact ⟨comp, c, k, hc, hk, by rw [hkind, hp, hb.1], hb.2⟩
  | _ => rw [hkind] at hb; simp at hb
theorem arr_K {s : State} {c : ClassId} {ty : FieldType} {k : Class} {comp : ClassId} (h2 : s.vm.classes[c]? = some k) (h3 : k.kind = .array comp ty) : ArrOfT s c ty := fun _ _ => ⟨(fun q hq => by cases hq), k, h2, comp, h3⟩
/-- the classes and array classes, by numbers -/
theorem start_K {s : State} {b : Nat} (hts : ∀ w ∈ lw_tbl, w.before #[Value.ref b] s = true) : ∃ G : bG, va_K G.1 bcl (btys G) s ∧ ∃ k : Class, s.vm.classes[G.2 4]? = some k ∧ k.kind = .array (G.2 0) (.array .int) := by
  obtain ⟨d, hd⟩ := Classical.axiomOfChoice (start_cls hts)
  have ht : ∀ w ∈ bTB, w.before #[Value.ref b] s = true := fun w hw => hts w (List.mem_filter.mp hw).1
  obtain ⟨c0, k0, m0, a0, b0, e0⟩ := Cond.arrayClass_spec (ht _ wac_0)
  obtain ⟨c1, k1, m1, a1, b1, e1⟩ := Cond.arrayClass_spec (ht _ wac_1)
  obtain ⟨c2, k2, m2, a2, b2, e2⟩ := Cond.arrayClass_spec (ht _ wac_2)
  obtain ⟨c3, k3, m3, a3, b3, e3⟩ := Cond.arrayClass_spec (ht _ wac_3)
  obtain ⟨m4, c4, k4, f4, b4, e4, a4⟩ := over_spec (hts _ (List.mem_append_right _ w_over))
  have e04 : m4 = c0 := Option.some.inj (f4.symm.trans a0)
  subst e04
  refine ⟨((fun k => (d k).1, fun k => (d k).2), fun k => match k with | 0 => m4 | 1 => c1 | 2 => c2 | 3 => c3 | _ => c4), ⟨fun c q hq => hd c q hq, fun k q hq => ?_⟩, k4, b4, e4⟩
  match k, hq with
  | 0, hq => cases hq; exact ⟨arr_K b0 e0, a0⟩
  | 1, hq => cases hq; exact ⟨arr_K b1 e1, a1⟩
  | 2, hq => cases hq; exact ⟨arr_K b2 e2, a2⟩
  | 3, hq => cases hq; exact ⟨arr_K b3 e3, a3⟩
  | 4, hq => cases hq; exact ⟨arr_K b4 e4, a4⟩
  | k + 5, hq => simp [btys] at hq
theorem eq_ref {args : Array Value} {s : State} {t u : Term} {a : Nat} (h : (Cond.eq t u).before args s = true) (hu : u.eval args s none [] s = some (.ref a)) : t.eval args s none [] s = some (.ref a) := by
  cases hv : t.eval args s none [] s with
  | none => simp [Cond.before, Cond.holds, Cond.value, hv] at h
  | some w =>
    simp only [Cond.before, Cond.holds, Cond.value, hv, hu] at h
    cases w <;> simp_all
/-- the world's places that stand before the law begins -/
theorem start_ρ {s : State} {b : Nat} (hts : ∀ w ∈ lw_tbl, w.before #[Value.ref b] s = true) (hgv : (Jvm.Cond.and given_1 narrow_1).before #[Value.ref b] s = true) : ∃ ρ : Nat → Nat, bSR ρ s ∧ bSS ρ (fun q => s.heap.size ≤ q) s s.heap ∧ va_Z "BenchColony" "SORTS_FOR_KIND" "[I" (.ref (ρ 3000)) (fun q => s.heap.size ≤ q) s s.heap ∧ va_T .int (ρ 3000) 4 (fun j => .int (([1, 3, 5, 7] : List Int32).getD j 0)) (fun q => s.heap.size ≤ q) s s.heap ∧
    va_Z "java/lang/String" "COMPACT_STRINGS" "Z" (.int 1) (fun q => s.heap.size ≤ q) s s.heap ∧ (va_Z "jdk/internal/util/Preconditions" "SIOOBE_FORMATTER" "Ljava/util/function/BiFunction;" .null (fun q => s.heap.size ≤ q) s s.heap ∨ va_Z "jdk/internal/util/Preconditions" "SIOOBE_FORMATTER" "Ljava/util/function/BiFunction;" (.ref (ρ 4000)) (fun q => s.heap.size ≤ q) s s.heap) := by
  have hA : ∀ a : Nat, a < s.heap.size → ¬ (fun q : Nat => s.heap.size ≤ q) a := fun a h => Nat.not_le.mpr h
  have hs : ∀ w ∈ bFl, w.before #[Value.ref b] s = true := flat_of_before _ hgv
  have hi : ∀ w ∈ tables_1, w.before #[Value.ref b] s = true := fun w hw => hts w (List.mem_append_right _ hw)
  have h0 : ∀ k : Nat, ∃ q : Nat × Nat, k < bnS → (bTm k).eval #[Value.ref b] s none [] s = some (.ref q.1) ∧ va_O "java/lang/String" q.1 (fun q => s.heap.size ≤ q) s s.heap ∧ va_OF "java/lang/String" "code\x72" "B" (.int 0) q.1 (fun q => s.heap.size ≤ q) s s.heap ∧ va_OF "java/lang/String" "value" "[B" (.ref q.2) q.1 (fun q => s.heap.size ≤ q) s s.heap ∧ va_T .byte q.2 (blen k) (fun j => .int (bchr k j)) (fun q => s.heap.size ≤ q) s s.heap := by
    intro k
    by_cases hk : k < bnS
    · obtain ⟨q, hq⟩ := str_of (A := fun q => s.heap.size ≤ q) (tm := bTm k) (n := blen k) (bs := bbyt.getD k []) (sw_len k hk) (fun w hw => hs w (sw_all k hk w hw)) hA
      exact ⟨q, fun _ => hq⟩
    · exact ⟨(0, 0), fun h => absurd h hk⟩
  obtain ⟨ad, had⟩ := Classical.axiomOfChoice h0
  obtain ⟨tK, htK, hTK⟩ := va_Tof (N := 4) (f := fun j => .int (([1, 3, 5, 7] : List Int32).getD j 0)) (A := fun q => s.heap.size ≤ q) (by decide) (hs _ wn_ka) (va_eqt (hs _ wn_kl)) (fun j hj => va_eqt (hs _ (wn_ke _ (List.mem_map.mpr ⟨j, List.mem_range.mpr hj, rfl⟩)))) hA
  have hZK := va_Zref (A := fun q => s.heap.size ≤ q) (hi _ wl_sk) (hi _ wi_bc) htK hA
  have hZC := va_Zof (A := fun q => s.heap.size ≤ q) (hi _ wl_sc) (hi _ wi_st) (va_eqi (hs _ wn_sc)) hA
  obtain ⟨tF, hF⟩ : ∃ tF : Nat, va_Z "jdk/internal/util/Preconditions" "SIOOBE_FORMATTER" "Ljava/util/function/BiFunction;" .null (fun q => s.heap.size ≤ q) s s.heap ∨ va_Z "jdk/internal/util/Preconditions" "SIOOBE_FORMATTER" "Ljava/util/function/BiFunction;" (.ref tF) (fun q => s.heap.size ≤ q) s s.heap := by
    rcases va_Zqof (A := fun q => s.heap.size ≤ q) (hi _ wl_so) (hi _ wi_pc) (hs _ wn_so) hA with h | ⟨t, h⟩
    · exact ⟨0, Or.inl h⟩
    · exact ⟨t, Or.inr h⟩
  refine ⟨fun i => if i = 3000 then tK else if i = 4000 then tF else if i < 2000 then (ad (i - 1000)).1 else (ad (i - 2000)).2, ?_, ?_, ?_, ?_, hZC, ?_⟩
  · intro q hq
    have hk := sw_lt q hq
    have hk' : q.2.2.2 < 29 := hk
    have e : (if 1000 + q.2.2.2 = 3000 then tK else if 1000 + q.2.2.2 = 4000 then tF else if 1000 + q.2.2.2 < 2000 then (ad (1000 + q.2.2.2 - 1000)).1 else (ad (1000 + q.2.2.2 - 2000)).2) = (ad q.2.2.2).1 := by
      rw [if_neg (by omega), if_neg (by omega), if_pos (by omega), Nat.add_sub_cancel_left]
    show vk_R q.1 q.2.1 q.2.2.1 (if 1000 + q.2.2.2 = 3000 then tK else if 1000 + q.2.2.2 = 4000 then tF else if 1000 + q.2.2.2 < 2000 then (ad (1000 + q.2.2.2 - 1000)).1 else (ad (1000 + q.2.2.2 - 2000)).2) s
    rw [e]
    refine vk_R.of (A := #[Value.ref b]) (hi _ (sw_ref _ (List.mem_map.mpr ⟨q, hq, rfl⟩))) ?_
    rw [← List.take_append_drop 28 bstr] at hq
    rcases List.mem_append.mp hq with h | h
    · exact eq_ref (hs _ (sw_eq _ (List.mem_map.mpr ⟨q, h, rfl⟩))) (had _ hk).1
    · rw [sw_mod q h]
      exact (had _ hk).1
  · intro k hk
    have hk' : k < 29 := hk
    have e1 : (if 1000 + k = 3000 then tK else if 1000 + k = 4000 then tF else if 1000 + k < 2000 then (ad (1000 + k - 1000)).1 else (ad (1000 + k - 2000)).2) = (ad k).1 := by
      rw [if_neg (by omega), if_neg (by omega), if_pos (by omega), Nat.add_sub_cancel_left]
    have e2 : (if 2000 + k = 3000 then tK else if 2000 + k = 4000 then tF else if 2000 + k < 2000 then (ad (2000 + k - 1000)).1 else (ad (2000 + k - 2000)).2) = (ad k).2 := by
      rw [if_neg (by omega), if_neg (by omega), if_neg (by omega), Nat.add_sub_cancel_left]
    dsimp only
    rw [e1, e2]
    exact (had k hk).2
  · exact hZK
  · exact hTK
  · exact hF
theorem nest_in : ∀ w ∈ bNest, w ∈ tables_1 := by decide +kernel
/-- what is given of the first state, with no cells yet -/
theorem start_WX {s : State} {b : Nat} (hts : ∀ w ∈ lw_tbl, w.before #[Value.ref b] s = true) (hgv : (Jvm.Cond.and given_1 narrow_1).before #[Value.ref b] s = true) : ∃ (G : bG) (ρ : Nat → Nat), bWX G [] ρ (fun q => s.heap.size ≤ q) s ∧ ∃ k : Class, s.vm.classes[G.2 4]? = some k ∧ k.kind = .array (G.2 0) (.array .int) := by
  have hA : ∀ a : Nat, a < s.heap.size → ¬ (fun q : Nat => s.heap.size ≤ q) a := fun a h => Nat.not_le.mpr h
  have hs : ∀ w ∈ bFl, w.before #[Value.ref b] s = true := flat_of_before _ hgv
  have hi : ∀ w ∈ tables_1, w.before #[Value.ref b] s = true := fun w hw => hts w (List.mem_append_right _ hw)
  obtain ⟨G, hK, hOv⟩ := start_K hts
  obtain ⟨ρ, h1, h2, h3, h4, h5, h6⟩ := start_ρ hts hgv
  exact ⟨G, ρ, ⟨⟨hK, ⟨fun i j hi => absurd hi (Nat.not_lt_zero i), fun i hi => absurd hi (Nat.not_lt_zero i)⟩, h1, h2, h3, h4, h5, h6, start_N hts (fun w hw => List.mem_append_right _ (nest_in w hw)) bNest_on⟩, start_B hts, vx_Zqof (hi _ wl_tu) (hi _ wi_th) (hs _ wn_tu) hA, vx_Zqof (hi _ wl_ts) (hi _ wi_th) (hs _ wn_ts) hA⟩, hOv⟩
/-- other places below 1000, cells of the world -/
theorem bWC.re {G : bG} {ρ ρ' : Nat → Nat} {A : Nat → Prop} {s : State} {SH : bShp} (h : bWC G [] ρ A s) (he : ∀ i, 1000 ≤ i → ρ' i = ρ i) (hA : bAp A SH ρ') : bWC G SH ρ' A s := by
  obtain ⟨h1, h2, h3, h4, h5, h6, h7, h8, h9⟩ := h
  refine ⟨h1, hA, fun q hq => ?_, fun k hk => ?_, ?_, ?_, h7, ?_, h9⟩
  · rw [he _ (by omega)]; exact h3 q hq
  · rw [he (1000 + k) (by omega), he (2000 + k) (by omega)]; exact h4 k hk
  · rw [he 3000 (by omega)]; exact h5
  · rw [he 3000 (by omega)]; exact h6
  · rw [he 4000 (by omega)]; exact h8
theorem bWX.re {G : bG} {ρ ρ' : Nat → Nat} {A : Nat → Prop} {s : State} {SH : bShp} (h : bWX G [] ρ A s) (he : ∀ i, 1000 ≤ i → ρ' i = ρ i) (hA : bAp A SH ρ') : bWX G SH ρ' A s := ⟨h.1.re he hA, h.2⟩
