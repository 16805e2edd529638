/-! ===== who is content (own work) ===== -/
theorem s_has3 {c : Nat} {n : Nat} {σ : bSto} (h : σ.1 c 5 = nI n) (hn : n ≤ 6) (x : Int32) : f_X3_has c x σ = some (b2 (decide (∃ j, j < n ∧ x = nI j)), σ) := by
  rw [f_X3_has, h, f_X3_has_J16]
  rcases pk_ix x (n := n) (by omega) with hx | hx | ⟨j, hj, rfl⟩
  · rw [if_pos hx, decide_eq_false]
    · rfl
    · rintro ⟨j, hj, rfl⟩
      exact nI_pos (by omega) hx
  · by_cases h0 : x < 0
    · rw [if_pos h0, decide_eq_false]
      · rfl
      · rintro ⟨j, hj, rfl⟩
        exact nI_pos (by omega) h0
    · rw [if_neg h0, if_pos hx, decide_eq_false]
      · rfl
      · rintro ⟨j, hj, rfl⟩
        exact nI_ge hj (by omega) hx
  · rw [if_neg (nI_pos (by omega)), if_neg (nI_ge hj (by omega)), decide_eq_true]
    · rfl
    · exact ⟨j, hj, rfl⟩
theorem s_has2 {c : Nat} {n : Nat} {σ : bSto} (h : σ.1 c 7 = nI n) (hn : n ≤ 7) (x : Int32) : f_X2_has c x σ = some (b2 (decide (∃ j, j < n ∧ x = nI j)), σ) := by
  rw [f_X2_has, h, f_X2_has_J16]
  rcases pk_ix x (n := n) (by omega) with hx | hx | ⟨j, hj, rfl⟩
  · rw [if_pos hx, decide_eq_false]
    · rfl
    · rintro ⟨j, hj, rfl⟩
      exact nI_pos (by omega) hx
  · by_cases h0 : x < 0
    · rw [if_pos h0, decide_eq_false]
      · rfl
      · rintro ⟨j, hj, rfl⟩
        exact nI_pos (by omega) h0
    · rw [if_neg h0, if_pos hx, decide_eq_false]
      · rfl
      · rintro ⟨j, hj, rfl⟩
        exact nI_ge hj (by omega) hx
  · rw [if_neg (nI_pos (by omega)), if_neg (nI_ge hj (by omega)), decide_eq_true]
    · rfl
    · exact ⟨j, hj, rfl⟩
/-- people of kind k -/
def kmk (v : Nat → Nat) (k : Nat) : Nat := msk (fun p => v (35 + 4 * p) == k) (v 4)
theorem kmk_lt {v : Nat → Nat} (w : WF v) (k : Nat) : kmk v k < 128 := Nat.lt_of_lt_of_le (msk_lt _ _) (Nat.pow_le_pow_right (by decide) w.2.2.2.2.1)
theorem s_ofKind {c : Nat} {v : Nat → Nat} {σ : bSto} (w : WF v) (hf : CVf c v σ) {k : Nat} (hk : k < 4) : f_X2_ofKind (c + 7) (nI k) σ = some (nI (kmk v k), σ) := by
  obtain ⟨hn, -, -, hff⟩ := hf
  obtain ⟨-, -, -, -, hp7, -, -, -, -, -, -, hpp, -⟩ := w
  have h : f_X2_ofKind_L4 bFU (c + 7) (nI k) (nI 0) (nI 0) σ = some (itr (fun p acc => if v (35 + 4 * p) == k then acc ||| ((1 : Int32) <<< (nI p &&& 31)) else acc) (v 4) 0 (nI 0), σ) := by
    refine lp_all (fun n i acc => f_X2_ofKind_L4 n (c + 7) (nI k) acc (nI i) σ) (v 4) (by omega) (fun acc => some (acc, σ)) _ (nI 0) ?_ ?_
    · intro n s
      show f_X2_ofKind_L4 (n + 1) (c + 7) (nI k) s (nI (v 4)) σ = _
      rw [f_X2_ofKind_L4, hn, if_pos (Int32.le_refl _)]
    · intro n i s hi
      have h1 := (hff i hi).1
      have h2 := (hpp i hi).1
      show f_X2_ofKind_L4 (n + 1) (c + 7) (nI k) s (nI i) σ = _
      rw [f_X2_ofKind_L4, hn]
      simp (disch := omega) only [q_lit, q_lt0, q_ge0, q_le, q_lt, q_eq, q_cl, q_add, q_mul, q_div, q_rem, blet, h1, if_false, false_or]
      rw [if_neg (by omega), if_neg (by omega)]
      by_cases e : v (35 + 4 * i) = k
      · simp only [e, beq_self_eq_true, if_true]
      · simp only [e, beq_iff_eq, if_false]
  show bl1 (f_X2_ofKind_L4 bFU (c + 7) (nI k) (nI 0) (nI 0) σ) _ = _
  rw [h, bl1, itr_msk (fun p => v (35 + 4 * p) == k) _ (v 4) (by omega) (fun p m _ => rfl)]
  rfl
theorem tb_msk (c : Nat → Bool) : ∀ n q, (msk c n).testBit q = (decide (q < n) && c q)
  | 0, q => by simp [msk]
  | n + 1, q => by
    have ih := tb_msk c n q
    have hl := msk_lt c (n + 1)
    rcases Nat.lt_trichotomy q n with h | h | h
    · rw [msk, show decide (q < n + 1) = true from decide_eq_true (by omega)]
      rw [show decide (q < n) = true from decide_eq_true h] at ih
      by_cases hc : c n = true
      · rw [if_pos hc, Nat.add_comm, Nat.testBit_two_pow_add_gt h, ih]
      · rw [if_neg hc, Nat.add_zero, ih]
    · subst h
      rw [msk, show decide (q < q + 1) = true from decide_eq_true (by omega)]
      rw [show decide (q < q) = false from decide_eq_false (by omega)] at ih
      by_cases hc : c q = true
      · rw [if_pos hc, Nat.add_comm, Nat.testBit_two_pow_add_eq, ih, hc]; rfl
      · rw [if_neg hc, Nat.add_zero, ih]
        simp at hc
        simp [hc]
    · rw [show decide (q < n + 1) = false from decide_eq_false (by omega), Nat.testBit_lt_two_pow (Nat.lt_of_lt_of_le hl (Nat.pow_le_pow_right (by decide) (by omega)))]
      rfl
theorem and_nI (a b : Nat) : nI a &&& nI b = nI (a &&& b) := by
  apply Int32.toBitVec_inj.mp
  show BitVec.ofNat 32 a &&& BitVec.ofNat 32 b = BitVec.ofNat 32 (a &&& b)
  exact (BitVec.ofNat_and).symm
theorem or_nI (a b : Nat) : nI a ||| nI b = nI (a ||| b) := by
  apply Int32.toBitVec_inj.mp
  show BitVec.ofNat 32 a ||| BitVec.ofNat 32 b = BitVec.ofNat 32 (a ||| b)
  exact (BitVec.ofNat_or).symm
theorem nat_zero_iff (a : Nat) : a = 0 ↔ ∀ q, a.testBit q = false := by
  constructor
  · rintro rfl q; simp
  · intro h
    apply Nat.eq_of_testBit_eq
    intro i
    rw [h i]; simp
def allB (c : Nat → Bool) : Nat → Nat → Bool
  | 0, _ => true
  | n + 1, i => c i && allB c n (i + 1)
theorem allB_iff (c : Nat → Bool) : ∀ n i, allB c n i = true ↔ ∀ q, i ≤ q → q < i + n → c q = true
  | 0, i => by
    rw [allB]
    exact ⟨fun _ q h1 h2 => by omega, fun _ => rfl⟩
  | n + 1, i => by
    rw [allB, Bool.and_eq_true, allB_iff c n (i + 1)]
    constructor
    · rintro ⟨h0, h⟩ q h1 h2
      by_cases e : q = i
      · rw [e]; exact h0
      · exact h q (by omega) (by omega)
    · intro h
      exact ⟨h i (Nat.le_refl _) (by omega), fun q h1 h2 => h q (by omega) (by omega)⟩
theorem itr_and (c : Nat → Bool) : ∀ n i (a : Bool), itr (fun q acc => acc && c q) n i a = (a && allB c n i)
  | 0, i, a => by simp [itr, allB]
  | n + 1, i, a => by rw [itr, itr_and c n (i + 1) (a && c i), Bool.and_assoc, allB]
/-- one of kinds 0 and 1 sits with p -/
def gent (v : Nat → Nat) (seat : Nat → Nat) (b : Nat) : Prop := ∃ q, q < v 4 ∧ seat q = b + 1 ∧ (v (35 + 4 * q) = 0 ∨ v (35 + 4 * q) = 1)
def cnt (v seat : Nat → Nat) (p H : Nat) : Bool := decide (seat p ≠ 0 ∧ v (36 + 4 * p) ≤ htv v (seat p - 1) H ∧ (v (35 + 4 * p) = 2 → ∀ q, q < v 4 → seat q = seat p → v (35 + 4 * q) ≠ 0 ∧ v (35 + 4 * q) ≠ 1))
theorem gents {v : Nat → Nat} (w : WF v) (seat : Nat → Nat) (b : Nat) : (smk seat b &&& (kmk v 1 ||| kmk v 0) = 0) ↔ ∀ q, q < v 4 → seat q = b + 1 → v (35 + 4 * q) ≠ 0 ∧ v (35 + 4 * q) ≠ 1 := by
  have hp7 : v 4 ≤ 7 := w.2.2.2.2.1
  rw [nat_zero_iff]
  constructor
  · intro h q hq hs
    have := h q
    rw [Nat.testBit_and, Nat.testBit_or, smk, kmk, kmk, tb_msk, tb_msk, tb_msk] at this
    simp only [hs, hq, show q < 7 by omega, decide_true, beq_self_eq_true, Bool.true_and, Bool.or_eq_false_iff, beq_eq_false_iff_ne] at this
    exact ⟨this.2, this.1⟩
  · intro h q
    rw [Nat.testBit_and, Nat.testBit_or, smk, kmk, kmk, tb_msk, tb_msk, tb_msk]
    by_cases hq : q < v 4
    · by_cases hs : seat q = b + 1
      · have := h q hq hs
        simp [this.1, this.2]
      · simp [hs]
    · simp [hq]
theorem s_gentlemen {c : Nat} {v : Nat → Nat} {σ : bSto} (w : WF v) (hf : CVf c v σ) : f_X2_gentlemen (c + 7) σ = some (nI (kmk v 1 ||| kmk v 0), σ) := by
  rw [f_X2_gentlemen, show (1 : Int32) = nI 1 from rfl, show (0 : Int32) = nI 0 from rfl, s_ofKind w hf (by decide)]
  simp only [bbd]
  rw [s_ofKind w hf (by decide)]
  simp only [or_nI]
theorem s_isContent {c n : Nat} {v seat : Nat → Nat} {σ : bSto} (w : WF v) (hh : CVh c v σ) (hf : CVf c v σ) (hC : CN n seat σ) (hs : ∀ p, seat p ≤ v 3) {p H : Nat} (hp : p < v 4) (hH : H ≤ 60) : f_X7_isContent c n (nI p) (nI H) σ = some (b2 (cnt v seat p H), σ) := by
  have hp7 : v 4 ≤ 7 := w.2.2.2.2.1
  have hb6 : v 3 ≤ 6 := w.2.2.2.1.2
  obtain ⟨hk, hcold, -⟩ := w.2.2.2.2.2.2.2.2.2.2.2.1 p hp
  obtain ⟨-, -, -, hff⟩ := id hf
  obtain ⟨f1, f2, -⟩ := hff p hp
  have hsp := hs p
  rw [f_X7_isContent]
  simp (disch := omega) only [q_lit, q_lt0, q_ge0, q_le, q_lt, q_eq, q_cl, q_add, q_mul, q_div, q_rem, blet, if_false, false_or]
  rw [if_neg (by omega), hC p (by omega), s_has3 hh.1 hb6]
  simp only [bbd]
  by_cases e : seat p = 0
  · have hd : decide (∃ j, j < v 3 ∧ sv (seat p) = nI j) = false := by
      apply decide_eq_false
      rintro ⟨j, hj, hjj⟩
      rw [sv_eq (by omega) (by omega)] at hjj
      omega
    have hc : cnt v seat p H = false := by
      apply decide_eq_false
      rintro ⟨h1, -⟩
      exact h1 e
    rw [hd, hc]
    rfl
  · have hsv : sv (seat p) = nI (seat p - 1) := by rw [sv, if_neg e]
    have hd : decide (∃ j, j < v 3 ∧ sv (seat p) = nI j) = true := decide_eq_true ⟨seat p - 1, by omega, hsv⟩
    rw [hd, if_neg (by decide), hsv, s_heatAlone w hh (by omega) hH]
    simp only [bbd]
    have hlt := htv_lt (v := v) (b := seat p - 1) hH
    rw [f2, f1]
    simp (disch := omega) only [q_lit, q_lt0, q_ge0, q_le, q_lt, q_eq, q_cl, q_add, q_mul, q_div, q_rem]
    rw [if_neg (by omega)]
    by_cases h1 : v (36 + 4 * p) ≤ htv v (seat p - 1) H
    · rw [if_pos h1, if_neg (by omega)]
      by_cases h2 : v (35 + 4 * p) = 2
      · rw [if_pos h2, s_sitters hC (fun q => by have := hs q; omega) (by omega)]
        simp only
        rw [s_gentlemen w hf]
        simp only [and_nI]
        have hlm : smk seat (seat p - 1) &&& (kmk v 1 ||| kmk v 0) < 2 ^ 31 := Nat.lt_of_le_of_lt Nat.and_le_left (Nat.lt_trans (smk_lt _ _) (by decide))
        simp only [q_eq hlm (show (0 : Nat) < 2 ^ 31 by decide)]
        have hg := gents w seat (seat p - 1)
        by_cases h3 : smk seat (seat p - 1) &&& (kmk v 1 ||| kmk v 0) = 0
        · rw [if_pos h3, show cnt v seat p H = true from decide_eq_true ⟨e, h1, fun _ q hq hqs => hg.mp h3 q hq (by omega)⟩]
          rfl
        · rw [if_neg h3, show cnt v seat p H = false from decide_eq_false (fun z => h3 (hg.mpr (fun q hq hqs => z.2.2 h2 q hq (by omega))))]
          rfl
      · rw [if_neg h2, show cnt v seat p H = true from decide_eq_true ⟨e, h1, fun z => absurd z h2⟩]
        rfl
    · rw [if_neg h1, show cnt v seat p H = false from decide_eq_false (fun z => h1 z.2.1)]
      rfl
theorem s_isContentM {a : Nat} {v seat : Nat → Nat} {σ : bSto} (w : WF v) (hv : MV v σ) (hC : MN a seat σ) (hl : 7 ≤ bln a) (hs : ∀ p, seat p ≤ v 3) {p H : Nat} (hp : p < v 4) (hH : H ≤ 60) : f_X12_isContent a (nI p) (nI H) σ = some (b2 (cnt v seat p H), σ) := by
  have hp7 : v 4 ≤ 7 := w.2.2.2.2.1
  have hb6 : v 3 ≤ 6 := w.2.2.2.1.2
  obtain ⟨hk, hcold, -⟩ := w.2.2.2.2.2.2.2.2.2.2.2.1 p hp
  have hsp := hs p
  rw [f_X12_isContent]
  simp (disch := omega) only [q_lit, q_lt0, q_ge0, q_le, q_lt, q_eq, q_cl, q_add, q_mul, q_div, q_rem, blet, if_false, false_or]
  rw [if_neg (by omega), hC p (by omega)]
  by_cases e : seat p = 0
  · rw [e, if_pos (by decide), show cnt v seat p H = false from decide_eq_false (fun z => z.1 e)]
    rfl
  · obtain ⟨b, hb⟩ : ∃ b, seat p = b + 1 := ⟨seat p - 1, by omega⟩
    have hcn : cnt v seat p H = decide (v (36 + 4 * p) ≤ htv v b H ∧ (v (35 + 4 * p) = 2 → ∀ q, q < v 4 → seat q = b + 1 → v (35 + 4 * q) ≠ 0 ∧ v (35 + 4 * q) ≠ 1)) := by
      unfold cnt
      simp [hb]
    rw [hcn, hb, q_sub (by omega), Nat.add_sub_cancel]
    simp (disch := omega) only [q_lit, q_lt0, q_ge0, q_le, q_lt, q_eq, q_cl, q_add, q_mul, q_div, q_rem]
    rw [if_neg (by omega), s_heatBy w hv (by omega) hH]
    simp only [bbd]
    rw [s_coldOf hv (by omega)]
    simp only
    have hlt := htv_lt (v := v) (b := b) hH
    simp (disch := omega) only [q_lit, q_lt0, q_ge0, q_le, q_lt, q_eq, q_cl, q_add, q_mul, q_div, q_rem]
    by_cases h1 : v (36 + 4 * p) ≤ htv v b H
    · rw [if_pos h1]
      have hloop : f_X12_isContent_L35 bFU a (nI p) (nI b) (nI 1) (nI 0) σ = some (b2 (itr (fun q acc => acc && !(v (35 + 4 * p) == 2 && seat q == b + 1 && (v (35 + 4 * q) == 1 || v (35 + 4 * q) == 0))) (v 4) 0 true), σ) := by
        refine lp_all (fun n i acc => f_X12_isContent_L35 n a (nI p) (nI b) (b2 acc) (nI i) σ) (v 4) (by omega) (fun acc => some (b2 acc, σ)) _ true ?_ ?_
        · intro n s
          show f_X12_isContent_L35 (n + 1) a (nI p) (nI b) (b2 s) (nI (v 4)) σ = _
          rw [f_X12_isContent_L35, hv.at 4 (by decide) (by decide), if_pos (Int32.le_refl _)]
        · intro n i s hi
          show f_X12_isContent_L35 (n + 1) a (nI p) (nI b) (b2 s) (nI i) σ = _
          have hsi := hs i
          obtain ⟨hki, -⟩ := w.2.2.2.2.2.2.2.2.2.2.2.1 i hi
          rw [f_X12_isContent_L35, hv.at 4 (by decide) (by decide), s_kindOf hv (by omega)]
          simp only [bbd, blet, s_kindOf hv (show i < 7 by omega), f_X12_isContent_J94_35]
          simp (disch := omega) only [q_lit, q_lt0, q_ge0, q_le, q_lt, q_eq, q_cl, q_add, q_mul, q_div, q_rem, b2_0n, hC i (by omega), if_false, false_or]
          rw [if_neg (by omega)]
          cases s with
          | false => rfl
          | true =>
            rw [if_neg (by decide)]
            by_cases g1 : v (35 + 4 * p) = 2
            · rw [if_pos g1, if_neg (by omega)]
              by_cases g2 : seat i = b + 1
              · by_cases g3 : v (35 + 4 * i) = 1
                · simp [g1, g2, g3, b2, q_lit]
                · by_cases g4 : v (35 + 4 * i) = 0
                  · simp [g1, g2, g4, b2, q_lit]
                  · simp [g1, g2, g3, g4, b2, q_lit]
              · simp [g1, g2, b2, q_lit]
            · simp [g1, b2, q_lit]
      rw [hloop, itr_and, Bool.true_and]
      simp only [bl1, b2_z, b2_zn, if_true]
      have hX : allB (fun q => !(v (35 + 4 * p) == 2 && seat q == b + 1 && (v (35 + 4 * q) == 1 || v (35 + 4 * q) == 0))) (v 4) 0 = decide (v (36 + 4 * p) ≤ htv v b H ∧ (v (35 + 4 * p) = 2 → ∀ q, q < v 4 → seat q = b + 1 → v (35 + 4 * q) ≠ 0 ∧ v (35 + 4 * q) ≠ 1)) := by
        rw [Bool.eq_iff_iff, allB_iff, decide_eq_true_iff]
        constructor
        · intro z
          refine ⟨h1, fun g1 q hq hqs => ?_⟩
          have := z q (Nat.zero_le _) (by omega)
          simp [g1, hqs] at this
          exact ⟨this.2, this.1⟩
        · rintro ⟨-, z⟩ q - hq
          by_cases g1 : v (35 + 4 * p) = 2
          · by_cases g2 : seat q = b + 1
            · have := z g1 q (by omega) g2
              simp [g1, g2, this.1, this.2]
            · simp [g2]
          · simp [g1]
      rw [hX]
    · rw [if_neg h1, decide_eq_false (fun z => h1 z.1)]
      rfl
