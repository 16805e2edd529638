/-! ===== words and names (own work) ===== -/
/-- the token from k on is word w -/
def isW (tx : Nat → Nat) (n k w : Nat) : Bool := (tkT tx n k == 1) && ((tkN tx n k == blen w) && allB (fun j => decide (nI (tkL tx n k j) = bchr w j)) (blen w) 0)
def bch (w j : Nat) : Nat := (bchr w j).toNatClampNeg
theorem bch_all : ∀ w : Fin 29, blen w.val ≤ 8 ∧ ∀ j : Fin 8, j.val < blen w.val → 97 ≤ bch w.val j.val ∧ bch w.val j.val ≤ 122 ∧ bchr w.val j.val = nI (bch w.val j.val) := by decide +kernel
theorem blen8 {w : Nat} (hw : w < 29) : blen w ≤ 8 := (bch_all ⟨w, hw⟩).1
theorem bch_ok {w j : Nat} (hw : w < 29) (hj : j < blen w) : 97 ≤ bch w j ∧ bch w j ≤ 122 ∧ bchr w j = nI (bch w j) := by
  have h8 := blen8 hw
  exact (bch_all ⟨w, hw⟩).2 ⟨j, by omega⟩ hj
theorem c_isL {tx : Nat → Nat} {n k w : Nat} {σ : bSto} (h : CT tx n k σ) (hw : w < 29) (hT : tkT tx n k = 1) (hN : tkN tx n k = blen w) : ∀ d j g, j + d = blen w → d < g → f_X8_is_L28 g w (nI j) σ = some (if allB (fun j => decide (nI (tkL tx n k j) = bchr w j)) d j = true then .inr σ else .inl (nI 0, σ)) := by
  have h8 := blen8 hw
  obtain ⟨⟨⟨hn, hx⟩, hb, he⟩, hk, h3, h4, h5, -, -⟩ := h
  obtain ⟨-, hl⟩ := tk_1 tx hT
  obtain ⟨b1, b2', b3⟩ := tk_b tx hk
  intro d
  induction d with
  | zero =>
    intro j g hj hg
    obtain ⟨g, rfl⟩ : ∃ g', g = g' + 1 := ⟨g - 1, by omega⟩
    rw [f_X8_is_L28]
    simp (disch := omega) only [q_lit, q_lt0, q_ge0, q_le, q_lt, q_eq, q_cl, q_add, q_mul, q_div, q_rem]
    rw [if_pos (by omega), allB, if_pos rfl]
  | succ d ih =>
    intro j g hj hg
    obtain ⟨g, rfl⟩ : ∃ g', g = g' + 1 := ⟨g - 1, by omega⟩
    have hjj : tkA tx n k + j < tkE tx n k := by unfold tkN at hN; omega
    have hlj := hl j (by omega)
    have hxx : tx (tkA tx n k + j) = tkL tx n k j := rfl
    rw [f_X8_is_L28, h5]
    simp (disch := omega) only [q_lit, q_lt0, q_ge0, q_le, q_lt, q_eq, q_cl, q_add, q_mul, q_div, q_rem, if_false, false_or]
    rw [if_neg (by omega), if_neg (by omega), if_neg (by omega), hb _ (by omega), hxx, sb_lo (by omega), allB]
    by_cases e : nI (tkL tx n k j) = bchr w j
    · rw [if_pos e, decide_eq_true e, Bool.true_and]
      simp only [blet]
      exact ih (j + 1) g (by omega) (by omega)
    · rw [if_neg e, decide_eq_false e, Bool.false_and, if_neg (by decide)]
theorem c_is {tx : Nat → Nat} {n k w : Nat} {σ : bSto} (h : CT tx n k σ) (hw : w < 29) : f_X8_is w σ = some (b2 (isW tx n k w), σ) := by
  have h8 := blen8 hw
  have hn := h.1.1.1
  obtain ⟨b1, b2', b3⟩ := tk_b tx h.2.1
  have hT5 : tkT tx n k < 5 := by unfold tkT; (repeat' split) <;> decide
  rw [f_X8_is, h.2.2.2.1, h.2.2.1, h.2.2.2.2.1, q_sub b2', isW]
  simp (disch := omega) only [q_lit, q_lt0, q_ge0, q_le, q_lt, q_eq, q_cl, q_add, q_mul, q_div, q_rem]
  by_cases hT : tkT tx n k = 1
  · rw [if_pos hT, hT]
    by_cases hN : tkE tx n k - tkA tx n k = blen w
    · rw [if_pos hN, c_isL h hw hT hN (blen w) 0 bFU (by omega) (by show _ < 100000; omega), show tkN tx n k = blen w from hN]
      simp only [beq_self_eq_true, Bool.true_and]
      cases allB (fun j => decide (nI (tkL tx n k j) = bchr w j)) (blen w) 0 <;> rfl
    · rw [if_neg hN, show (tkN tx n k == blen w) = false from by simp only [beq_eq_false_iff_ne]; exact hN]
      simp only [Bool.false_and, Bool.and_false]; rfl
  · rw [if_neg hT, show (tkT tx n k == 1) = false by simp [hT]]
    simp only [Bool.false_and]; rfl
theorem m_isL {tx : Nat → Nat} {n k w : Nat} {μ : bSto} (h : MT tx n k μ) (hw : w < 29) (hT : tkT tx n k = 1) (hN : tkN tx n k = blen w) : ∀ d j g s, j + d = blen w → d < g → f_X12_isWord_L32 g w (b2 s) (nI j) μ = some (b2 (s && allB (fun j => decide (nI (tkL tx n k j) = bchr w j)) d j), μ) := by
  have h8 := blen8 hw
  obtain ⟨-, -, -, -, -, -, h6⟩ := h
  obtain ⟨e8, e94⟩ := h6 hT
  intro d
  induction d with
  | zero =>
    intro j g s hj hg
    obtain ⟨g, rfl⟩ : ∃ g', g = g' + 1 := ⟨g - 1, by omega⟩
    rw [f_X12_isWord_L32, e8, hN]
    simp (disch := omega) only [q_lit, q_lt0, q_ge0, q_le, q_lt, q_eq, q_cl, q_add, q_mul, q_div, q_rem]
    rw [if_pos (by omega), allB, Bool.and_true]
  | succ d ih =>
    intro j g s hj hg
    obtain ⟨g, rfl⟩ : ∃ g', g = g' + 1 := ⟨g - 1, by omega⟩
    rw [f_X12_isWord_L32, e8, hN]
    simp (disch := omega) only [q_lit, q_lt0, q_ge0, q_le, q_lt, q_eq, q_cl, q_add, q_mul, q_div, q_rem, if_false, false_or]
    rw [if_neg (by omega), allB]
    cases s with
    | false =>
      rw [if_pos (show b2 false = nI 0 from rfl), f_X12_isWord_J62_32]
      simp only [blet]
      rw [nI_1, show (0 : Int32) = b2 false from rfl, ih (j + 1) g false (by omega) (by omega), Bool.false_and, Bool.false_and]
    | true =>
      rw [if_neg (show ¬ b2 true = nI 0 by decide), if_neg (by omega), if_neg (by omega), e94 j (by omega)]
      by_cases e : nI (tkL tx n k j) = bchr w j
      · rw [if_pos e, decide_eq_true e, Bool.true_and, Bool.true_and]
        simp only [blet]
        rw [show (nI 1 : Int32) = b2 true from rfl, ih (j + 1) g true (by omega) (by omega), Bool.true_and]
      · rw [if_neg e, decide_eq_false e, Bool.false_and, Bool.true_and, f_X12_isWord_J62_32]
        simp only [blet]
        rw [nI_1, show (0 : Int32) = b2 false from rfl, ih (j + 1) g false (by omega) (by omega), Bool.false_and]
theorem mtk_2 {t : Nat} : (mtk t = 2) = (t = 1) := by
  unfold mtk
  (repeat' split) <;> simp <;> omega
theorem mtk_3 {t : Nat} : (mtk t = 3) = (t = 2) := by
  unfold mtk
  (repeat' split) <;> simp <;> omega
theorem mtk_lt (t : Nat) : mtk t < 60 := by
  unfold mtk
  (repeat' split) <;> omega
theorem m_isWord {tx : Nat → Nat} {n k w : Nat} {μ : bSto} (h : MT tx n k μ) (hg : μ.1 92 13 = nI 0) (hw : w < 29) : f_X12_isWord w μ = some (b2 (isW tx n k w), μ) := by
  have h8 := blen8 hw
  have hn := h.1.1.1
  have hm := mtk_lt (tkT tx n k)
  obtain ⟨b1, b2', b3⟩ := tk_b tx h.2.1
  rw [f_X12_isWord, hg, if_pos (show (nI 0 : Int32) = 0 from rfl), h.2.2.2.1, isW]
  simp (disch := omega) only [q_lit, q_lt0, q_ge0, q_le, q_lt, q_eq, q_cl, q_add, q_mul, q_div, q_rem, mtk_2]
  by_cases hT : tkT tx n k = 1
  · have h1 := tk_1 tx hT
    rw [if_pos hT, hT, (h.2.2.2.2.2.2 hT).1]
    simp (disch := omega) only [q_lit, q_lt0, q_ge0, q_le, q_lt, q_eq, q_cl, q_add, q_mul, q_div, q_rem]
    by_cases hN : tkN tx n k = blen w
    · rw [if_pos hN, show (nI 1 : Int32) = b2 true from rfl, m_isL h hw hT hN (blen w) 0 bFU true (by omega) (by show _ < 100000; omega), hN]
      simp only [beq_self_eq_true, Bool.true_and, bl1]
      rw [if_pos (by cases allB (fun j => decide (nI (tkL tx n k j) = bchr w j)) (blen w) 0 <;> decide)]
    · rw [if_neg hN, show (tkN tx n k == blen w) = false from by simp only [beq_eq_false_iff_ne]; exact hN]
      simp only [Bool.false_and, Bool.and_false]; rfl
  · rw [if_neg hT, show (tkT tx n k == 1) = false by simp [hT]]
    simp only [Bool.false_and]; rfl
theorem m_isWord_f {w : Nat} {μ : bSto} (hg : μ.1 92 13 = nI 1) : f_X12_isWord w μ = some ((0 : Int32), μ) := by
  rw [f_X12_isWord, hg, if_neg (by decide)]
/-- a word's number -/
def kcd (w : Nat) : Nat := wc (bch w) (blen w)
theorem kcd_lt {w : Nat} (hw : w < 29) : kcd w < 2 ^ 63 := wc_small (blen8 hw) (fun j hj => ⟨(bch_ok hw hj).1, (bch_ok hw hj).2.1⟩)
theorem tkW_lt {tx : Nat → Nat} {n k : Nat} (hT : tkT tx n k = 1) : tkW tx n k < 2 ^ 63 := wc_small (tk_1 tx hT).1.2 (tk_1 tx hT).2
theorem isW_code {tx : Nat → Nat} {n k w : Nat} (hT : tkT tx n k = 1) (hw : w < 29) : isW tx n k w = decide (kcd w = tkW tx n k) := by
  have hl := (tk_1 tx hT).2
  have h1 := (tk_1 tx hT).1
  rw [isW, hT]
  simp only [beq_self_eq_true, Bool.true_and]
  by_cases e : kcd w = tkW tx n k
  · obtain ⟨e1, e2⟩ := wc_inj _ _ (fun j hj => ⟨(bch_ok hw hj).1, (bch_ok hw hj).2.1⟩) hl e
    rw [decide_eq_true e, ← e1]
    simp only [beq_self_eq_true, Bool.true_and]
    rw [allB_iff]
    intro q _ hq
    rw [decide_eq_true_eq, ← e2 q (by omega), (bch_ok hw (by omega)).2.2]
  · rw [decide_eq_false e]
    by_cases e1 : tkN tx n k = blen w
    · rw [e1, beq_self_eq_true, Bool.true_and]
      cases hz : allB (fun j => decide (nI (tkL tx n k j) = bchr w j)) (blen w) 0 with
      | false => rfl
      | true =>
        exfalso
        apply e
        rw [kcd, tkW, e1]
        refine (wc_congr _ (fun j hj => ?_)).symm
        have := (allB_iff _ _ _).mp hz j (by omega) (by omega)
        rw [decide_eq_true_eq, (bch_ok hw hj).2.2] at this
        have a1 := hl j (by omega)
        have a2 := bch_ok hw hj
        rwa [q_eq (by omega) (by omega)] at this
    · rw [show (tkN tx n k == blen w) = false by simp only [beq_eq_false_iff_ne]; exact e1, Bool.false_and]
/-- the words that begin lines, and on -/
def kwl (i : Nat) : Nat := ([19, 3, 16, 12, 10, 2, 6, 20, 17, 14] : List Nat).getD i 0
theorem kwl_all : ∀ i : Fin 10, kwl i.val < 29 := by decide +kernel
theorem kwl_lt {i : Nat} (h : i < 10) : kwl i < 29 := kwl_all ⟨i, h⟩
def CK (σ : bSto) : Prop := ∀ i, i < 10 → σ.2.1 4 i = nL (kcd (kwl i))
def kpt (tx : Nat → Nat) (n k : Nat) : Nat := fst1 (fun i => isW tx n k (kwl i)) 10 0
def ixv (m i : Nat) : Int32 := if i < m then nI i else -1
theorem fst1_out {c : Nat → Bool} : ∀ k i, (∀ q, i ≤ q → q < i + k → c q = false) → fst1 c k i = i + k
  | 0, i, _ => rfl
  | k + 1, i, h => by
    rw [fst1, h i (by omega) (by omega), if_neg (by decide), fst1_out k (i + 1) (fun q a b => h q (by omega) (by omega))]
    omega
theorem c_indexL {a L m x : Nat} {nm : Nat → Nat} {σ : bSto} (hL : blnJ a = L) (hL2 : L < 100) (hm : m ≤ L) (h : ∀ i, i < m → σ.2.1 a i = nL (nm i)) (h1 : ∀ i, i < m → nm i < 2 ^ 63) (hx : x < 2 ^ 63) : ∀ d i g, i + d = m → d < g → f_X9_indexOf_L3 g a (nI m) (nL x) (nI i) σ = some (if fst1 (fun i => nm i == x) d i < m then .inl (nI (fst1 (fun i => nm i == x) d i), σ) else .inr σ) := by
  intro d
  induction d with
  | zero =>
    intro i g hi hg
    obtain ⟨g, rfl⟩ : ∃ g', g = g' + 1 := ⟨g - 1, by omega⟩
    rw [f_X9_indexOf_L3, fst1]
    simp (disch := omega) only [q_lit, q_lt0, q_ge0, q_le, q_lt, q_eq, q_cl, q_add, q_mul, q_div, q_rem]
    rw [if_pos (by omega), if_neg (by omega)]
  | succ d ih =>
    intro i g hi hg
    obtain ⟨g, rfl⟩ : ∃ g', g = g' + 1 := ⟨g - 1, by omega⟩
    rw [f_X9_indexOf_L3, fst1, hL, show Int32.ofNat L = nI L from rfl]
    simp (disch := omega) only [q_lit, q_lt0, q_ge0, q_le, q_lt, q_eq, q_cl, q_add, q_mul, q_div, q_rem, if_false, false_or]
    rw [if_neg (by omega), if_neg (by omega), if_neg (by omega), h i (by omega)]
    simp only [lg_nLn (h1 i (by omega)) hx]
    by_cases e : nm i = x
    · have eb : (nm i == x) = true := by simp [e]
      rw [if_pos e]
      simp only [eb, if_true]
      rw [if_pos (by omega)]
    · have eb : (nm i == x) = false := by simp [e]
      rw [if_neg e]
      simp only [eb, Bool.false_eq_true, if_false, blet]
      exact ih (i + 1) g (by omega) (by omega)
theorem c_index {a L m x : Nat} {nm : Nat → Nat} {σ : bSto} (hL : blnJ a = L) (hL2 : L < 100) (hm : m ≤ L) (h : ∀ i, i < m → σ.2.1 a i = nL (nm i)) (h1 : ∀ i, i < m → nm i < 2 ^ 63) (hx : x < 2 ^ 63) : f_X9_indexOf a (nI m) (nL x) σ = some (ixv m (fst1 (fun i => nm i == x) m 0), σ) := by
  rw [f_X9_indexOf, show (0 : Int32) = nI 0 from rfl, c_indexL hL hL2 hm h h1 hx m 0 bFU (by omega) (by show _ < 100000; omega), ixv]
  by_cases g : fst1 (fun i => nm i == x) m 0 < m
  · rw [if_pos g, if_pos g]; rfl
  · rw [if_neg g, if_neg g]; rfl
theorem c_kept {tx : Nat → Nat} {n k : Nat} {σ : bSto} (h : CT tx n k σ) (hK : CK σ) : f_X9_keptWord σ = some (ixv 10 (kpt tx n k), σ) := by
  have hT5 : tkT tx n k < 5 := by unfold tkT; (repeat' split) <;> decide
  rw [f_X9_keptWord, h.2.2.2.1]
  simp (disch := omega) only [q_lit, q_lt0, q_ge0, q_le, q_lt, q_eq, q_cl, q_add, q_mul, q_div, q_rem]
  by_cases hT : tkT tx n k = 1
  · rw [if_pos hT, h.2.2.2.2.2.2 hT, c_index (L := 10) (nm := fun i => kcd (kwl i)) (by decide) (by decide) (by decide) hK (fun i hi => kcd_lt (kwl_lt hi)) (tkW_lt hT)]
    simp only [bbd]
    rw [kpt, fst1_congr (e := fun i => isW tx n k (kwl i)) 10 0 (fun i _ hi => by
      rw [isW_code hT (kwl_lt (by omega))]
      exact (Bool.beq_eq_decide_eq _ _))]
  · rw [if_neg hT, kpt, fst1_out 10 0 (fun i _ hi => by rw [isW, show (tkT tx n k == 1) = false by simp [hT], Bool.false_and])]
    rfl
/-- a name stands here -/
def isN (tx : Nat → Nat) (n k : Nat) : Bool := (tkT tx n k == 1) && (kpt tx n k == 10)
theorem kpt_le (tx : Nat → Nat) (n k : Nat) : kpt tx n k ≤ 10 := (fst1_ge _ 10 0).2
theorem ixv_no {m i : Nat} (hm : m < 1000) : (ixv m i = -1) = ¬ (i < m) := by
  rw [ixv]
  by_cases g : i < m
  · rw [if_pos g]
    refine propext ⟨fun z => ?_, fun z => absurd g z⟩
    have e : (nI i).toInt = (-1 : Int32).toInt := by rw [z]
    rw [nI_toInt (by omega)] at e
    have e2 : (-1 : Int32).toInt = -1 := by decide
    omega
  · rw [if_neg g]; exact propext ⟨fun _ => g, fun _ => rfl⟩
theorem c_isName {tx : Nat → Nat} {n k : Nat} {σ : bSto} (h : CT tx n k σ) (hK : CK σ) : f_X9_isName σ = some (b2 (isN tx n k), σ) := by
  have hT5 : tkT tx n k < 5 := by unfold tkT; (repeat' split) <;> decide
  have h10 := kpt_le tx n k
  rw [f_X9_isName, h.2.2.2.1, c_kept h hK, isN]
  simp only [bbd, f_X9_isName_J23]
  simp only [ixv_no (show 10 < 1000 by decide)]
  simp (disch := omega) only [q_lit, q_lt0, q_ge0, q_le, q_lt, q_eq, q_cl, q_add, q_mul, q_div, q_rem]
  by_cases hT : tkT tx n k = 1
  · rw [if_pos hT, hT]
    by_cases g : kpt tx n k < 10
    · rw [if_neg (by omega), show (kpt tx n k == 10) = false by simp; omega]; rfl
    · rw [if_pos g, show (kpt tx n k == 10) = true by simp; omega]; rfl
  · rw [if_neg hT, show (tkT tx n k == 1) = false by simp [hT]]
    simp only [Bool.false_and]; rfl
