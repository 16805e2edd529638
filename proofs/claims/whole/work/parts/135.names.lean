/-! ===== names: new ones, known ones (own work) ===== -/
def nml (u : Nat → Nat) (m : Nat) : Nat → Nat := fun j => u (302 + 8 * m + j)
def nmc (u : Nat → Nat) (m : Nat) : Nat := wc (nml u m) (u (289 + m))
def N1 (u : Nat → Nat) : Prop := ∀ m, m < 13 → u (289 + m) ≤ 8 ∧ ltr (nml u m) (u (289 + m))
def N2 (u : Nat → Nat) : Prop := ∀ m, m < 6 → (u (289 + m) ≠ 0 ↔ m < u 3)
def N3 (u : Nat → Nat) : Prop := ∀ p, p < 7 → (u (295 + p) ≠ 0 ↔ p < u 4)
def N4 (u : Nat → Nat) : Prop := ∀ m m', m < 13 → m' < 13 → u (289 + m) ≠ 0 → nmc u m = nmc u m' → m = m'
def N5 (u : Nat → Nat) (σ : bSto) : Prop := ∀ b, b < u 3 → σ.2.1 5 b = nL (nmc u b)
def N6 (u : Nat → Nat) (σ : bSto) : Prop := ∀ p, p < u 4 → σ.2.1 6 p = nL (nmc u (6 + p))
def M9 (u : Nat → Nat) (μ : bSto) : Prop := ∀ j, 289 ≤ j → j < 406 → μ.1 96 j = nI (u j)
theorem tkW_pos {tx : Nat → Nat} {n k : Nat} (hT : tkT tx n k = 1) : 0 < tkW tx n k := by
  have h := tk_1 tx hT
  obtain ⟨m, hm⟩ : ∃ m, tkN tx n k = m + 1 := ⟨tkN tx n k - 1, by omega⟩
  rw [tkW, hm]
  exact wc_pos (by rw [← hm]; exact h.2)
theorem nmc_lt {u : Nat → Nat} (h : N1 u) {m : Nat} (hm : m < 13) : nmc u m < 2 ^ 63 := wc_small (h m hm).1 (h m hm).2
theorem nmc_0 {u : Nat → Nat} {m : Nat} (h : u (289 + m) = 0) : nmc u m = 0 := by rw [nmc, h]; rfl
theorem m_findL {tx : Nat → Nat} {n k : Nat} {u : Nat → Nat} {μ : bSto} (h : MT tx n k μ) (hT : tkT tx n k = 1) (h1 : N1 u) (h9 : M9 u μ) {m : Nat} (hm : m < 13) : ∀ d j g s, j + d = tkN tx n k → d < g → (s = true → u (289 + m) = tkN tx n k) → f_X12_find_L46 g (nI m) (b2 s) (nI j) μ = some (nI m, b2 (s && allB (fun j => nml u m j == tkL tx n k j) d j), μ) := by
  obtain ⟨-, -, -, -, -, -, h6⟩ := h
  obtain ⟨e8, e94⟩ := h6 hT
  have hl := tk_1 tx hT
  intro d
  induction d with
  | zero =>
    intro j g s hj hg hs
    obtain ⟨g, rfl⟩ : ∃ g', g = g' + 1 := ⟨g - 1, by omega⟩
    rw [f_X12_find_L46, e8]
    simp (disch := omega) only [q_lit, q_lt0, q_ge0, q_le, q_lt, q_eq, q_cl, q_add, q_mul, q_div, q_rem]
    rw [if_pos (by omega), allB, Bool.and_true]
  | succ d ih =>
    intro j g s hj hg hs
    obtain ⟨g, rfl⟩ : ∃ g', g = g' + 1 := ⟨g - 1, by omega⟩
    rw [f_X12_find_L46, e8]
    cases s with
    | false =>
      simp (disch := omega) only [q_lit, q_lt0, q_ge0, q_le, q_lt, q_eq, q_cl, q_add, q_mul, q_div, q_rem]
      rw [if_neg (by omega), if_pos (show b2 false = nI 0 from rfl), Bool.false_and]
    | true =>
      have hs' := hs rfl
      have a1 := (h1 m hm).2 j (by omega)
      have a2 := hl.2 j (by omega)
      have a3 : nml u m j = u (302 + 8 * m + j) := rfl
      simp (disch := omega) only [q_lit, q_lt0, q_ge0, q_le, q_lt, q_eq, q_cl, q_add, q_mul, q_div, q_rem, if_false, false_or]
      rw [if_neg (by omega), if_neg (show ¬ b2 true = nI 0 by decide), if_neg (by omega), if_neg (by omega), h9 _ (by omega) (by omega), e94 j (by omega), allB]
      simp only [q_eq (show u (302 + 8 * m + j) < 2 ^ 31 by omega) (show tkL tx n k j < 2 ^ 31 by omega)]
      by_cases e : u (302 + 8 * m + j) = tkL tx n k j
      · rw [if_pos e, show (nml u m j == tkL tx n k j) = true by rw [a3, e]; exact beq_self_eq_true _, Bool.true_and]
        simp only [blet]
        rw [show (nI 1 : Int32) = b2 true from rfl, ih (j + 1) g true (by omega) (by omega) hs]
      · rw [if_neg e, show (nml u m j == tkL tx n k j) = false by rw [a3]; simp only [beq_eq_false_iff_ne]; exact e, Bool.false_and, Bool.and_false]
        simp only [blet]
        rw [show (nI 0 : Int32) = b2 false from rfl, ih (j + 1) g false (by omega) (by omega) (fun z => by cases z), Bool.false_and]
theorem nm_iff {tx : Nat → Nat} {n k : Nat} {u : Nat → Nat} (hT : tkT tx n k = 1) (h1 : N1 u) {m : Nat} (hm : m < 13) : (decide (u (289 + m) = tkN tx n k) && allB (fun j => nml u m j == tkL tx n k j) (tkN tx n k) 0) = (nmc u m == tkW tx n k) := by
  have hl := tk_1 tx hT
  by_cases e : nmc u m = tkW tx n k
  · obtain ⟨e1, e2⟩ := wc_inj _ _ (h1 m hm).2 hl.2 e
    rw [decide_eq_true e1, Bool.true_and, show (nmc u m == tkW tx n k) = true by rw [e]; exact beq_self_eq_true _, allB_iff]
    intro q _ hq
    rw [e2 q (by omega)]
    exact beq_self_eq_true _
  · rw [show (nmc u m == tkW tx n k) = false by simp only [beq_eq_false_iff_ne]; exact e]
    by_cases e1 : u (289 + m) = tkN tx n k
    · rw [decide_eq_true e1, Bool.true_and]
      cases hz : allB (fun j => nml u m j == tkL tx n k j) (tkN tx n k) 0 with
      | false => rfl
      | true =>
        exfalso
        apply e
        rw [nmc, tkW, e1]
        exact wc_congr _ (fun j hj => by simpa using (allB_iff _ _ _).mp hz j (by omega) (by omega))
    · rw [decide_eq_false e1, Bool.false_and]
theorem m_find2 {tx : Nat → Nat} {n k : Nat} {u : Nat → Nat} {μ : bSto} (h : MT tx n k μ) (hT : tkT tx n k = 1) (h1 : N1 u) (h9 : M9 u μ) : ∀ d m g, m + d = 13 → d < g → f_X12_find_L2 g (nI m) μ = some (if fst1 (fun m => nmc u m == tkW tx n k) d m < 13 then .inl (nI (fst1 (fun m => nmc u m == tkW tx n k) d m), μ) else .inr μ) := by
  have h' := h
  obtain ⟨-, -, -, -, -, -, h6⟩ := h'
  obtain ⟨e8, e94⟩ := h6 hT
  have hl := tk_1 tx hT
  intro d
  induction d with
  | zero =>
    intro m g hj hg
    obtain ⟨g, rfl⟩ : ∃ g', g = g' + 1 := ⟨g - 1, by omega⟩
    rw [f_X12_find_L2, fst1]
    simp (disch := omega) only [q_lit, q_lt0, q_ge0, q_le, q_lt, q_eq, q_cl, q_add, q_mul, q_div, q_rem]
    rw [if_pos (by omega), if_neg (by omega)]
  | succ d ih =>
    intro m g hj hg
    obtain ⟨g, rfl⟩ : ∃ g', g = g' + 1 := ⟨g - 1, by omega⟩
    have hu := (h1 m (by omega)).1
    have hJ : ∀ s, (s = true → u (289 + m) = tkN tx n k) → (s && allB (fun j => nml u m j == tkL tx n k j) (tkN tx n k) 0) = (nmc u m == tkW tx n k) → f_X12_find_J43_2 (f_X12_find_L2 g) (nI m) (b2 s) μ = some (if (if (nmc u m == tkW tx n k) = true then m else fst1 (fun m => nmc u m == tkW tx n k) d (m + 1)) < 13 then .inl (nI (if (nmc u m == tkW tx n k) = true then m else fst1 (fun m => nmc u m == tkW tx n k) d (m + 1)), μ) else .inr μ) := fun s hs hq => by
      rw [f_X12_find_J43_2, show (0 : Int32) = nI 0 from rfl, m_findL h hT h1 h9 (by omega) (tkN tx n k) 0 bFU s (by omega) (by show _ < 100000; omega) hs, hq]
      simp only [bl2, f_X12_find_J94_2]
      cases (nmc u m == tkW tx n k) with
      | true =>
        rw [if_neg (by decide)]
        simp only [if_true]
        rw [if_pos (by omega)]
      | false =>
        rw [if_pos (by decide)]
        simp only [blet]
        rw [nI_1, ih (m + 1) g (by omega) (by omega)]
        simp
    rw [f_X12_find_L2, fst1]
    simp (disch := omega) only [q_lit, q_lt0, q_ge0, q_le, q_lt, q_eq, q_cl, q_add, q_mul, q_div, q_rem, if_false, false_or]
    rw [if_neg (by omega), if_neg (by omega), h9 _ (by omega) (by omega), e8]
    simp (disch := omega) only [q_lit, q_lt0, q_ge0, q_le, q_lt, q_eq, q_cl, q_add, q_mul, q_div, q_rem, f_X12_find_J42_2]
    have hnm := nm_iff (u := u) hT h1 (show m < 13 by omega)
    by_cases z0 : u (289 + m) ≤ 0
    · rw [if_pos z0]
      exact hJ false (fun z => by cases z) (by rw [← hnm, decide_eq_false (by omega), Bool.false_and])
    · rw [if_neg z0]
      rw [if_neg (by omega)]
      by_cases z1 : u (289 + m) = tkN tx n k
      · rw [if_pos z1]
        exact hJ true (fun _ => z1) (by rw [← hnm, decide_eq_true z1])
      · rw [if_neg z1]
        exact hJ false (fun z => by cases z) (by rw [← hnm, decide_eq_false z1, Bool.false_and])
def fnd (u : Nat → Nat) (tx : Nat → Nat) (n k : Nat) : Nat := fst1 (fun m => nmc u m == tkW tx n k) 13 0
theorem m_find {tx : Nat → Nat} {n k : Nat} {u : Nat → Nat} {μ : bSto} (h : MT tx n k μ) (hT : tkT tx n k = 1) (h1 : N1 u) (h9 : M9 u μ) : f_X12_find μ = some (ixv 13 (fnd u tx n k), μ) := by
  rw [f_X12_find, show (0 : Int32) = nI 0 from rfl, m_find2 h hT h1 h9 13 0 bFU (by omega) (by show _ < 100000; omega), ixv, fnd]
  by_cases g : fst1 (fun m => nmc u m == tkW tx n k) 13 0 < 13
  · rw [if_pos g, if_pos g]; rfl
  · rw [if_neg g, if_neg g]; rfl
theorem fst1_hit {c : Nat → Bool} : ∀ k i, fst1 c k i < i + k → c (fst1 c k i) = true
  | 0, i, h => by rw [fst1] at h; omega
  | k + 1, i, h => by
    rw [fst1] at h ⊢
    by_cases e : c i = true
    · rw [if_pos e]; exact e
    · rw [if_neg e] at h ⊢
      exact fst1_hit k (i + 1) (by omega)
theorem fst1_miss {c : Nat → Bool} {q : Nat} : ∀ k i, i ≤ q → q < fst1 c k i → c q = false
  | 0, i, h1, h2 => by rw [fst1] at h2; omega
  | k + 1, i, h1, h2 => by
    rw [fst1] at h2
    by_cases e : c i = true
    · rw [if_pos e] at h2; omega
    · rw [if_neg e] at h2
      by_cases e2 : q = i
      · rw [e2]; simpa using e
      · exact fst1_miss k (i + 1) (by omega) h2
/-- the one that is told under this name -/
theorem fnd_at {u : Nat → Nat} {tx : Nat → Nat} {n k m : Nat} (h4 : N4 u) (hT : tkT tx n k = 1) (hm : m < 13) (e : nmc u m = tkW tx n k) : fnd u tx n k = m := by
  have hp := tkW_pos hT
  have hu : u (289 + m) ≠ 0 := fun z => by rw [nmc_0 z] at e; omega
  have hlt : fnd u tx n k < 0 + 13 := by
    by_cases z : m < fnd u tx n k
    · have := fst1_miss (c := fun m => nmc u m == tkW tx n k) 13 0 (Nat.zero_le m) z
      simp [e] at this
    · omega
  have h := fst1_hit (c := fun m => nmc u m == tkW tx n k) 13 0 hlt
  have h' : nmc u (fnd u tx n k) = tkW tx n k := eq_of_beq h
  exact (h4 m (fnd u tx n k) hm (by omega) hu (e.trans h'.symm)).symm
theorem fnd_hit {u : Nat → Nat} {tx : Nat → Nat} {n k : Nat} (h : fnd u tx n k < 13) : nmc u (fnd u tx n k) = tkW tx n k := by
  have := fst1_hit (c := fun m => nmc u m == tkW tx n k) 13 0 (by show fnd u tx n k < _; omega)
  exact eq_of_beq this
theorem fnd_le (u : Nat → Nat) (tx : Nat → Nat) (n k : Nat) : fnd u tx n k ≤ 13 := (fst1_ge _ 13 0).2
def fnB (u : Nat → Nat) (tx : Nat → Nat) (n k : Nat) : Nat := fst1 (fun b => nmc u b == tkW tx n k) (u 3) 0
def fnP (u : Nat → Nat) (tx : Nat → Nat) (n k : Nat) : Nat := fst1 (fun p => nmc u (6 + p) == tkW tx n k) (u 4) 0
theorem fnB_hit {u : Nat → Nat} {tx : Nat → Nat} {n k : Nat} (h : fnB u tx n k < u 3) : nmc u (fnB u tx n k) = tkW tx n k := by
  have := fst1_hit (c := fun b => nmc u b == tkW tx n k) (u 3) 0 (by show fnB u tx n k < _; omega)
  exact eq_of_beq this
theorem fnP_hit {u : Nat → Nat} {tx : Nat → Nat} {n k : Nat} (h : fnP u tx n k < u 4) : nmc u (6 + fnP u tx n k) = tkW tx n k := by
  have := fst1_hit (c := fun p => nmc u (6 + p) == tkW tx n k) (u 4) 0 (by show fnP u tx n k < _; omega)
  exact eq_of_beq this
/-- found among the benches -/
theorem fnd_B {u : Nat → Nat} {tx : Nat → Nat} {n k : Nat} (h2 : N2 u) (h4 : N4 u) (hT : tkT tx n k = 1) (h3 : u 3 ≤ 6) : (fnB u tx n k < u 3 → fnd u tx n k = fnB u tx n k) ∧ (¬ fnB u tx n k < u 3 → ¬ fnd u tx n k < 6) := by
  have hp := tkW_pos hT
  refine ⟨fun h => fnd_at h4 hT (by omega) (fnB_hit h), fun h z => ?_⟩
  have e := fnd_hit (show fnd u tx n k < 13 by omega)
  have hu : u (289 + fnd u tx n k) ≠ 0 := fun z => by rw [nmc_0 z] at e; omega
  have hlt := (h2 _ z).mp hu
  have hx := (fst1_ge (fun b => nmc u b == tkW tx n k) (u 3) 0).2
  have := fst1_miss (c := fun b => nmc u b == tkW tx n k) (u 3) 0 (Nat.zero_le (fnd u tx n k)) (by show _ < fnB u tx n k; omega)
  simp [e] at this
theorem fnd_P {u : Nat → Nat} {tx : Nat → Nat} {n k : Nat} (h2 : N3 u) (h4 : N4 u) (hT : tkT tx n k = 1) (h3 : u 4 ≤ 7) : (fnP u tx n k < u 4 → fnd u tx n k = 6 + fnP u tx n k) ∧ (¬ fnP u tx n k < u 4 → ¬ (6 ≤ fnd u tx n k ∧ fnd u tx n k ≤ 12)) := by
  have hp := tkW_pos hT
  refine ⟨fun h => fnd_at h4 hT (by omega) (fnP_hit h), fun h z => ?_⟩
  have e := fnd_hit (show fnd u tx n k < 13 by omega)
  have hu : u (289 + fnd u tx n k) ≠ 0 := fun z => by rw [nmc_0 z] at e; omega
  have hlt := (h2 (fnd u tx n k - 6) (by omega)).mp (by rw [show 295 + (fnd u tx n k - 6) = 289 + fnd u tx n k by omega]; exact hu)
  have := fst1_miss (c := fun p => nmc u (6 + p) == tkW tx n k) (u 4) 0 (Nat.zero_le (fnd u tx n k - 6)) (by show _ < fnP u tx n k; omega)
  rw [show 6 + (fnd u tx n k - 6) = fnd u tx n k by omega] at this
  simp [e] at this
theorem m_mustName {tx : Nat → Nat} {n k : Nat} {μ : bSto} (h : MT tx n k μ) (hg : μ.1 92 13 = nI 0) : f_X12_mustName μ = if isN tx n k = true then some μ else f_X12_wrong (1 : Int32) (μ.1 92 4) μ := by
  have hm := mtk_lt (tkT tx n k)
  have hT5 := @CT.t5 tx n k
  have hw : f_X12_mustName_J108 μ = f_X12_wrong (1 : Int32) (μ.1 92 4) μ := by
    rw [f_X12_mustName_J108]
    cases f_X12_wrong (1 : Int32) (μ.1 92 4) μ <;> rfl
  have hJ : ∀ s : Bool, f_X12_mustName_J95 (b2 s) μ = if (tkT tx n k == 1 && !s) = true then some μ else f_X12_wrong (1 : Int32) (μ.1 92 4) μ := fun s => by
    rw [f_X12_mustName_J95, h.2.2.2.1, hw]
    simp (disch := omega) only [q_lit, q_lt0, q_ge0, q_le, q_lt, q_eq, q_cl, q_add, q_mul, q_div, q_rem, mtk_2]
    by_cases hT : tkT tx n k = 1
    · rw [if_pos hT, hT]; cases s <;> rfl
    · rw [if_neg hT, show (tkT tx n k == 1) = false by simp [hT]]; rfl
  have hK : kpt tx n k = if isW tx n k 19 = true then 0 else if isW tx n k 3 = true then 1 else if isW tx n k 16 = true then 2 else if isW tx n k 12 = true then 3 else if isW tx n k 10 = true then 4 else if isW tx n k 2 = true then 5 else if isW tx n k 6 = true then 6 else if isW tx n k 20 = true then 7 else if isW tx n k 17 = true then 8 else if isW tx n k 14 = true then 9 else 10 := by
    rw [kpt]
    simp only [fst1]
    rfl
  rw [isN, hK]
  rw [f_X12_mustName, m_isWord h hg (by decide)]
  simp only [bbd]
  cases isW tx n k 19 with
  | true => rw [if_neg (by decide)]; exact (hJ true).trans (by simp)
  | false =>
  rw [if_pos (by decide), m_isWord h hg (by decide)]
  simp only [bbd]
  cases isW tx n k 3 with
  | true => rw [if_neg (by decide)]; exact (hJ true).trans (by simp)
  | false =>
  rw [if_pos (by decide), m_isWord h hg (by decide)]
  simp only [bbd]
  cases isW tx n k 16 with
  | true => rw [if_neg (by decide)]; exact (hJ true).trans (by simp)
  | false =>
  rw [if_pos (by decide), m_isWord h hg (by decide)]
  simp only [bbd]
  cases isW tx n k 12 with
  | true => rw [if_neg (by decide)]; exact (hJ true).trans (by simp)
  | false =>
  rw [if_pos (by decide), m_isWord h hg (by decide)]
  simp only [bbd]
  cases isW tx n k 10 with
  | true => rw [if_neg (by decide)]; exact (hJ true).trans (by simp)
  | false =>
  rw [if_pos (by decide), m_isWord h hg (by decide)]
  simp only [bbd]
  cases isW tx n k 2 with
  | true => rw [if_neg (by decide)]; exact (hJ true).trans (by simp)
  | false =>
  rw [if_pos (by decide), m_isWord h hg (by decide)]
  simp only [bbd]
  cases isW tx n k 6 with
  | true => rw [if_neg (by decide)]; exact (hJ true).trans (by simp)
  | false =>
  rw [if_pos (by decide), m_isWord h hg (by decide)]
  simp only [bbd]
  cases isW tx n k 20 with
  | true => rw [if_neg (by decide)]; exact (hJ true).trans (by simp)
  | false =>
  rw [if_pos (by decide), m_isWord h hg (by decide)]
  simp only [bbd]
  cases isW tx n k 17 with
  | true => rw [if_neg (by decide)]; exact (hJ true).trans (by simp)
  | false =>
  rw [if_pos (by decide), m_isWord h hg (by decide)]
  simp only [bbd]
  cases isW tx n k 14 with
  | true => rw [if_neg (by decide)]; exact (hJ true).trans (by simp)
  | false => rw [if_pos (by decide)]; exact (hJ false).trans (by simp)
/-- a person's name, known -/
theorem pw_pers {tx : Nat → Nat} {n k : Nat} {u : Nat → Nat} {c : Nat} {σ μ : bSto} (h1 : CT tx n k σ) (h2 : MT tx n k μ) (hg : μ.1 92 13 = nI 0) (hK : CK σ) (hk : kR c) (hc : σ.2.2 1 4 = c) (h4 : σ.1 (c + 7) 7 = nI (u 4)) (h47 : u 4 ≤ 7) (n1 : N1 u) (n3 : N3 u) (n4 : N4 u) (n6 : N6 u σ) (m9 : M9 u μ) : ∃ r v σ' μ', f_X9_findPerson σ = some (r, σ') ∧ f_X12_personHere μ = some (v, μ') ∧ AL Bw σ σ' ∧ AO Bv μ μ' ∧ ((r = 1 ∧ ∃ p, p < u 4 ∧ v = nI p ∧ σ'.1 1 7 = nI p ∧ CT tx n k σ' ∧ MT tx n k μ' ∧ μ'.1 92 13 = nI 0) ∨ (r = 0 ∧ v = 0 ∧ BDx σ' μ' ∧ μ'.1 92 13 = nI 1)) := by
  rw [f_X9_findPerson, f_X12_personHere, f_X12_named, if_pos (show μ.1 92 13 = 0 from hg), m_mustName h2 hg, c_isName h1 hK]
  simp only [bbd]
  cases hN : isN tx n k with
  | false =>
    obtain ⟨σ', μ', b1, b2', b3, b4, b5, b6⟩ := bad_pair h1 h2 hg (x := 1) 1 rfl
    refine ⟨0, 0, σ', μ', ?_, ?_, b3, b4, Or.inr ⟨rfl, rfl, b5, b6⟩⟩
    · rw [if_pos (by decide), b1]; rfl
    · rw [if_neg (by decide), b2']
      simp only [bbv]
      rw [if_neg (f0 b6)]
  | true =>
    have hT : tkT tx n k = 1 := by
      rw [isN, Bool.and_eq_true] at hN
      simpa using hN.1
    have hF := fnd_P n3 n4 hT h47
    have hle := fnd_le u tx n k
    rw [if_neg (by decide), if_pos rfl, hc, if_pos hk, h4, h1.2.2.2.2.2.2 hT, c_index (L := 7) (nm := fun p => nmc u (6 + p)) (by decide) (by decide) h47 n6 (fun i hi => nmc_lt n1 (by omega)) (tkW_lt hT)]
    simp only [bbd, bbv, blet]
    rw [if_pos (show μ.1 92 13 = 0 from hg), m_find h2 hT n1 m9]
    simp only [bbd]
    rw [bI_eq]
    simp only [ixv_no (show u 4 < 1000 by omega)]
    rw [show fst1 (fun i => nmc u (6 + i) == tkW tx n k) (u 4) 0 = fnP u tx n k from rfl]
    have hA : AL Bw σ (bI σ 1 7 (ixv (u 4) (fnP u tx n k))) := AL.setI σ _ (Or.inl rfl)
    have h1' : CT tx n k (bI σ 1 7 (ixv (u 4) (fnP u tx n k))) := h1.al (B := fun a k => a = 1 ∧ k = 7) (AL.setI σ _ ⟨rfl, rfl⟩) (fun a k z => by obtain ⟨z1, z2⟩ := z; omega)
    by_cases hP : fnP u tx n k < u 4
    · refine ⟨1, nI (fnP u tx n k), _, μ, ?_, ?_, hA, AO.refl _ _, Or.inl ⟨rfl, fnP u tx n k, hP, rfl, ?_, h1', h2, hg⟩⟩
      · rw [if_neg (fun z => z hP)]
      · rw [hF.1 hP, ixv, if_pos (by omega), show (6 : Int32) = nI 6 from rfl, show (12 : Int32) = nI 12 from rfl, s_in (by omega) (by omega) (by omega), decide_eq_true (by omega)]
        simp only [bbd]
        rw [if_neg (by decide), f_X12_named_J45, if_pos (show μ.1 92 13 = 0 from hg), q_sub (by omega), show 6 + fnP u tx n k - 6 = fnP u tx n k by omega]
      · rw [bI_eq, ixv, if_pos hP]
    · obtain ⟨σ', μ', b1, b2', b3, b4, b5, b6⟩ := bad_pair h1' h2 hg (x := 2) 2 rfl
      have hin : f_X12_in (ixv 13 (fnd u tx n k)) 6 12 μ = some ((0 : Int32), μ) := by
        have hx := hF.2 hP
        rw [ixv]
        by_cases z : fnd u tx n k < 13
        · rw [if_pos z, show (6 : Int32) = nI 6 from rfl, show (12 : Int32) = nI 12 from rfl, s_in (by omega) (by omega) (by omega), decide_eq_false hx]; rfl
        · rw [if_neg z]; rfl
      refine ⟨0, 0, σ', μ', ?_, ?_, hA.trans b3, b4, Or.inr ⟨rfl, rfl, b5, b6⟩⟩
      · rw [if_pos hP, b1]; rfl
      · rw [hin]
        simp only [bbd]
        rw [if_pos trivial, b2']
        simp only [f_X12_named_J45]
        rw [if_neg (f0 b6)]
