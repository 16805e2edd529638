/-! ===== line: bench (own work) ===== -/
theorem PW_wordF {c : Nat} {σ0 μ0 : bSto} {tx : Nat → Nat} {n k w : Nat} {σ μ : bSto} {K : bSto → Option (Int32 × bSto)} {M : bSto → Option bSto} {Q : Nat → bSto → bSto → Prop} (g : GD c σ0 μ0 tx n k σ μ) (hw : w < 29) (hG : ∀ σ' μ', GD c σ0 μ0 tx n (tkE tx n k) σ' μ' → AL Bw σ σ' → AO Bv μ μ' → PW c σ0 μ0 tx n (K σ') (M μ') Q) (hF : ∀ μ', μ'.1 92 13 = nI 1 → AO Bv μ μ' → FF (M μ') μ') : PW c σ0 μ0 tx n (bbd (f_X9_readWord w σ) (fun v s => if v = 0 then some ((0 : Int32), s) else K s)) (bbv (f_X12_must w μ) (fun s => M s)) Q := by
  obtain ⟨r, σ', μ', h1, h2, h3, h4, h5⟩ := pw_word g.1 g.2.1 g.2.2.1 hw
  rw [h1, h2]
  simp only [bbd, bbv]
  rcases h5 with ⟨rfl, a, b, e⟩ | ⟨rfl, a, b⟩
  · rw [if_neg (by decide)]
    exact hG σ' μ' (g.step h3 h4 a b e) h3 h4
  · exact PW_bad (g.bad h3 h4 a) (if_pos rfl) (hF μ' b h4)
theorem PW_numF {c : Nat} {σ0 μ0 : bSto} {tx : Nat → Nat} {n k : Nat} {σ μ : bSto} {K : bSto → Option (Int32 × bSto)} {M : Int32 → bSto → Option bSto} {Q : Nat → bSto → bSto → Prop} {x y : Int32} (lo hi : Nat) (g : GD c σ0 μ0 tx n k σ μ) (hx : x = nI lo) (hy : y = nI hi) (hlo : lo < 1000) (hhi : hi < 1000) (hG : ∀ z σ' μ', lo ≤ z → z ≤ hi → σ'.1 1 7 = nI z → GD c σ0 μ0 tx n (tkE tx n k) σ' μ' → AL Bw σ σ' → AO Bv μ μ' → PW c σ0 μ0 tx n (K σ') (M (nI z) μ') Q) (hF : ∀ μ', μ'.1 92 13 = nI 1 → AO Bv μ μ' → FF (M x μ') μ') : PW c σ0 μ0 tx n (bbd (f_X9_readWhole x y σ) (fun v s => if v = 0 then some ((0 : Int32), s) else K s)) (bbd (f_X12_number x y μ) (fun v s => M v s)) Q := by
  obtain ⟨r, v, σ', μ', h1, h2, h3, h4, h5⟩ := pw_num g.1 g.2.1 g.2.2.1 hx hy hlo hhi
  rw [h1, h2]
  simp only [bbd]
  rcases h5 with ⟨rfl, z, z1, z2, rfl, z3, a, b, e⟩ | ⟨rfl, rfl, a, b⟩
  · rw [if_neg (by decide)]
    exact hG z σ' μ' z1 z2 z3 (g.step h3 h4 a b e) h3 h4
  · exact PW_bad (g.bad h3 h4 a) (if_pos rfl) (hF μ' b h4)
/-- the names behind a new one -/
def nwm (m : Nat) (tx : Nat → Nat) (n k : Nat) (μ μ' : bSto) : Prop := ∀ j, μ'.1 96 j = if j = 289 + m then nI (tkN tx n k) else if 302 + 8 * m ≤ j ∧ j < 302 + 8 * m + tkN tx n k then nI (tkL tx n k (j - (302 + 8 * m))) else μ.1 96 j
theorem nwm_lo {m : Nat} {tx : Nat → Nat} {n k : Nat} {μ μ' : bSto} (h : nwm m tx n k μ μ') {j : Nat} (hj : j < 289) : μ'.1 96 j = μ.1 96 j := by rw [h, if_neg (by omega), if_neg (by omega)]
theorem PW_new {c : Nat} {σ0 μ0 : bSto} {tx : Nat → Nat} {n k m : Nat} {u : Nat → Nat} {bel : Nat → Int32} {σ μ : bSto} {K : bSto → Option (Int32 × bSto)} {M : bSto → Option bSto} {Q : Nat → bSto → bSto → Prop} (S : ST c u bel σ μ) (g : GD c σ0 μ0 tx n k σ μ) (hm : m < 13) {x : Int32} (hx : x = nI m) (hG : ∀ σ' μ', tkT tx n k = 1 → (∀ m', m' < 13 → nmc u m' ≠ tkW tx n k) → GD c σ0 μ0 tx n (tkE tx n k) σ' μ' → AL Bw σ σ' → nwm m tx n k μ μ' → PW c σ0 μ0 tx n (K σ') (M μ') Q) (hF : ∀ μ', μ'.1 92 13 = nI 1 → AO Bv μ μ' → FF (M μ') μ') : PW c σ0 μ0 tx n (bbd (f_X9_readNewName σ) (fun v s => if v = 0 then some ((0 : Int32), s) else K s)) (bbv (f_X12_newName x μ) (fun s => M s)) Q := by
  subst hx
  obtain ⟨⟨s1, s2, s3⟩, s4, g1, g2, g3, g4, -⟩ := S
  obtain ⟨r, σ', μ', h1, h2, h3, h5⟩ := pw_new (u := u) (m := m) g.1 g.2.1 g.2.2.1 s3 s1 s2 g2.2.1 g2.1 g3.2.1 g3.1 g4.1 g4.2.1 g4.2.2.1 g4.2.2.2.1 g4.2.2.2.2.1 g4.2.2.2.2.2 s4.m9 hm
  rw [h1, h2]
  simp only [bbd, bbv]
  rcases h5 with ⟨rfl, h4, hT, hn, a, b, e, hj⟩ | ⟨rfl, h4, a, b⟩
  · rw [if_neg (by decide)]
    exact hG σ' μ' hT hn ⟨a, b, e, g.2.2.2.1.trans (h3.mono (Bw_Bz c)), g.2.2.2.2.trans h4⟩ h3 hj
  · exact PW_bad (g.bad h3 h4 a) (if_pos rfl) (hF μ' b h4)
theorem PW_sort {c : Nat} {σ0 μ0 : bSto} {tx : Nat → Nat} {n k : Nat} {σ μ : bSto} {K : bSto → Option (Int32 × bSto)} {M : Int32 → bSto → Option bSto} {Q : Nat → bSto → bSto → Prop} (g : GD c σ0 μ0 tx n k σ μ) (hG : ∀ q σ' μ', q ≤ 2 → σ'.1 1 7 = nI q → GD c σ0 μ0 tx n (tkE tx n k) σ' μ' → AL Bw σ σ' → AO Bv μ μ' → PW c σ0 μ0 tx n (K σ') (M (nI q) μ') Q) (hF : ∀ v μ', μ'.1 92 13 = nI 1 → AO Bv μ μ' → FF (M v μ') μ') : PW c σ0 μ0 tx n (bbd (f_X9_readSort σ) (fun v s => if v = 0 then some ((0 : Int32), s) else K s)) (bbd (f_X12_oneOf 15 26 11 0 μ) (fun v s => M v s)) Q := by
  obtain ⟨r, v, σ', μ', h1, h2, h3, h4, h5⟩ := pw_sort g.1 g.2.1 g.2.2.1
  rw [h1, h2]
  simp only [bbd]
  rcases h5 with ⟨rfl, q, q1, rfl, q2, a, b, e⟩ | ⟨rfl, a, b⟩
  · rw [if_neg (by decide)]
    exact hG q σ' μ' q1 q2 (g.step h3 h4 a b e) h3 h4
  · exact PW_bad (g.bad h3 h4 a) (if_pos rfl) (hF v μ' b h4)
theorem PW_kind {c : Nat} {σ0 μ0 : bSto} {tx : Nat → Nat} {n k : Nat} {σ μ : bSto} {K : bSto → Option (Int32 × bSto)} {M : Int32 → bSto → Option bSto} {Q : Nat → bSto → bSto → Prop} (g : GD c σ0 μ0 tx n k σ μ) (hG : ∀ q σ' μ', q ≤ 3 → σ'.1 1 7 = nI q → GD c σ0 μ0 tx n (tkE tx n k) σ' μ' → AL Bw σ σ' → AO Bv μ μ' → PW c σ0 μ0 tx n (K σ') (M (nI q) μ') Q) (hF : ∀ v μ', μ'.1 92 13 = nI 1 → AO Bv μ μ' → FF (M v μ') μ') : PW c σ0 μ0 tx n (bbd (f_X9_readKind σ) (fun v s => if v = 0 then some ((0 : Int32), s) else K s)) (bbd (f_X12_oneOf 25 7 13 4 μ) (fun v s => M v s)) Q := by
  obtain ⟨r, v, σ', μ', h1, h2, h3, h4, h5⟩ := pw_kind g.1 g.2.1 g.2.2.1
  rw [h1, h2]
  simp only [bbd]
  rcases h5 with ⟨rfl, q, q1, rfl, q2, a, b, e⟩ | ⟨rfl, a, b⟩
  · rw [if_neg (by decide)]
    exact hG q σ' μ' q1 q2 (g.step h3 h4 a b e) h3 h4
  · exact PW_bad (g.bad h3 h4 a) (if_pos rfl) (hF v μ' b h4)
/-- a cell is taken -/
theorem m_takenL {b : Nat} (hb : b ≤ 6) {μ : bSto} (h3 : μ.1 96 3 = nI b) (x1 x3 : Int32) : ∀ d i g (s : Bool), i + d = b → d < g → f_X12_benchLine_L116 g x1 x3 (b2 s) (nI i) μ = some (x1, x3, b2 (s || !allB (fun j => !decide (μ.1 96 (12 + 4 * j) = x3)) d i), μ) := by
  intro d
  induction d with
  | zero =>
    intro i g s hi hg
    obtain ⟨g, rfl⟩ : ∃ g', g = g' + 1 := ⟨g - 1, by omega⟩
    rw [f_X12_benchLine_L116, h3]
    simp (disch := omega) only [q_lit, q_lt0, q_ge0, q_le, q_lt, q_eq, q_cl, q_add, q_mul, q_div, q_rem]
    rw [if_pos (by omega), allB, Bool.not_true, Bool.or_false]
  | succ d ih =>
    intro i g s hi hg
    obtain ⟨g, rfl⟩ : ∃ g', g = g' + 1 := ⟨g - 1, by omega⟩
    have g1 : ¬ 406 ≤ 11 + 4 * i + 1 := by omega
    rw [f_X12_benchLine_L116, h3]
    simp (disch := omega) only [q_lit, q_lt0, q_ge0, q_le, q_lt, q_eq, q_cl, q_add, q_mul, q_div, q_rem, Nat.not_lt_zero, false_or, if_false, g1]
    rw [if_neg (by omega), allB, show 11 + 4 * i + 1 = 12 + 4 * i by omega]
    cases s with
    | true =>
      rw [if_neg (show ¬ b2 true = nI 0 by decide)]
      simp only [blet]
      rw [show (nI 1 : Int32) = b2 true from rfl, ih (i + 1) g true (by omega) (by omega), Bool.true_or, Bool.true_or]
    | false =>
      rw [if_pos (show b2 false = nI 0 from rfl)]
      by_cases e : μ.1 96 (12 + 4 * i) = x3
      · rw [if_pos e, decide_eq_true e]
        simp only [blet]
        rw [show (nI 1 : Int32) = b2 true from rfl, ih (i + 1) g true (by omega) (by omega)]
        rfl
      · rw [if_neg e, decide_eq_false e]
        simp only [blet]
        rw [show (nI 0 : Int32) = b2 false from rfl, ih (i + 1) g false (by omega) (by omega)]
        rfl
def tkd (u : Nat → Nat) (b x y : Nat) : Bool := decide (10 * y + x = u 9) || !allB (fun j => !decide (u (12 + 4 * j) = 10 * y + x)) b 0
theorem c_taken {c : Nat} {u : Nat → Nat} {σ : bSto} (g1 : G1 c u σ) (hu0 : u 0 ≠ 0) {b x y : Nat} (hb : b ≤ 6) (hx : x ≤ 9) (hy : y ≤ 9) (h5 : σ.1 (c + 1) 5 = nI b) (hc : ∀ i, i < b → (u (12 + 4 * i) % 10 ≤ 8 ∧ u (12 + 4 * i) / 10 ≤ 8) ∧ σ.1 (c + 1 + 2) i = nI (u (12 + 4 * i) % 10) ∧ σ.1 (c + 1 + 3) i = nI (u (12 + 4 * i) / 10)) : f_X3_isTaken (c + 1) (nI x) (nI y) σ = some (b2 (tkd u b x y), σ) := by
  obtain ⟨-, -, -, h⟩ := g1
  obtain ⟨⟨-, -, ⟨w1, w2⟩, -⟩, -, -, e8, e9, -, -⟩ := h hu0
  have hl : ∀ d i m, i + d = b → d < m → f_X3_isTaken_L2 m (c + 1) (nI x) (nI y) (nI i) σ = some (if allB (fun j => !decide (u (12 + 4 * j) = 10 * y + x)) d i = true then .inr (c + 1, nI x, nI y, σ) else .inl (nI 1, σ)) := by
    intro d
    induction d with
    | zero =>
      intro i m hi hm
      obtain ⟨m, rfl⟩ : ∃ m', m = m' + 1 := ⟨m - 1, by omega⟩
      rw [f_X3_isTaken_L2, h5]
      simp (disch := omega) only [q_lit, q_lt0, q_ge0, q_le, q_lt, q_eq, q_cl, q_add, q_mul, q_div, q_rem]
      rw [if_pos (by omega), allB, if_pos rfl]
    | succ d ih =>
      intro i m hi hm
      obtain ⟨m, rfl⟩ : ∃ m', m = m' + 1 := ⟨m - 1, by omega⟩
      obtain ⟨⟨c1, c2⟩, c3, c4⟩ := hc i (by omega)
      have g1 : ¬ 6 ≤ i := by omega
      rw [f_X3_isTaken_L2, h5]
      simp (disch := omega) only [q_lit, q_lt0, q_ge0, q_le, q_lt, q_eq, q_cl, q_add, q_mul, q_div, q_rem, Nat.not_lt_zero, false_or, if_false, g1]
      rw [if_neg (by omega), c3, c4, allB]
      simp (disch := omega) only [q_lit, q_lt0, q_ge0, q_le, q_lt, q_eq, q_cl, q_add, q_mul, q_div, q_rem]
      by_cases z1 : u (12 + 4 * i) % 10 = x
      · rw [if_pos z1]
        by_cases z2 : u (12 + 4 * i) / 10 = y
        · rw [if_pos z2, decide_eq_true (show u (12 + 4 * i) = 10 * y + x by omega)]
          rfl
        · rw [if_neg z2, decide_eq_false (show ¬ u (12 + 4 * i) = 10 * y + x by omega)]
          simp only [blet]
          exact ih (i + 1) m (by omega) (by omega)
      · rw [if_neg z1, decide_eq_false (show ¬ u (12 + 4 * i) = 10 * y + x by omega)]
        simp only [blet]
        exact ih (i + 1) m (by omega) (by omega)
  rw [f_X3_isTaken, show (0 : Int32) = nI 0 from rfl, hl b 0 bFU (by omega) (by show _ < 100000; omega), tkd]
  cases allB (fun j => !decide (u (12 + 4 * j) = 10 * y + x)) b 0 with
  | false =>
    rw [if_neg (by decide), Bool.not_false, Bool.or_true]
    rfl
  | true =>
    rw [if_pos rfl]
    simp only [br3, Bool.not_true, Bool.or_false, f_X3_isTaken_J58]
    rw [e8, e9]
    simp (disch := omega) only [q_lit, q_lt0, q_ge0, q_le, q_lt, q_eq, q_cl, q_add, q_mul, q_div, q_rem]
    by_cases z1 : x = u 9 % 10
    · rw [if_pos z1]
      by_cases z2 : y = u 9 / 10
      · rw [if_pos z2, decide_eq_true (show 10 * y + x = u 9 by omega)]; rfl
      · rw [if_neg z2, decide_eq_false (show ¬ 10 * y + x = u 9 by omega)]; rfl
    · rw [if_neg z1, decide_eq_false (show ¬ 10 * y + x = u 9 by omega)]; rfl
/-- the rest of a bench's line when all is lost -/
theorem J185_f {x1 x3 : Int32} {μ : bSto} (hf : μ.1 92 13 = nI 1) : f_X12_benchLine_J185 x1 x3 μ = some μ := by rw [f_X12_benchLine_J185, if_neg (f0 hf)]
theorem J111_f {b : Nat} (hb : b ≤ 6) {μ : bSto} (h3 : μ.1 96 3 = nI b) (hf : μ.1 92 13 = nI 1) (x1 x3 : Int32) (s : Bool) : f_X12_benchLine_J111 x1 x3 (b2 s) μ = some μ := by
  rw [f_X12_benchLine_J111, show (0 : Int32) = nI 0 from rfl, m_takenL hb h3 x1 x3 b 0 bFU s (by omega) (by show _ < 100000; omega)]
  simp only [bl3]
  rw [if_neg (f0n hf), J185_f hf]
theorem cell_f {b : Nat} (hb : b ≤ 6) {μ : bSto} (h3 : μ.1 96 3 = nI b) (hf : μ.1 92 13 = nI 1) (x1 x3 : Int32) : (if x3 = μ.1 96 9 then f_X12_benchLine_J111 x1 x3 (1 : Int32) μ else f_X12_benchLine_J111 x1 x3 (0 : Int32) μ) = some μ := by
  by_cases z : x3 = μ.1 96 9
  · rw [if_pos z]; exact J111_f hb h3 hf x1 x3 true
  · rw [if_neg z]; exact J111_f hb h3 hf x1 x3 false
theorem J55_f {b : Nat} (hb : b ≤ 6) {μ : bSto} (h3 : μ.1 96 3 = nI b) (hf : μ.1 92 13 = nI 1) (x1 : Int32) : f_X12_benchLine_J55 x1 μ = some μ := by
  rw [f_X12_benchLine_J55, must_f hf]
  simp only [bbv_s]
  rw [num_f hf]
  simp only [bbd_s]
  rw [numH_f hf]
  simp only [bbd_s, blet]
  exact cell_f hb h3 hf x1 _
