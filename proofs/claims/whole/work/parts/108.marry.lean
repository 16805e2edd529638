/-! ===== the first rest; towns; who may marry (own work) ===== -/
theorem rsF_first {m : Nat} : ∀ n e, (∀ d, d < e → rsE m d = false) → rsE m e = true → e < n → rsF m n = nI (10 * (e / 7) + e % 7) := by
  intro n
  induction n with
  | zero => intro e _ _ h; omega
  | succ n ih =>
    intro e h0 h1 h2
    rw [rsF]
    have hz : ∀ k, k ≤ e → rsN m k = 0 := by
      intro k
      induction k with
      | zero => intro _; rfl
      | succ k ihk =>
        intro hk
        show rsN m k + (rsE m k).toNat = 0
        rw [ihk (by omega), h0 k (by omega)]
        rfl
    by_cases e1 : e = n
    · subst e1
      rw [if_pos ⟨hz e (Nat.le_refl _), h1⟩]
    · have hp : ∀ k, e < k → rsN m k ≠ 0 := by
        intro k
        induction k with
        | zero => intro h; omega
        | succ k ihk =>
          intro hk
          show rsN m k + (rsE m k).toNat ≠ 0
          by_cases e2 : e = k
          · subst e2; rw [h1]; simp
          · have := ihk (by omega); omega
      rw [if_neg (fun z => hp n (by omega) z.1), ih e h0 h1 (by omega)]
theorem rsF_none {m : Nat} : ∀ n, (∀ d, d < n → rsE m d = false) → rsF m n = -2
  | 0, _ => rfl
  | n + 1, h => by
    rw [rsF, if_neg (fun z => by rw [h n (by omega)] at z; exact absurd z.2 (by decide)), rsF_none n (fun d hd => h d (by omega))]
theorem s_restIn {m a : Nat} (hm : m ≤ 99) (ha : a ≤ 6) (σ : bSto) : ∀ k i n, i + k = 7 → k < n → (∀ d, d < 7 * a + i → rsE m d = false) → ((∀ d, d < 7 * a + 7 → rsE m d = false) ∧ f_X11_rest_L39 n (nI m) (nI a) (nI i) σ = some (.inr (nI m, nI a, σ))) ∨ f_X11_rest_L39 n (nI m) (nI a) (nI i) σ = some (.inl (rsF m 49, bI σ 0 8 0)) := by
  intro k
  induction k with
  | zero =>
    intro i n hi hn h
    obtain ⟨n, rfl⟩ : ∃ n', n = n' + 1 := ⟨n - 1, by omega⟩
    obtain rfl : i = 7 := by omega
    refine Or.inl ⟨h, ?_⟩
    rw [f_X11_rest_L39, if_pos (by decide)]
  | succ k ih =>
    intro i n hi hn h
    obtain ⟨n, rfl⟩ : ∃ n', n = n' + 1 := ⟨n - 1, by omega⟩
    rw [f_X11_rest_L39, s_isRest hm ha (by omega)]
    simp (disch := omega) only [q_lit, q_lt0, q_ge0, q_le, q_lt, q_eq, q_cl, q_add, q_mul, q_div, q_rem, bbd, blet, b2_0n]
    rw [if_neg (by omega)]
    cases hr : rst m a i with
    | false =>
      simp only [if_true]
      refine ih (i + 1) n (by omega) (by omega) (fun d hd => ?_)
      by_cases e : d = 7 * a + i
      · subst e; rw [rsE_at (by omega), hr]
      · exact h d (by omega)
    | true =>
      refine Or.inr ?_
      rw [rsF_first 49 (7 * a + i) h (by rw [rsE_at (by omega), hr]) (by omega), show (7 * a + i) / 7 = a by omega, show (7 * a + i) % 7 = i by omega]
      rw [if_neg (by decide)]
      rfl
theorem s_restC {m : Nat} (hm : m ≤ 99) (σ : bSto) : br0 (f_X11_rest_L31 bFU (nI m) (nI 0) σ) (fun v s => some (v, s)) (fun σ8 => bbd (f_X11_answered (-2 : Int32) σ8) (fun v11 σ10 => some (v11, σ10))) = some (rsF m 49, bI σ 0 8 0) := by
  have hl : ∀ k a n, a + k = 7 → k < n → (∀ d, d < 7 * a → rsE m d = false) → ((∀ d, d < 49 → rsE m d = false) ∧ f_X11_rest_L31 n (nI m) (nI a) σ = some (.inr σ)) ∨ f_X11_rest_L31 n (nI m) (nI a) σ = some (.inl (rsF m 49, bI σ 0 8 0)) := by
    intro k
    induction k with
    | zero =>
      intro a n hi hn h
      obtain ⟨n, rfl⟩ : ∃ n', n = n' + 1 := ⟨n - 1, by omega⟩
      obtain rfl : a = 7 := by omega
      refine Or.inl ⟨h, ?_⟩
      rw [f_X11_rest_L31, if_pos (by decide)]
    | succ k ih =>
      intro a n hi hn h
      obtain ⟨n, rfl⟩ : ∃ n', n = n' + 1 := ⟨n - 1, by omega⟩
      rw [f_X11_rest_L31]
      simp (disch := omega) only [q_lit, q_lt0, q_ge0, q_le, q_lt, q_eq, q_cl, q_add, q_mul, q_div, q_rem]
      rw [if_neg (by omega)]
      rcases s_restIn hm (show a ≤ 6 by omega) σ 7 0 bFU (by decide) (by decide) h with ⟨h1, h2⟩ | h2
      · rw [h2]
        simp only [br2, blet, q_add]
        exact ih (a + 1) n (by omega) (by omega) (fun d hd => h1 d (by omega))
      · rw [h2]
        exact Or.inr rfl
  rcases hl 7 0 bFU (by decide) (by decide) (fun d hd => by omega) with ⟨h1, h2⟩ | h2
  · rw [h2, rsF_none 49 h1]
    rfl
  · rw [h2]
    rfl
/-- n letters as a number, five bits each -/
def wc (f : Nat → Nat) : Nat → Nat
  | 0 => 0
  | n + 1 => 32 * wc f n + (f n - 96)
def ltr (f : Nat → Nat) (n : Nat) : Prop := ∀ k, k < n → 97 ≤ f k ∧ f k ≤ 122
theorem wc_lt {f : Nat → Nat} : ∀ n, ltr f n → wc f n < 32 ^ n
  | 0, _ => by show 0 < 1; decide
  | n + 1, h => by
    have h1 := wc_lt n (fun k hk => h k (by omega))
    have h2 := h n (by omega)
    rw [wc, Nat.pow_succ]
    omega
theorem wc_pos {f : Nat → Nat} {n : Nat} (h : ltr f (n + 1)) : 0 < wc f (n + 1) := by
  have h2 := h n (by omega)
  rw [wc]
  omega
theorem wc_congr {f g : Nat → Nat} : ∀ n, (∀ k, k < n → f k = g k) → wc f n = wc g n
  | 0, _ => rfl
  | n + 1, h => by rw [wc, wc, wc_congr n (fun k hk => h k (by omega)), h n (by omega)]
theorem wc_inj {f g : Nat → Nat} : ∀ n m, ltr f n → ltr g m → wc f n = wc g m → n = m ∧ ∀ k, k < n → f k = g k
  | 0, 0, _, _, _ => ⟨rfl, fun k hk => by omega⟩
  | 0, m + 1, _, h, e => by
    have := wc_pos h
    rw [← e] at this
    exact absurd this (by show ¬ 0 < 0; decide)
  | n + 1, 0, h, _, e => by
    have := wc_pos h
    rw [e] at this
    exact absurd this (by show ¬ 0 < 0; decide)
  | n + 1, m + 1, h1, h2, e => by
    rw [wc, wc] at e
    have a1 := h1 n (by omega)
    have a2 := h2 m (by omega)
    obtain ⟨rfl, i2⟩ := wc_inj n m (fun k hk => h1 k (by omega)) (fun k hk => h2 k (by omega)) (by omega)
    refine ⟨rfl, fun k hk => ?_⟩
    by_cases ek : k = n
    · subst ek; omega
    · exact i2 k (by omega)
def nL (n : Nat) : Int64 := Int64.ofNat n
theorem nL_toInt {n : Nat} (h : n < 2 ^ 63) : (nL n).toInt = n := Int64.toInt_ofNat_of_lt h
theorem nL_inj {a b : Nat} (ha : a < 2 ^ 63) (hb : b < 2 ^ 63) : (nL a = nL b) = (a = b) := by
  apply propext
  constructor
  · intro h
    have h2 := congrArg Int64.toInt h
    rw [nL_toInt ha, nL_toInt hb] at h2
    omega
  · rintro rfl; rfl
theorem lg_nL {a b : Nat} (ha : a < 2 ^ 63) (hb : b < 2 ^ 63) : (lg_cmp (nL a) (nL b) = 0) = (a = b) := (propext (lg_cmp_eq _ _)).trans (nL_inj ha hb)
theorem lg_nLn {a b : Nat} (ha : a < 2 ^ 63) (hb : b < 2 ^ 63) : (lg_cmp (nL a) (nL b) = nI 0) = (a = b) := lg_nL ha hb
theorem b2_zm (b : Bool) : (b2 b = nI 0 ∨ b2 b = 1) = True := b2_z b
/-- the town's letters of p; its length -/
def twl (v : Nat → Nat) (p : Nat) : Nat → Nat := fun k => v (227 + 9 * p + k)
def twn (v : Nat → Nat) (p : Nat) : Nat := v (226 + 9 * p)
def twc (v : Nat → Nat) (p : Nat) : Nat := wc (twl v p) (twn v p)
def WFt (v : Nat → Nat) : Prop := ∀ p, p < v 4 → twn v p ≤ 8 ∧ ltr (twl v p) (twn v p)
def CVt (c : Nat) (v : Nat → Nat) (σ : bSto) : Prop := ∀ p, p < v 4 → σ.2.1 (c + 7 + 2) p = nL (twc v p)
def tow (v : Nat → Nat) (p q : Nat) : Bool := decide (twc v p = twc v q)
theorem wc_small {f : Nat → Nat} {n : Nat} (hn : n ≤ 8) (h : ltr f n) : wc f n < 2 ^ 63 := by
  have h1 := wc_lt n h
  have h2 : 32 ^ n ≤ 32 ^ 8 := Nat.pow_le_pow_right (by decide) hn
  have h3 : (32 : Nat) ^ 8 < 2 ^ 63 := by decide
  omega
theorem twc_lt {v : Nat → Nat} (t : WFt v) {p : Nat} (hp : p < v 4) : twc v p < 2 ^ 63 := wc_small (t p hp).1 (t p hp).2
theorem tow_iff {v : Nat → Nat} (t : WFt v) {p q : Nat} (hp : p < v 4) (hq : q < v 4) : tow v p q = true ↔ twn v p = twn v q ∧ ∀ k, k < twn v p → twl v p k = twl v q k := by
  rw [tow, decide_eq_true_iff]
  constructor
  · intro h
    exact wc_inj _ _ (t p hp).2 (t q hq).2 h
  · rintro ⟨h1, h2⟩
    rw [twc, twc, ← h1]
    exact wc_congr _ h2
theorem tow_comm (v : Nat → Nat) (p q : Nat) : tow v p q = tow v q p := by
  unfold tow
  by_cases h : twc v p = twc v q
  · rw [decide_eq_true h, decide_eq_true h.symm]
  · rw [decide_eq_false h, decide_eq_false (fun z => h z.symm)]
/-- others of p's town -/
def tmk (v : Nat → Nat) (p : Nat) : Nat := msk (fun q => !(q == p) && tow v p q) (v 4)
theorem tmk_lt {v : Nat → Nat} (w : WF v) (p : Nat) : tmk v p < 128 := Nat.lt_of_lt_of_le (msk_lt _ _) (Nat.pow_le_pow_right (by decide) w.2.2.2.2.1)
theorem s_sameTown {c : Nat} {v : Nat → Nat} {σ : bSto} (w : WF v) (t : WFt v) (hf : CVf c v σ) (ht : CVt c v σ) {p : Nat} (hp : p < v 4) : f_X2_sameTown (c + 7) (nI p) σ = some (nI (tmk v p), σ) := by
  have hp7 : v 4 ≤ 7 := w.2.2.2.2.1
  have h : f_X2_sameTown_L4 bFU (c + 7) (nI p) (nI 0) (nI 0) σ = some (itr (fun q acc => if !(q == p) && tow v p q then acc ||| ((1 : Int32) <<< (nI q &&& 31)) else acc) (v 4) 0 (nI 0), σ) := by
    refine lp_all (fun n i acc => f_X2_sameTown_L4 n (c + 7) (nI p) acc (nI i) σ) (v 4) (by omega) (fun acc => some (acc, σ)) _ (nI 0) ?_ ?_
    · intro n s
      show f_X2_sameTown_L4 (n + 1) (c + 7) (nI p) s (nI (v 4)) σ = _
      rw [f_X2_sameTown_L4, hf.1, if_pos (Int32.le_refl _)]
    · intro n i s hi
      show f_X2_sameTown_L4 (n + 1) (c + 7) (nI p) s (nI i) σ = _
      rw [f_X2_sameTown_L4, hf.1]
      simp (disch := omega) only [q_lit, q_lt0, q_ge0, q_le, q_lt, q_eq, q_cl, q_add, q_mul, q_div, q_rem, blet, if_false, false_or, ht i hi, ht p hp]
      simp only [lg_nLn (twc_lt t hi) (twc_lt t hp)]
      rw [if_neg (by omega)]
      by_cases e : i = p
      · simp [e]
      · rw [if_neg e, if_neg (by omega), if_neg (by omega)]
        by_cases e2 : twc v i = twc v p
        · simp [e, e2, tow]
        · simp [e, e2, tow, show ¬ twc v p = twc v i from fun z => e2 z.symm]
  show bl1 (f_X2_sameTown_L4 bFU (c + 7) (nI p) (nI 0) (nI 0) σ) _ = _
  rw [h, bl1, itr_msk (fun q => !(q == p) && tow v p q) _ (v 4) (by omega) (fun p m _ => rfl)]
  rfl
theorem s_isTownOf {v : Nat → Nat} {σ : bSto} (w : WF v) (t : WFt v) (hv : MV v σ) {p q : Nat} (hp : p < v 4) (hq : q < v 4) : f_X12_isTownOf (nI p) (nI q) σ = some (b2 (tow v p q), σ) := by
  have hp7 : v 4 ≤ 7 := w.2.2.2.2.1
  have tp := (t p hp).1
  have tq := (t q hq).1
  have lp := (t p hp).2
  have lq := (t q hq).2
  have a1 := hv.at (226 + 9 * p) (by omega) (by omega)
  have a2 := hv.at (226 + 9 * q) (by omega) (by omega)
  have hl : ∀ k i n, i + k = twn v p → k < n → (∀ j, i ≤ j → j < twn v q → 97 ≤ twl v q j ∧ twl v q j ≤ 122) → ∀ b : Bool, (b = true → twn v p = twn v q) → f_X12_isTownOf_L45 n (nI (226 + 9 * p)) (nI (226 + 9 * q)) (b2 b) (nI i) σ = some (b2 (b && allB (fun j => decide (twl v p j = twl v q j)) k i), σ) := by
    intro k
    induction k with
    | zero =>
      intro i n hi hn _ b _
      obtain ⟨n, rfl⟩ : ∃ n', n = n' + 1 := ⟨n - 1, by omega⟩
      rw [f_X12_isTownOf_L45]
      simp (disch := omega) only [q_lit, q_lt0, q_ge0, q_le, q_lt, q_eq, q_cl, q_add, q_mul, q_div, q_rem, if_false, false_or, a1]
      unfold twn at hi tp
      simp (disch := omega) only [q_lit, q_lt0, q_ge0, q_le, q_lt, q_eq, q_cl, q_add, q_mul, q_div, q_rem]
      rw [if_neg (by omega), if_pos (by omega)]
      simp [allB]
    | succ k ih =>
      intro i n hi hn hq2 b hb
      obtain ⟨n, rfl⟩ : ∃ n', n = n' + 1 := ⟨n - 1, by omega⟩
      rw [f_X12_isTownOf_L45]
      simp (disch := omega) only [q_lit, q_lt0, q_ge0, q_le, q_lt, q_eq, q_cl, q_add, q_mul, q_div, q_rem, if_false, false_or, a1, b2_0n]
      have hi2 := hi
      unfold twn at hi tp
      simp (disch := omega) only [q_lit, q_lt0, q_ge0, q_le, q_lt, q_eq, q_cl, q_add, q_mul, q_div, q_rem]
      rw [if_neg (by omega), if_neg (by omega)]
      cases b with
      | false => rfl
      | true =>
        have hbn := hb rfl
        have b1 := hv.at (226 + 9 * p + 1 + i) (by omega) (by omega)
        have b3 := hv.at (226 + 9 * q + 1 + i) (by omega) (by omega)
        have c1 := lp i (by omega)
        have c2 := lq i (by omega)
        unfold twl at c1 c2
        rw [show 227 + 9 * p + i = 226 + 9 * p + 1 + i by omega] at c1
        rw [show 227 + 9 * q + i = 226 + 9 * q + 1 + i by omega] at c2
        rw [if_neg (by decide), if_neg (by omega), if_neg (by omega), b1, b3]
        simp (disch := omega) only [q_lit, q_lt0, q_ge0, q_le, q_lt, q_eq, q_cl, q_add, q_mul, q_div, q_rem, blet]
        have hd : (twl v p i = twl v q i) = (v (226 + 9 * p + 1 + i) = v (226 + 9 * q + 1 + i)) := by
          unfold twl
          rw [show 227 + 9 * p + i = 226 + 9 * p + 1 + i by omega, show 227 + 9 * q + i = 226 + 9 * q + 1 + i by omega]
        rw [allB]
        by_cases e : v (226 + 9 * p + 1 + i) = v (226 + 9 * q + 1 + i)
        · rw [if_pos e, show (nI 1 : Int32) = b2 true from rfl, ih (i + 1) n (by omega) (by omega) (fun j h1 h2 => hq2 j (by omega) h2) true hb]
          simp [hd, e]
        · rw [if_neg e, show (nI 0 : Int32) = b2 false from rfl, ih (i + 1) n (by omega) (by omega) (fun j h1 h2 => hq2 j (by omega) h2) false (fun z => by simp at z)]
          simp [hd, e]
  have hfin : ∀ b : Bool, (b = true ↔ twn v p = twn v q) → f_X12_isTownOf_J40 (nI (226 + 9 * p)) (nI (226 + 9 * q)) (b2 b) σ = some (b2 (tow v p q), σ) := by
    intro b hb
    rw [f_X12_isTownOf_J40, show (0 : Int32) = nI 0 from rfl, hl (twn v p) 0 bFU (by omega) (by show twn v p < 100000; omega) (fun j _ h2 => lq j h2) b hb.mp]
    simp only [bl1, b2_zm, if_true]
    congr 3
    rw [Bool.eq_iff_iff, tow_iff t hp hq, Bool.and_eq_true, allB_iff, hb]
    constructor
    · rintro ⟨h1, h2⟩
      exact ⟨h1, fun k hk => by simpa using h2 k (Nat.zero_le _) (by omega)⟩
    · rintro ⟨h1, h2⟩
      exact ⟨h1, fun k _ hk => by simpa using h2 k (by omega)⟩
  rw [f_X12_isTownOf]
  simp (disch := omega) only [q_lit, q_lt0, q_ge0, q_le, q_lt, q_eq, q_cl, q_add, q_mul, q_div, q_rem, if_false, false_or, blet, a1, a2]
  unfold twn at tp tq hfin
  simp (disch := omega) only [q_lit, q_lt0, q_ge0, q_le, q_lt, q_eq, q_cl, q_add, q_mul, q_div, q_rem]
  rw [if_neg (by omega), if_neg (by omega)]
  by_cases e : v (226 + 9 * p) = v (226 + 9 * q)
  · rw [if_pos e]
    exact hfin true (by simp [e])
  · rw [if_neg e]
    exact hfin false (by simp [e])
theorem andn_nI (a b : Nat) : nI a &&& (nI b ^^^ -nI 1) = nI (a ^^^ (a &&& b)) := by
  apply Int32.toBitVec_inj.mp
  show BitVec.ofNat 32 a &&& (BitVec.ofNat 32 b ^^^ BitVec.allOnes 32) = BitVec.ofNat 32 (a ^^^ (a &&& b))
  apply BitVec.eq_of_getLsbD_eq
  intro i hi
  simp only [BitVec.getLsbD_and, BitVec.getLsbD_xor, BitVec.getLsbD_ofNat, BitVec.getLsbD_allOnes, Nat.testBit_xor, Nat.testBit_and, hi, decide_true, Bool.true_and]
  cases a.testBit i <;> cases b.testBit i <;> rfl
/-- may p and q marry -/
def cmr (v : Nat → Nat) (p q : Nat) : Bool := !(q == p) && tow v p q && !(v (70 + p)).testBit q && !chi v p && !chi v q
def mmk (v : Nat → Nat) (p : Nat) : Nat := msk (cmr v p) (v 4)
theorem mmk_lt {v : Nat → Nat} (w : WF v) (p : Nat) : mmk v p < 128 := Nat.lt_of_lt_of_le (msk_lt _ _) (Nat.pow_le_pow_right (by decide) w.2.2.2.2.1)
theorem s_marriable {c : Nat} {v : Nat → Nat} {σ : bSto} (w : WF v) (t : WFt v) (hf : CVf c v σ) (ht : CVt c v σ) {p : Nat} (hp : p < v 4) : f_X2_marriable (c + 7) (nI p) σ = some (nI (mmk v p), σ) := by
  have hp7 : v 4 ≤ 7 := w.2.2.2.2.1
  have hk := kmk_lt w 3
  have htb : ∀ q, (kmk v 3).testBit q = (decide (q < v 4) && chi v q) := by
    intro q
    rw [kmk, tb_msk]
    rfl
  rw [f_X2_marriable, show (3 : Int32) = nI 3 from rfl, s_ofKind w hf (by decide)]
  simp only [bbd, bit_nI hk (show p < 8 by omega), htb, decide_eq_true hp, Bool.true_and, s_sameTown w t hf ht hp]
  simp (disch := omega) only [q_lit, q_lt0, q_ge0, q_le, q_lt, q_eq, q_cl, q_add, q_mul, q_div, q_rem, if_false, false_or]
  rw [if_neg (show ¬ (p < 0 ∨ 7 ≤ p) by omega), (hf.2.2.2 p hp).2.2, andn_nI, andn_nI]
  by_cases e : chi v p = true
  · rw [if_pos e]
    have : mmk v p = 0 := by
      rw [nat_zero_iff]
      intro q
      rw [mmk, tb_msk, cmr, e]
      simp
    rw [this]
  · rw [if_neg e]
    have e' : chi v p = false := by simpa using e
    congr 2
    rw [show tmk v p ^^^ (tmk v p &&& v (70 + p)) ^^^ ((tmk v p ^^^ (tmk v p &&& v (70 + p))) &&& kmk v 3) = mmk v p from ?_]
    apply Nat.eq_of_testBit_eq
    intro q
    simp only [Nat.testBit_xor, Nat.testBit_and, htb, tmk, mmk, tb_msk, cmr, e']
    by_cases hq : q < v 4
    · simp only [hq, decide_true, Bool.true_and]
      cases (q == p) <;> cases tow v p q <;> cases (v (70 + p)).testBit q <;> cases chi v q <;> rfl
    · simp [hq]
theorem s_canMarry {v : Nat → Nat} {σ : bSto} (w : WF v) (t : WFt v) (hv : MV v σ) {p q : Nat} (hp : p < v 4) (hq : q < v 4) : f_X12_canMarry (nI p) (nI q) σ = some (b2 (cmr v p q), σ) := by
  have hp7 : v 4 ≤ 7 := w.2.2.2.2.1
  have hk := w.2.2.2.2.2.2.2.2.2.2.2.2 p (by omega)
  have hkp := (w.2.2.2.2.2.2.2.2.2.2.2.1 p hp).1
  have hkq := (w.2.2.2.2.2.2.2.2.2.2.2.1 q hq).1
  rw [f_X12_canMarry, s_isTownOf w t hv hp hq]
  simp (disch := omega) only [q_lit, q_lt0, q_ge0, q_le, q_lt, q_eq, q_cl, q_add, q_mul, q_div, q_rem, if_false, false_or, bbd, b2_0n, hv.at (70 + p) (by omega) (by omega), s_hasBit hk (show q < 8 by omega), s_kindOf hv (show p < 7 by omega), s_kindOf hv (show q < 7 by omega), f_X12_canMarry_J52]
  rw [if_neg (show ¬ (70 + p < 0 ∨ 406 ≤ 70 + p) by omega), cmr, chi, chi]
  by_cases e : p = q
  · simp [e, b2, q_lit]
  · rw [if_neg e, show (q == p) = false from by simpa using fun z => e z.symm]
    cases tow v p q with
    | false => simp [b2, q_lit]
    | true =>
      cases (v (70 + p)).testBit q with
      | true => simp [b2, q_lit]
      | false =>
        by_cases e1 : v (35 + 4 * p) = 3
        · simp [e1, b2, q_lit]
        · by_cases e2 : v (35 + 4 * q) = 3
          · simp [e2, b2, q_lit]
          · simp [e1, e2, b2, q_lit]
theorem s_mayMarryM {v : Nat → Nat} {σ : bSto} (w : WF v) (t : WFt v) (hv : MV v σ) {p : Nat} (hp : p < v 4) : f_X12_mayMarry_L22 bFU (nI p) (nI 0) (nI 0) σ = some (nI (mmk v p), σ) := by
  have hp7 : v 4 ≤ 7 := w.2.2.2.2.1
  have h : f_X12_mayMarry_L22 bFU (nI p) (nI 0) (nI 0) σ = some (itr (fun q acc => if cmr v p q then acc ||| ((1 : Int32) <<< (nI q &&& 31)) else acc ||| 0) (v 4) 0 (nI 0), σ) := by
    refine lp_all (fun n i acc => f_X12_mayMarry_L22 n (nI p) acc (nI i) σ) (v 4) (by omega) (fun acc => some (acc, σ)) _ (nI 0) ?_ ?_
    · intro n s
      show f_X12_mayMarry_L22 (n + 1) (nI p) s (nI (v 4)) σ = _
      rw [f_X12_mayMarry_L22, hv.at 4 (by decide) (by decide), if_pos (Int32.le_refl _)]
    · intro n i s hi
      show f_X12_mayMarry_L22 (n + 1) (nI p) s (nI i) σ = _
      rw [f_X12_mayMarry_L22, hv.at 4 (by decide) (by decide), s_canMarry w t hv hp hi]
      simp only [bbd, blet, f_X12_mayMarry_J49_22]
      simp (disch := omega) only [q_lit, q_lt0, q_ge0, q_le, q_lt, q_eq, q_cl, q_add, q_mul, q_div, q_rem, b2_0n]
      rw [if_neg (by omega)]
      cases cmr v p i <;> rfl
  rw [h, itr_msk (cmr v p) _ (v 4) (by omega) (fun p m hp => ?_)]
  · rfl
  · split
    · rfl
    · exact Int32.or_zero
