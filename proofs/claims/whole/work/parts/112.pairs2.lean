/-! ===== couples: the class (own work) ===== -/
def ntz (m : Nat) : Nat := fst1 (fun i => m.testBit i) 7 0
theorem ntz_all : ∀ m : Fin 128, m.val = 0 ∨ (f_J6_numberOfTrailingZeros_0f7a4 (nI m.val) bz0).map (fun q => q.1) = some (nI (ntz m.val)) := by decide +kernel
theorem ntz_st (x : Int32) (σ : bSto) : f_J6_numberOfTrailingZeros_0f7a4 x σ = (f_J6_numberOfTrailingZeros_0f7a4 x bz0).map (fun q => (q.1, σ)) := by
  simp only [f_J6_numberOfTrailingZeros_0f7a4, f_J6_numberOfTrailingZeros_0f7a4_J34, f_J6_numberOfTrailingZeros_0f7a4_J49, f_J6_numberOfTrailingZeros_0f7a4_J62, f_J6_numberOfTrailingZeros_0f7a4_J74, blet]
  (repeat' split) <;> rfl
theorem s_ntz {m : Nat} (hm : m < 128) (h0 : m ≠ 0) (σ : bSto) : f_J6_numberOfTrailingZeros_0f7a4 (nI m) σ = some (nI (ntz m), σ) := by
  rw [ntz_st]
  have h := (ntz_all ⟨m, hm⟩).resolve_left h0
  cases hf : f_J6_numberOfTrailingZeros_0f7a4 (nI m) bz0 with
  | none => rw [hf] at h; cases h
  | some q =>
    rw [hf] at h
    have h2 : q.1 = nI (ntz m) := Option.some.inj h
    simp [h2]
theorem fst1_lt (c : Nat → Bool) : ∀ k i, (∀ q, i ≤ q → q < fst1 c k i → c q = false) ∧ (fst1 c k i < i + k → c (fst1 c k i) = true)
  | 0, i => ⟨fun q h1 h2 => by rw [fst1] at h2; omega, fun h => by rw [fst1] at h; omega⟩
  | k + 1, i => by
    rw [fst1]
    by_cases h : c i = true
    · rw [if_pos h]
      exact ⟨fun q h1 h2 => by omega, fun _ => h⟩
    · rw [if_neg h]
      obtain ⟨h1, h2⟩ := fst1_lt c k (i + 1)
      refine ⟨fun q a b => ?_, fun a => h2 (by omega)⟩
      by_cases e : q = i
      · rw [e]; simpa using h
      · exact h1 q (by omega) b
theorem tb_lt {m n i : Nat} (hm : m < 2 ^ n) (hi : n ≤ i) : m.testBit i = false := Nat.testBit_lt_two_pow (Nat.lt_of_lt_of_le hm (Nat.pow_le_pow_right (by decide) hi))
theorem lt_of_tb {m n : Nat} (h : ∀ i, n ≤ i → m.testBit i = false) : m < 2 ^ n := Nat.lt_pow_two_of_testBit m h
theorem ntz_ok {m n : Nat} (hm : m < 2 ^ n) (hn : n ≤ 7) (h0 : m ≠ 0) : ntz m < n ∧ m.testBit (ntz m) = true ∧ ∀ i, i < ntz m → m.testBit i = false := by
  obtain ⟨h1, h2⟩ := fst1_lt (fun i => m.testBit i) 7 0
  have h3 : ntz m < n := by
    by_cases h : ntz m < n
    · exact h
    · exfalso
      apply h0
      rw [nat_zero_iff]
      intro q
      by_cases hq : q < n
      · exact h1 q (Nat.zero_le _) (by show q < ntz m; omega)
      · exact tb_lt hm (by omega)
  exact ⟨h3, h2 (by show ntz m < 0 + 7; omega), fun i hi => h1 i (Nat.zero_le _) hi⟩
/-- a set, as a number, without one -/
def rmv (S q : Nat) : Nat := S ^^^ (S &&& 2 ^ q)
theorem tb_rmv (S q i : Nat) : (rmv S q).testBit i = del S.testBit q i := by
  rw [rmv, Nat.testBit_xor, Nat.testBit_and, Nat.testBit_two_pow, del]
  by_cases e : q = i
  · simp [e]
  · simp [e, beq_eq_false_iff_ne.mpr (show i ≠ q from fun z => e z.symm)]
theorem rmv_lt {S q n : Nat} (h : S < 2 ^ n) : rmv S q < 2 ^ n := lt_of_tb (fun i hi => by rw [tb_rmv, del, tb_lt h hi]; rfl)
theorem shl_q {i : Nat} (h : i < 8) : nI 1 <<< (nI i &&& nI 31) = nI (2 ^ i) := shl_nI h
theorem bit_q {m p : Nat} (hm : m < 128) (hp : p < 8) : (((nI m >>> (nI p &&& nI 31)) &&& nI 1) = nI 1) = (m.testBit p = true) := bit_nI hm hp
theorem rmv_nI {S q : Nat} (hq : q < 8) : nI S &&& ((nI 1 <<< (nI q &&& nI 31)) ^^^ -nI 1) = nI (rmv S q) := by
  rw [shl_q hq, andn_nI]
  rfl
theorem rmv_dec_all : ∀ S : Fin 128, ∀ q : Fin 7, S.val.testBit q.val = true → rmv S.val q.val < S.val := by decide +kernel
theorem rmv_dec {S q : Nat} (hS : S < 128) (hq : q < 7) (h : S.testBit q = true) : rmv S q < S := rmv_dec_all ⟨S, hS⟩ ⟨q, hq⟩ h
theorem p2_128 {S n : Nat} (hn : n ≤ 7) (h : S < 2 ^ n) : S < 128 := Nat.lt_of_lt_of_le h (Nat.pow_le_pow_right (by decide) hn)
/-- the class's table of the most couples, of sets below S -/
def CP (v : Nat → Nat) (S : Nat) (σ : bSto) : Prop := ∀ T, T < S → σ.1 64 T = nI (cpl (cmr v) (v 4) (v 4) T.testBit)
theorem cpl_at (can : Nat → Nat → Bool) {n p : Nat} {A E : Nat → Bool} (hp : p < n) (h0 : ∀ i, i < p + 1 → A i = false) (h1 : ∀ i, p < i → i < n → A i = E i) : cpl can n n A = cpl can n (n - p - 1) E := by
  have := cpl_skip can n A (n - p - 1) (p + 1) (by omega) (fun i _ h2 => h0 i (by omega))
  rw [show n - p - 1 + (p + 1) = n by omega] at this
  rw [this]
  exact cpl_congr can n _ A E (by omega) (fun i h2 h3 => h1 i (by omega) h3)
theorem cpl_low (can : Nat → Nat → Bool) {n p : Nat} {A : Nat → Bool} (hp : p < n) (h0 : ∀ i, i < p → A i = false) (h1 : A p = true) : cpl can n n A = itr (fun q acc => if A q && can p q then max acc (1 + cpl can n (n - p - 1) (del A q)) else acc) (n - p - 1) (p + 1) (cpl can n (n - p - 1) A) := by
  have := cpl_skip can n A (n - p - 1 + 1) p (by omega) (fun i _ h2 => h0 i (by omega))
  rw [show n - p - 1 + 1 + p = n by omega] at this
  rw [this, cpl, show n - (n - p - 1 + 1) = p by omega, if_pos h1, show n - (n - p - 1) = p + 1 by omega]
theorem s_pairsAmong {c : Nat} {v : Nat → Nat} {σ : bSto} (w : WF v) (t : WFt v) (hf : CVf c v σ) (ht : CVt c v σ) {S : Nat} (hS : S < 2 ^ v 4) (h0 : S ≠ 0) (hC : CP v S σ) : f_X0_pairsAmong (c + 7) (nI S) σ = some (nI (cpl (cmr v) (v 4) (v 4) S.testBit), σ) := by
  have hp7 : v 4 ≤ 7 := w.2.2.2.2.1
  have hS7 := p2_128 hp7 hS
  obtain ⟨hp, hb, hlo⟩ := ntz_ok hS hp7 h0
  rw [f_X0_pairsAmong, s_ntz hS7 h0]
  generalize ntz S = p at hp hb hlo
  have hr := rmv_dec hS7 (show p < 7 by omega) hb
  have hrl := p2_128 hp7 (rmv_lt (q := p) hS)
  have e0 : cpl (cmr v) (v 4) (v 4) (rmv S p).testBit = cpl (cmr v) (v 4) (v 4 - p - 1) S.testBit := by
    apply cpl_at _ hp
    · intro i hi
      rw [tb_rmv, del]
      by_cases e : i = p
      · simp [e]
      · rw [hlo i (by omega)]; rfl
    · intro i hi _
      rw [tb_rmv, del, beq_eq_false_iff_ne.mpr (show i ≠ p by omega)]
      simp
  simp (disch := omega) only [q_lit, q_lt0, q_ge0, q_le, q_lt, q_eq, q_cl, q_add, q_mul, q_div, q_rem, bbd, blet, rmv_nI (show p < 8 by omega), if_false, false_or, s_marriable w t hf ht hp]
  simp only [and_nI]
  rw [if_neg (by omega), hC _ hr, e0]
  have hch : mmk v p &&& rmv S p < 128 := Nat.lt_of_le_of_lt Nat.and_le_left (mmk_lt w p)
  have hctb : ∀ q, p < q → q < v 4 → (mmk v p &&& rmv S p).testBit q = (S.testBit q && cmr v p q) := by
    intro q h1 h2
    rw [Nat.testBit_and, tb_rmv, del, mmk, tb_msk, beq_eq_false_iff_ne.mpr (show q ≠ p by omega)]
    simp [h2, Bool.and_comm]
  have hl : f_X0_pairsAmong_L38 bFU (c + 7) (nI (rmv S p)) (nI (cpl (cmr v) (v 4) (v 4 - p - 1) S.testBit)) (nI (mmk v p &&& rmv S p)) (nI (p + 1)) σ = some (nI (itr (fun q acc => if S.testBit q && cmr v p q then max acc (1 + cpl (cmr v) (v 4) (v 4 - p - 1) (del S.testBit q)) else acc) (v 4 - p - 1) (p + 1) (cpl (cmr v) (v 4) (v 4 - p - 1) S.testBit)), σ) := by
    have hgen : ∀ k i acc n, i + k = v 4 → k < n → p < i → acc ≤ 8 → f_X0_pairsAmong_L38 n (c + 7) (nI (rmv S p)) (nI acc) (nI (mmk v p &&& rmv S p)) (nI i) σ = some (nI (itr (fun q acc => if S.testBit q && cmr v p q then max acc (1 + cpl (cmr v) (v 4) (v 4 - p - 1) (del S.testBit q)) else acc) k i acc), σ) := by
      intro k
      induction k with
      | zero =>
        intro i acc n hi hn _ _
        obtain ⟨n, rfl⟩ : ∃ n', n = n' + 1 := ⟨n - 1, by omega⟩
        obtain rfl : i = v 4 := by omega
        rw [f_X0_pairsAmong_L38, hf.1, if_pos (Int32.le_refl _)]
        rfl
      | succ k ih =>
        intro i acc n hi hn hpi hac
        obtain ⟨n, rfl⟩ : ∃ n', n = n' + 1 := ⟨n - 1, by omega⟩
        have hd2 := p2_128 hp7 (rmv_lt (q := i) (rmv_lt (q := p) hS))
        rw [f_X0_pairsAmong_L38, hf.1]
        simp (disch := omega) only [q_lit, q_lt0, q_ge0, q_le, q_lt, q_eq, q_cl, q_add, q_mul, q_div, q_rem, blet, bit_q hch (show i < 8 by omega), hctb i hpi (show i < v 4 by omega), rmv_nI (show i < 8 by omega), if_false, false_or]
        rw [if_neg (by omega), itr]
        by_cases hc : (S.testBit i && cmr v p i) = true
        · have hle := cpl_le (cmr v) (v 4) (v 4 - p - 1) (del S.testBit i)
          have e1 : cpl (cmr v) (v 4) (v 4) (rmv (rmv S p) i).testBit = cpl (cmr v) (v 4) (v 4 - p - 1) (del S.testBit i) := by
            apply cpl_at _ hp
            · intro j hj
              rw [tb_rmv, del, tb_rmv, del]
              by_cases e : j = p
              · simp [e]
              · rw [hlo j (by omega)]; rfl
            · intro j hj _
              rw [tb_rmv, del, tb_rmv, del, del, beq_eq_false_iff_ne.mpr (show j ≠ p by omega)]
              simp
          have hbi : (rmv S p).testBit i = true := by
            rw [tb_rmv, del, beq_eq_false_iff_ne.mpr (show i ≠ p by omega)]
            simp only [Bool.and_eq_true] at hc
            rw [hc.1]; rfl
          rw [if_pos hc, if_pos hc, if_neg (by omega), hC _ (Nat.lt_trans (rmv_dec hrl (show i < 7 by omega) hbi) hr), e1, s_max]
          simp (disch := omega) only [q_lit, q_lt0, q_ge0, q_le, q_lt, q_eq, q_cl, q_add, q_mul, q_div, q_rem, bbd]
          have hmx : (if acc < 1 + cpl (cmr v) (v 4) (v 4 - p - 1) (del S.testBit i) then nI (1 + cpl (cmr v) (v 4) (v 4 - p - 1) (del S.testBit i)) else nI acc) = nI (max acc (1 + cpl (cmr v) (v 4) (v 4 - p - 1) (del S.testBit i))) := by
            by_cases h : acc < 1 + cpl (cmr v) (v 4) (v 4 - p - 1) (del S.testBit i)
            · rw [if_pos h, Nat.max_eq_right (by omega)]
            · rw [if_neg h, Nat.max_eq_left (by omega)]
          rw [hmx]
          exact ih (i + 1) _ n (by omega) (by omega) (by omega) (Nat.max_le.mpr ⟨hac, by omega⟩)
        · rw [if_neg hc, if_neg hc]
          exact ih (i + 1) acc n (by omega) (by omega) (by omega) hac
    have hle := cpl_le (cmr v) (v 4) (v 4 - p - 1) S.testBit
    exact hgen (v 4 - p - 1) (p + 1) _ bFU (by omega) (by show _ < 100000; omega) (by omega) (by omega)
  rw [hl, cpl_low (cmr v) hp hlo hb]
  rfl
theorem CVf.ao {B : Nat → Nat → Prop} {c : Nat} {v : Nat → Nat} {σ τ : bSto} (h : CVf c v σ) (ha : AO B σ τ) (hB : ∀ a k, B a k → a < c + 7 ∨ c + 12 ≤ a) : CVf c v τ := by
  have e : ∀ a k, c + 7 ≤ a → a < c + 12 → τ.1 a k = σ.1 a k := fun a k h1 h2 => ha.1 a k (fun z => by have := hB a k z; omega)
  obtain ⟨h1, h2, h3, h4⟩ := h
  refine ⟨(e _ _ (by omega) (by omega)).trans h1, (e _ _ (by omega) (by omega)).trans h2, (e _ _ (by omega) (by omega)).trans h3, fun p hp => ?_⟩
  obtain ⟨g1, g2, g3⟩ := h4 p hp
  exact ⟨(e _ _ (by omega) (by omega)).trans g1, (e _ _ (by omega) (by omega)).trans g2, (e _ _ (by omega) (by omega)).trans g3⟩
theorem CVt.ao {B : Nat → Nat → Prop} {c : Nat} {v : Nat → Nat} {σ τ : bSto} (h : CVt c v σ) (ha : AO B σ τ) : CVt c v τ := fun p hp => by rw [ha.2]; exact h p hp
def B64 : Nat → Nat → Prop := fun a _ => a = 64 ∨ a = 65
theorem kR_far {c : Nat} (hk : kR c) : c + 22 < 58 ∨ 68 < c := by rcases hk with rfl | rfl <;> omega
theorem s_pairTable {c : Nat} {v : Nat → Nat} (w : WF v) (t : WFt v) (hk : kR c) : ∀ k S n σ, S + k = 2 ^ v 4 → k < n → S ≠ 0 → CVf c v σ → CVt c v σ → CP v S σ → ∃ τ, f_X0_pair_L14 n (c + 7) (nI (2 ^ v 4 - 1)) (nI S) σ = some (c + 7, nI (2 ^ v 4 - 1), τ) ∧ AO B64 σ τ ∧ CP v (2 ^ v 4) τ := by
  have hp7 : v 4 ≤ 7 := w.2.2.2.2.1
  have hpw : 2 ^ v 4 ≤ 128 := Nat.pow_le_pow_right (by decide) hp7
  intro k
  induction k with
  | zero =>
    intro S n σ hi hn h0 hf ht hC
    obtain ⟨n, rfl⟩ : ∃ n', n = n' + 1 := ⟨n - 1, by omega⟩
    obtain rfl : S = 2 ^ v 4 := by omega
    refine ⟨σ, ?_, AO.refl _ _, hC⟩
    rw [f_X0_pair_L14, if_pos]
    have : 0 < 2 ^ v 4 := Nat.pow_pos (by decide)
    rw [q_lt (by omega) (by omega)]
    omega
  | succ k ih =>
    intro S n σ hi hn h0 hf ht hC
    obtain ⟨n, rfl⟩ : ∃ n', n = n' + 1 := ⟨n - 1, by omega⟩
    have hA : AO B64 σ (bI σ 64 S (nI (cpl (cmr v) (v 4) (v 4) S.testBit))) := AO.set σ _ (Or.inl rfl)
    have hfar := kR_far hk
    obtain ⟨τ, h1, h2, h3⟩ := ih (S + 1) n (bI σ 64 S (nI (cpl (cmr v) (v 4) (v 4) S.testBit))) (by omega) (by omega) (by omega) (hf.ao hA (fun a k h => by rcases h with h | h <;> omega)) (ht.ao hA) (by
      intro T hT
      rw [bI_at]
      by_cases e : T = S
      · rw [if_pos ⟨rfl, e⟩, e]
      · rw [if_neg (by simp [e]), hC T (by omega)])
    refine ⟨τ, ?_, hA.trans h2, h3⟩
    rw [← h1, f_X0_pair_L14, s_pairsAmong w t hf ht (by omega) h0 hC]
    simp (disch := omega) only [q_lit, q_lt0, q_ge0, q_le, q_lt, q_eq, q_cl, q_add, q_mul, q_div, q_rem, bbd, blet, if_false, false_or]
    rw [if_neg (by omega), if_neg (by omega)]
