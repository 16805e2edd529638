/-! ===== sandwiches (own work) ===== -/
theorem shl_all : ∀ i : Fin 8, (1 : Int32) <<< (nI i.val &&& 31) = nI (2 ^ i.val) := by decide +kernel
theorem shl_nI {i : Nat} (h : i < 8) : (1 : Int32) <<< (nI i &&& 31) = nI (2 ^ i) := shl_all ⟨i, h⟩
theorem msk_or (c : Nat → Bool) {n i : Nat} (hi : i < n) : msk c n ||| 2 ^ i = msk (fun q => c q || q == i) n := by
  apply Nat.eq_of_testBit_eq
  intro q
  rw [Nat.testBit_or, tb_msk, tb_msk, Nat.testBit_two_pow]
  by_cases hq : q < n
  · by_cases e : i = q
    · simp [e, hq]
    · simp [e, hq, show ¬ q = i from fun z => e z.symm]
  · simp [hq, show ¬ i = q by omega]
theorem msk_and (c e : Nat → Bool) (n m : Nat) : msk c n &&& msk e m = msk (fun q => c q && e q) (min n m) := by
  apply Nat.eq_of_testBit_eq
  intro q
  rw [Nat.testBit_and, tb_msk, tb_msk, tb_msk]
  by_cases h1 : q < n <;> by_cases h2 : q < m <;> simp [h1, h2, Nat.lt_min]
theorem low_all : ∀ p : Fin 8, ((1 : Int32) <<< (nI p.val &&& 31)) - (1 : Int32) = nI (2 ^ p.val - 1) := by decide +kernel
theorem low_msk : ∀ p, 2 ^ p - 1 = msk (fun _ => true) p
  | 0 => rfl
  | p + 1 => by
    rw [msk, ← low_msk p, if_pos rfl, Nat.pow_succ]
    have : 0 < 2 ^ p := Nat.pow_pos (by decide)
    omega
theorem bit_all : ∀ m : Fin 128, ∀ p : Fin 8, (((nI m.val >>> (nI p.val &&& 31)) &&& (1 : Int32)) = (1 : Int32)) = (m.val.testBit p.val = true) := by decide +kernel
theorem bit_nI {m p : Nat} (hm : m < 128) (hp : p < 8) : (((nI m >>> (nI p &&& 31)) &&& (1 : Int32)) = (1 : Int32)) = (m.testBit p = true) := bit_all ⟨m, hm⟩ ⟨p, hp⟩
def chi (v : Nat → Nat) (p : Nat) : Bool := v (35 + 4 * p) == 3
/-- how many children, others, there are below i -/
def ccn (v : Nat → Nat) (i : Nat) : Nat := sm (fun q => (chi v q).toNat) i
def ocn (v : Nat → Nat) (i : Nat) : Nat := sm (fun q => (!chi v q).toNat) i
/-- how many eat ahead of p -/
def ahd (v : Nat → Nat) (p : Nat) : Nat := if chi v p then ccn v p else ccn v (v 4) + ocn v p
theorem sm_le (f : Nat → Nat) (h : ∀ i, f i ≤ 1) : ∀ n, sm f n ≤ n
  | 0 => Nat.le_refl _
  | n + 1 => by
    have := sm_le f h n
    have := h n
    rw [sm]
    omega
theorem ccn_le (v : Nat → Nat) (i : Nat) : ccn v i ≤ i := sm_le _ (fun q => by cases chi v q <;> decide) i
theorem ocn_le (v : Nat → Nat) (i : Nat) : ocn v i ≤ i := sm_le _ (fun q => by cases chi v q <;> decide) i
theorem co_sum (v : Nat → Nat) : ∀ i, ccn v i + ocn v i = i
  | 0 => rfl
  | i + 1 => by
    have := co_sum v i
    unfold ccn ocn at this ⊢
    rw [sm, sm]
    cases chi v i <;> simp <;> omega
theorem sm_split (f : Nat → Nat) (a : Nat) : ∀ b, sm f (a + b) = sm f a + sm (fun i => f (a + i)) b
  | 0 => rfl
  | b + 1 => by rw [← Nat.add_assoc, sm, sm_split f a b, sm]; omega
theorem s_eatersAhead {c : Nat} {v : Nat → Nat} {σ : bSto} (w : WF v) (hf : CVf c v σ) {p : Nat} (hp : p < v 4) : f_X2_eatersAhead (c + 7) (nI p) σ = some (nI (ahd v p), σ) := by
  have hp7 : v 4 ≤ 7 := w.2.2.2.2.1
  have hk := kmk_lt w 3
  have htb : (kmk v 3).testBit p = chi v p := by rw [kmk, tb_msk]; simp [hp, chi]
  rw [f_X2_eatersAhead, show (3 : Int32) = nI 3 from rfl, s_ofKind w hf (by decide)]
  simp only [bbd, blet, low_all ⟨p, by omega⟩, bit_nI hk (show p < 8 by omega), htb, f_X2_eatersAhead_J26, or_nI, and_nI]
  rw [low_msk p]
  cases hc : chi v p with
  | true =>
    rw [if_pos rfl, if_neg (by decide), kmk, msk_and, s_bitc (Nat.lt_of_lt_of_le (msk_lt _ _) (Nat.pow_le_pow_right (by decide) (show min (v 4) p ≤ 7 by omega))), pop_msk _ _ (by omega), ahd, hc, if_pos rfl]
    simp only [Bool.and_true]
    rw [show min (v 4) p = p by omega]
    rfl
  | false =>
    have hor : kmk v 3 ||| msk (fun _ => true) p = msk (fun q => chi v q || decide (q < p)) (v 4) := by
      apply Nat.eq_of_testBit_eq
      intro q
      rw [Nat.testBit_or, kmk, tb_msk, tb_msk, tb_msk]
      by_cases h1 : q < v 4 <;> by_cases h2 : q < p <;> simp [h1, h2, chi] <;> omega
    rw [if_neg (by decide), if_pos trivial, hor, s_bitc (Nat.lt_of_lt_of_le (msk_lt _ _) (Nat.pow_le_pow_right (by decide) hp7)), pop_msk _ _ (by omega), ahd, hc, if_neg (by decide)]
    have hsum : ∀ i, i ≤ v 4 → sm (fun q => (chi v q || decide (q < p)).toNat) i = ccn v i + ocn v (min i p) := by
      intro i
      induction i with
      | zero => intro _; rfl
      | succ i ih =>
        intro hi
        rw [sm, ih (by omega), ccn, ccn, sm]
        by_cases h2 : i < p
        · rw [show min i p = i by omega, show min (i + 1) p = i + 1 by omega, ocn, ocn, sm]
          cases chi v i <;> simp [h2] <;> omega
        · rw [show min i p = p by omega, show min (i + 1) p = p by omega]
          cases chi v i <;> simp [h2] <;> omega
    rw [hsum (v 4) (Nat.le_refl _), show min (v 4) p = p by omega]
/-- who eats of S sandwiches -/
def eat (v : Nat → Nat) (S : Nat) : Nat := msk (fun p => decide (ahd v p < S)) (v 4)
theorem eat_lt {v : Nat → Nat} (w : WF v) (S : Nat) : eat v S < 128 := Nat.lt_of_lt_of_le (msk_lt _ _) (Nat.pow_le_pow_right (by decide) w.2.2.2.2.1)
theorem ahd_le {v : Nat → Nat} (p : Nat) : ahd v p ≤ v 4 + p := by
  have h1 := ccn_le v p
  have h2 := ocn_le v p
  have h3 := ccn_le v (v 4)
  unfold ahd
  split <;> omega
theorem s_firstEaters {c : Nat} {v : Nat → Nat} {σ : bSto} (w : WF v) (hf : CVf c v σ) {S : Nat} (hS : S ≤ 200) : f_X2_firstEaters (c + 7) (nI S) σ = some (nI (eat v S), σ) := by
  have hp7 : v 4 ≤ 7 := w.2.2.2.2.1
  have h : f_X2_firstEaters_L4 bFU (c + 7) (nI S) (nI 0) (nI 0) σ = some (itr (fun p acc => if decide (ahd v p < S) then acc ||| ((1 : Int32) <<< (nI p &&& 31)) else acc) (v 4) 0 (nI 0), σ) := by
    refine lp_all (fun n i acc => f_X2_firstEaters_L4 n (c + 7) (nI S) acc (nI i) σ) (v 4) (by omega) (fun acc => some (acc, σ)) _ (nI 0) ?_ ?_
    · intro n s
      show f_X2_firstEaters_L4 (n + 1) (c + 7) (nI S) s (nI (v 4)) σ = _
      rw [f_X2_firstEaters_L4, hf.1, if_pos (Int32.le_refl _)]
    · intro n i s hi
      show f_X2_firstEaters_L4 (n + 1) (c + 7) (nI S) s (nI i) σ = _
      have ha := ahd_le (v := v) i
      rw [f_X2_firstEaters_L4, hf.1, s_eatersAhead w hf hi]
      simp (disch := omega) only [q_lit, q_lt0, q_ge0, q_le, q_lt, q_eq, q_cl, q_add, q_mul, q_div, q_rem, bbd, blet]
      rw [if_neg (by omega)]
      by_cases e : ahd v i < S
      · simp only [e, decide_true, if_true, show ¬ S ≤ ahd v i by omega, if_false]
      · simp only [e, decide_false, if_false, show S ≤ ahd v i by omega, if_true]
        rfl
  show bl1 (f_X2_firstEaters_L4 bFU (c + 7) (nI S) (nI 0) (nI 0) σ) _ = _
  rw [h, bl1, itr_msk (fun p => decide (ahd v p < S)) _ (v 4) (by omega) (fun p m _ => rfl)]
  rfl
/-- a loop whose state is known at each place -/
theorem lp_form {γ : Type} (F : Nat → Nat → Option γ) (N : Nat) (hN : N < 90000) (out : Option γ) (h0 : ∀ n, F (n + 1) N = out) (hs : ∀ n i, i < N → F (n + 1) i = F n (i + 1)) : F bFU 0 = out := by
  have h : ∀ k i n, i + k = N → k < n → F n i = out := by
    intro k
    induction k with
    | zero =>
      intro i n hi hn
      obtain ⟨m, rfl⟩ : ∃ m, n = m + 1 := ⟨n - 1, by omega⟩
      obtain rfl : i = N := by omega
      exact h0 m
    | succ k ih =>
      intro i n hi hn
      obtain ⟨m, rfl⟩ : ∃ m, n = m + 1 := ⟨n - 1, by omega⟩
      rw [hs m i (by omega)]
      exact ih (i + 1) m (by omega) (by omega)
  exact h N 0 bFU (by omega) (by show N < 100000; omega)
theorem dec_nI {a : Nat} (h : 0 < a) : nI a + -nI 1 = nI (a - 1) := by
  obtain ⟨b, rfl⟩ : ∃ b, a = b + 1 := ⟨a - 1, by omega⟩
  exact pk_m1 b
/-- turn 0: the children below i who eat; turn 1: the others below i who do besides -/
def et0 (v : Nat → Nat) (S i : Nat) : Nat := msk (fun q => chi v q && decide (ccn v q < S) && decide (q < i)) (v 4)
def et1 (v : Nat → Nat) (S i : Nat) : Nat := msk (fun q => (chi v q && decide (ccn v q < S)) || (!chi v q && decide (ccn v (v 4) + ocn v q < S) && decide (q < i))) (v 4)
theorem et0_step {v : Nat → Nat} {S i : Nat} (hi : i < v 4) : et0 v S (i + 1) = if chi v i && decide (ccn v i < S) then et0 v S i ||| 2 ^ i else et0 v S i := by
  by_cases h : (chi v i && decide (ccn v i < S)) = true
  · rw [if_pos h, et0, et0, msk_or _ hi]
    apply msk_congr
    intro q hq
    by_cases e : q = i
    · subst e; simp [h]
    · simp [show (q < i + 1) = (q < i) from propext ⟨fun z => by omega, fun z => by omega⟩, e]
  · rw [if_neg h, et0, et0]
    apply msk_congr
    intro q hq
    by_cases e : q = i
    · subst e
      have : (chi v q && decide (ccn v q < S)) = false := by simpa using h
      simp [this]
    · simp [show (q < i + 1) = (q < i) from propext ⟨fun z => by omega, fun z => by omega⟩]
theorem et1_step {v : Nat → Nat} {S i : Nat} (hi : i < v 4) : et1 v S (i + 1) = if !chi v i && decide (ccn v (v 4) + ocn v i < S) then et1 v S i ||| 2 ^ i else et1 v S i := by
  by_cases h : (!chi v i && decide (ccn v (v 4) + ocn v i < S)) = true
  · rw [if_pos h, et1, et1, msk_or _ hi]
    apply msk_congr
    intro q hq
    by_cases e : q = i
    · subst e; simp [h]
    · simp [show (q < i + 1) = (q < i) from propext ⟨fun z => by omega, fun z => by omega⟩, e]
  · rw [if_neg h, et1, et1]
    apply msk_congr
    intro q hq
    by_cases e : q = i
    · subst e
      have : (!chi v q && decide (ccn v (v 4) + ocn v q < S)) = false := by simpa using h
      simp [this]
    · simp [show (q < i + 1) = (q < i) from propext ⟨fun z => by omega, fun z => by omega⟩]
theorem et_0 (v : Nat → Nat) (S : Nat) : et0 v S 0 = 0 := by
  have : et0 v S 0 = msk (fun _ => false) (v 4) := msk_congr _ (fun q _ => by simp)
  rw [this]
  have hz : ∀ n, msk (fun _ => false) n = 0 := by
    intro n
    induction n with
    | zero => rfl
    | succ n ih => rw [msk, ih]; rfl
  exact hz _
theorem et_01 (v : Nat → Nat) (S : Nat) : et0 v S (v 4) = et1 v S 0 := msk_congr _ (fun q hq => by simp [hq])
theorem et_1 (v : Nat → Nat) (S : Nat) : et1 v S (v 4) = eat v S := msk_congr _ (fun q hq => by
  unfold ahd
  cases chi v q <;> simp [hq])
theorem et1_lt {v : Nat → Nat} (w : WF v) (S i : Nat) : et1 v S i < 128 := Nat.lt_of_lt_of_le (msk_lt _ _) (Nat.pow_le_pow_right (by decide) w.2.2.2.2.1)
theorem chi_k {v : Nat → Nat} (p : Nat) : (v (35 + 4 * p) = 3) = (chi v p = true) := by simp [chi]
theorem s_whoEats {v : Nat → Nat} {σ : bSto} (w : WF v) (hv : MV v σ) {S : Nat} (hS : S ≤ 200) : f_X12_whoEats (nI S) σ = some (nI (eat v S), σ) := by
  have hp7 : v 4 ≤ 7 := w.2.2.2.2.1
  have hc7 := ccn_le v (v 4)
  have h0 : f_X12_whoEats_L16 bFU (nI 0) (nI S) (nI 0) (nI 0) σ = some (nI (et1 v S 0), nI (S - ccn v (v 4)), nI 0, σ) := by
    rw [← et_01, show f_X12_whoEats_L16 bFU (nI 0) (nI S) (nI 0) (nI 0) σ = f_X12_whoEats_L16 bFU (nI (et0 v S 0)) (nI (S - ccn v 0)) (nI 0) (nI 0) σ by rw [et_0]; rfl]
    refine lp_form (fun n i => f_X12_whoEats_L16 n (nI (et0 v S i)) (nI (S - ccn v i)) (nI 0) (nI i) σ) (v 4) (by omega) _ ?_ ?_
    · intro n
      show f_X12_whoEats_L16 (n + 1) (nI (et0 v S (v 4))) (nI (S - ccn v (v 4))) (nI 0) (nI (v 4)) σ = _
      rw [f_X12_whoEats_L16, hv.at 4 (by decide) (by decide), if_pos (Int32.le_refl _)]
    · intro n i hi
      show f_X12_whoEats_L16 (n + 1) (nI (et0 v S i)) (nI (S - ccn v i)) (nI 0) (nI i) σ = f_X12_whoEats_L16 n (nI (et0 v S (i + 1))) (nI (S - ccn v (i + 1))) (nI 0) (nI (i + 1)) σ
      have hk := (w.2.2.2.2.2.2.2.2.2.2.2.1 i hi).1
      have hs1 : ccn v (i + 1) = ccn v i + (chi v i).toNat := rfl
      rw [f_X12_whoEats_L16, hv.at 4 (by decide) (by decide), s_kindOf hv (by omega), et0_step hi, hs1]
      simp only [bbd, blet, f_X12_whoEats_J46_16, f_X12_whoEats_J56_16, shl_nI (show i < 8 by omega), or_nI]
      simp (disch := omega) only [q_lit, q_lt0, q_ge0, q_le, q_lt, q_eq, q_cl, q_add, q_mul, q_div, q_rem, chi_k]
      rw [if_neg (by omega)]
      by_cases e : S - ccn v i = 0
      · rw [if_pos e, show decide (ccn v i < S) = false from decide_eq_false (by omega), Bool.and_false, if_neg (by decide)]
        rw [show S - (ccn v i + (chi v i).toNat) = S - ccn v i by omega]
      · rw [if_neg e, show decide (ccn v i < S) = true from decide_eq_true (by omega), Bool.and_true]
        cases hc : chi v i with
        | true =>
          simp only [if_true, dec_nI (show 0 < S - ccn v i by omega), Bool.toNat_true]
          rw [show S - (ccn v i + 1) = S - ccn v i - 1 by omega]
        | false => rfl
  have h1 : f_X12_whoEats_L16 bFU (nI (et1 v S 0)) (nI (S - ccn v (v 4))) (nI 1) (nI 0) σ = some (nI (eat v S), nI (S - ccn v (v 4) - ocn v (v 4)), nI 1, σ) := by
    rw [← et_1]
    refine lp_form (fun n i => f_X12_whoEats_L16 n (nI (et1 v S i)) (nI (S - ccn v (v 4) - ocn v i)) (nI 1) (nI i) σ) (v 4) (by omega) _ ?_ ?_
    · intro n
      show f_X12_whoEats_L16 (n + 1) (nI (et1 v S (v 4))) (nI (S - ccn v (v 4) - ocn v (v 4))) (nI 1) (nI (v 4)) σ = _
      rw [f_X12_whoEats_L16, hv.at 4 (by decide) (by decide), if_pos (Int32.le_refl _)]
    · intro n i hi
      show f_X12_whoEats_L16 (n + 1) (nI (et1 v S i)) (nI (S - ccn v (v 4) - ocn v i)) (nI 1) (nI i) σ = f_X12_whoEats_L16 n (nI (et1 v S (i + 1))) (nI (S - ccn v (v 4) - ocn v (i + 1))) (nI 1) (nI (i + 1)) σ
      have hk := (w.2.2.2.2.2.2.2.2.2.2.2.1 i hi).1
      have hs1 : ocn v (i + 1) = ocn v i + (!chi v i).toNat := rfl
      rw [f_X12_whoEats_L16, hv.at 4 (by decide) (by decide), s_kindOf hv (by omega), et1_step hi, hs1]
      simp only [bbd, blet, f_X12_whoEats_J46_16, f_X12_whoEats_J56_16, shl_nI (show i < 8 by omega), or_nI]
      simp (disch := omega) only [q_lit, q_lt0, q_ge0, q_le, q_lt, q_eq, q_cl, q_add, q_mul, q_div, q_rem, chi_k]
      rw [if_neg (by omega)]
      by_cases e : S - ccn v (v 4) - ocn v i = 0
      · rw [if_pos e, show decide (ccn v (v 4) + ocn v i < S) = false from decide_eq_false (by omega), Bool.and_false, if_neg (by decide)]
        rw [show S - ccn v (v 4) - (ocn v i + (!chi v i).toNat) = S - ccn v (v 4) - ocn v i by omega]
      · rw [if_neg e, show decide (ccn v (v 4) + ocn v i < S) = true from decide_eq_true (by omega), Bool.and_true]
        cases hc : chi v i with
        | true => rfl
        | false =>
          simp only [dec_nI (show 0 < S - ccn v (v 4) - ocn v i by omega), Bool.not_false, Bool.toNat_true, if_true, show (false = true) = False from by simp, if_false, show (1 : Nat) ≠ 0 from by decide]
          rw [show S - ccn v (v 4) - (ocn v i + 1) = S - ccn v (v 4) - ocn v i - 1 by omega]
  have h2 : ∀ n, f_X12_whoEats_L7 (n + 1 + 1 + 1) (nI 0) (nI S) (nI 0) σ = some (nI (eat v S), σ) := by
    intro n
    rw [f_X12_whoEats_L7, if_neg (by decide), show (0 : Int32) = nI 0 from rfl, h0]
    simp only [bl3, blet]
    rw [show nI 0 + (1 : Int32) = nI 1 from rfl, f_X12_whoEats_L7, if_neg (by decide), show (0 : Int32) = nI 0 from rfl, h1]
    simp only [bl3, blet]
    rw [f_X12_whoEats_L7, if_pos (by decide)]
  show bl1 (f_X12_whoEats_L7 bFU (nI 0) (nI S) (nI 0) σ) _ = _
  rw [show bFU = 99997 + 1 + 1 + 1 from rfl, h2, bl1]
