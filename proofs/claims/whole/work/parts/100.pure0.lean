/-! ===== plain numbers: Int32 as Nat; loops; masks (own work) ===== -/
theorem q_lit (n : Nat) : (OfNat.ofNat n : Int32) = nI (OfNat.ofNat n) := by unfold nI; rfl
theorem q_lt0 {a : Nat} (h : a < 2 ^ 31) : (nI a < 0) = False := eq_false (nI_pos h)
theorem q_ge0 {a : Nat} (h : a < 2 ^ 31) : (0 ≤ nI a) = True := eq_true (nI_pos' h)
theorem q_le {a b : Nat} (ha : a < 2 ^ 31) (hb : b < 2 ^ 31) : (nI a ≤ nI b) = (a ≤ b) := propext (nI_leI ha hb)
theorem q_lt {a b : Nat} (ha : a < 2 ^ 31) (hb : b < 2 ^ 31) : (nI a < nI b) = (a < b) := propext (nI_ltI ha hb)
theorem q_eq {a b : Nat} (ha : a < 2 ^ 31) (hb : b < 2 ^ 31) : (nI a = nI b) = (a = b) := propext (nI_eq ha hb)
theorem q_cl {a : Nat} (h : a < 2 ^ 31) : (nI a).toNatClampNeg = a := nI_clamp h
theorem q_add (a b : Nat) : nI a + nI b = nI (a + b) := nI_add a b
theorem q_mul (a b : Nat) : nI a * nI b = nI (a * b) := pk_mul a b
theorem q_sub {a b : Nat} (h : b ≤ a) : nI a - nI b = nI (a - b) := pk_sub h
theorem q_div {a d : Nat} (ha : a < 2 ^ 31) (h0 : 0 < d) (hd : d < 2 ^ 31) : nI a / nI d = nI (a / d) := pk_div ha h0 hd
theorem q_rem (a d : Nat) : nI a - nI (a / d * d) = nI (a % d) := by
  rw [pk_sub (Nat.div_mul_le_self a d)]
  congr 1
  have := Nat.div_add_mod a d
  rw [Nat.mul_comm] at this
  omega
/-- k rounds of step from place i on -/
def itr {β : Type} (step : Nat → β → β) : Nat → Nat → β → β
  | 0, _, s => s
  | k + 1, i, s => itr step k (i + 1) (step i s)
theorem itr_last {β : Type} (step : Nat → β → β) : ∀ (k i : Nat) (s : β), itr step (k + 1) i s = step (i + k) (itr step k i s)
  | 0, i, s => rfl
  | k + 1, i, s => by
    rw [itr, itr_last step k (i + 1) (step i s), itr]
    congr 1
    omega
/-- a loop that counts up to N -/
theorem lp_run {β γ : Type} (F : Nat → Nat → β → Option γ) (N : Nat) (fin : β → Option γ) (step : Nat → β → β) (h0 : ∀ n s, F (n + 1) N s = fin s) (hs : ∀ n i s, i < N → F (n + 1) i s = F n (i + 1) (step i s)) : ∀ k i s n, i + k = N → k < n → F n i s = fin (itr step k i s) := by
  intro k
  induction k with
  | zero =>
    intro i s n hi hn
    obtain ⟨m, rfl⟩ : ∃ m, n = m + 1 := ⟨n - 1, by omega⟩
    obtain rfl : i = N := by omega
    exact h0 m s
  | succ k ih =>
    intro i s n hi hn
    obtain ⟨m, rfl⟩ : ∃ m, n = m + 1 := ⟨n - 1, by omega⟩
    rw [hs m i s (by omega), ih (i + 1) (step i s) m (by omega) (by omega)]
    rfl
/-- the same from 0, with the loops' own fuel -/
theorem lp_all {β γ : Type} (F : Nat → Nat → β → Option γ) (N : Nat) (hN : N < 90000) (fin : β → Option γ) (step : Nat → β → β) (s : β) (h0 : ∀ n s, F (n + 1) N s = fin s) (hs : ∀ n i s, i < N → F (n + 1) i s = F n (i + 1) (step i s)) : F bFU 0 s = fin (itr step N 0 s) :=
  lp_run F N fin step h0 hs N 0 s bFU (by omega) (by show N < 100000; omega)
/-- the set of those below n of whom c is so, as a number -/
def msk (c : Nat → Bool) : Nat → Nat
  | 0 => 0
  | n + 1 => msk c n + (if c n then 2 ^ n else 0)
theorem msk_lt (c : Nat → Bool) : ∀ n, msk c n < 2 ^ n
  | 0 => by show 0 < 1; decide
  | n + 1 => by
    have h := msk_lt c n
    rw [msk, Nat.pow_succ]
    split <;> omega
theorem msk_congr {c e : Nat → Bool} : ∀ n, (∀ p, p < n → c p = e p) → msk c n = msk e n
  | 0, _ => rfl
  | n + 1, h => by rw [msk, msk, msk_congr n (fun p hp => h p (by omega)), h n (by omega)]
theorem or_pow_all : ∀ p : Fin 8, ∀ m : Fin (2 ^ p.val), nI m.val ||| ((1 : Int32) <<< (nI p.val &&& 31)) = nI (m.val + 2 ^ p.val) := by decide +kernel
theorem or_pow {p m : Nat} (hp : p < 8) (hm : m < 2 ^ p) : nI m ||| ((1 : Int32) <<< (nI p &&& 31)) = nI (m + 2 ^ p) := or_pow_all ⟨p, hp⟩ ⟨m, hm⟩
theorem or_zero_all : ∀ m : Fin 256, nI m.val ||| 0 = nI m.val := by decide +kernel
theorem itr_msk (c : Nat → Bool) (step : Nat → Int32 → Int32) : ∀ n, n ≤ 8 → (∀ p m, p < n → step p (nI m) = if c p then nI m ||| ((1 : Int32) <<< (nI p &&& 31)) else nI m) → itr step n 0 (nI 0) = nI (msk c n) := by
  intro n
  induction n with
  | zero => intro _ _; rfl
  | succ n ih =>
    intro hn h
    rw [itr_last, ih (by omega) (fun p m hp => h p m (by omega)), Nat.zero_add, h n _ (by omega), msk]
    split
    · rw [or_pow (by omega) (msk_lt c n)]
    · rfl
/-- how many of the n lowest are in m -/
def pop : Nat → Nat → Nat
  | 0, _ => 0
  | n + 1, m => m % 2 + pop n (m / 2)
theorem bitc_all : ∀ m : Fin 128, ∀ o : Fin 1, (f_J6_bitCount_0f7a4 (nI m.val) bz0).map (fun q => q.1) = some (nI (pop 8 m.val)) := by decide +kernel
theorem bitc_st (x : Int32) (σ : bSto) : f_J6_bitCount_0f7a4 x σ = (f_J6_bitCount_0f7a4 x bz0).map (fun q => (q.1, σ)) := rfl
theorem s_bitc {m : Nat} (hm : m < 128) (σ : bSto) : f_J6_bitCount_0f7a4 (nI m) σ = some (nI (pop 8 m), σ) := by
  rw [bitc_st]
  have h := bitc_all ⟨m, hm⟩ 0
  cases hf : f_J6_bitCount_0f7a4 (nI m) bz0 with
  | none => rw [hf] at h; cases h
  | some q =>
    rw [hf] at h
    have h2 : q.1 = nI (pop 8 m) := Option.some.inj h
    simp [h2]
theorem ones_bit : ∀ m : Fin 128, ∀ k : Fin 8, (nI m.val >>> (nI k.val &&& 31)) &&& (1 : Int32) = nI (m.val / 2 ^ k.val % 2) := by decide +kernel
theorem ones_all : ∀ m : Fin 128, itr (fun k acc => acc + m.val / 2 ^ k % 2) 8 0 0 = pop 8 m.val := by decide +kernel
theorem s_ones {m : Nat} (hm : m < 128) (σ : bSto) : f_X12_ones (nI m) σ = some (nI (pop 8 m), σ) := by
  have h : f_X12_ones_L4 bFU (nI m) (nI 0) (nI 0) σ = some (nI (itr (fun k acc => acc + m / 2 ^ k % 2) 8 0 0), σ) := by
    refine lp_all (fun n i acc => f_X12_ones_L4 n (nI m) (nI acc) (nI i) σ) 8 (by decide) (fun acc => some (nI acc, σ)) (fun k acc => acc + m / 2 ^ k % 2) 0 ?_ ?_
    · intro n s
      show f_X12_ones_L4 (n + 1) (nI m) (nI s) (nI 8) σ = _
      rw [f_X12_ones_L4, if_pos (by decide)]
    · intro n i s hi
      show f_X12_ones_L4 (n + 1) (nI m) (nI s) (nI i) σ = _
      rw [f_X12_ones_L4, if_neg (by simp (disch := omega) only [q_lit, q_lt0, q_ge0, q_le, q_lt, q_eq, q_cl, q_add, q_mul, q_div, q_rem]; omega)]
      simp only [blet]
      rw [ones_bit ⟨m, hm⟩ ⟨i, hi⟩, q_add, q_lit, q_add]
  show bl1 (f_X12_ones_L4 bFU (nI m) (nI 0) (nI 0) σ) _ = _
  rw [h, bl1, ones_all ⟨m, hm⟩]
