/-! ===== the views: what the cells of class and reference hold of a room (own work) ===== -/
theorem msk_ext {c : Nat → Bool} {n : Nat} : ∀ m, n ≤ m → (∀ p, n ≤ p → p < m → c p = false) → msk c m = msk c n
  | 0, h, _ => by rw [show n = 0 by omega]
  | m + 1, h, hc => by
    by_cases e : n = m + 1
    · rw [e]
    · rw [msk, hc m (by omega) (by omega), msk_ext m (by omega) (fun p a b => hc p a (by omega))]
      rfl
/-- a seat: 0 stands, b + 1 sits on b; the class keeps -2, b -/
def sv (k : Nat) : Int32 := if k = 0 then -2 else nI (k - 1)
theorem sv_eq_all : ∀ k : Fin 7, ∀ b : Fin 6, (sv k.val = nI b.val) = (k.val = b.val + 1) := by decide +kernel
theorem sv_eq {k b : Nat} (hk : k < 7) (hb : b < 6) : (sv k = nI b) = (k = b + 1) := sv_eq_all ⟨k, hk⟩ ⟨b, hb⟩
/-- seats of 7 people, as a Now at n keeps them; as a row a of the reference does -/
def CN (n : Nat) (seat : Nat → Nat) (σ : bSto) : Prop := ∀ p, p < 7 → σ.1 (n + 1) p = sv (seat p)
def MN (a : Nat) (seat : Nat → Nat) (σ : bSto) : Prop := ∀ p, p < 7 → σ.1 a p = nI (seat p)
/-- who sits on b -/
def smk (seat : Nat → Nat) (b : Nat) : Nat := msk (fun p => seat p == b + 1) 7
theorem smk_lt (seat : Nat → Nat) (b : Nat) : smk seat b < 128 := msk_lt _ 7
theorem s_sitters {n b : Nat} {seat : Nat → Nat} {σ : bSto} (hC : CN n seat σ) (hs : ∀ p, seat p < 7) (hb : b < 6) : f_X4_sitters n (nI b) σ = some (nI (smk seat b), σ) := by
  have h : f_X4_sitters_L4 bFU n (nI b) (nI 0) (nI 0) σ = some (itr (fun p acc => if seat p == b + 1 then acc ||| ((1 : Int32) <<< (nI p &&& 31)) else acc) 7 0 (nI 0), σ) := by
    refine lp_all (fun k i acc => f_X4_sitters_L4 k n (nI b) acc (nI i) σ) 7 (by decide) (fun acc => some (acc, σ)) _ (nI 0) ?_ ?_
    · intro k s
      show f_X4_sitters_L4 (k + 1) n (nI b) s (nI 7) σ = _
      rw [f_X4_sitters_L4, if_pos (by decide)]
    · intro k i s hi
      show f_X4_sitters_L4 (k + 1) n (nI b) s (nI i) σ = _
      rw [f_X4_sitters_L4]
      simp (disch := omega) only [q_lit, q_lt0, q_ge0, q_le, q_lt, q_eq, q_cl, q_add, q_mul, q_div, q_rem, blet, hC i hi, sv_eq (hs i) hb, if_false, false_or]
      rw [if_neg (by omega), if_neg (by omega)]
      by_cases e : seat i = b + 1
      · simp only [e, beq_self_eq_true, if_true]
      · simp only [e, beq_iff_eq, if_false]
  show bl1 (f_X4_sitters_L4 bFU n (nI b) (nI 0) (nI 0) σ) _ = _
  rw [h, bl1, itr_msk (fun p => seat p == b + 1) _ 7 (by decide) (fun p m _ => rfl)]
  rfl
theorem s_onBench {a b np : Nat} {seat : Nat → Nat} {σ : bSto} (hC : MN a seat σ) (hl : 7 ≤ bln a) (hs : ∀ p, seat p < 7) (hnp : σ.1 95 4 = nI np) (hn : np ≤ 7) (h0 : ∀ p, np ≤ p → seat p = 0) (hb : b < 6) : f_X12_onBench a (nI b) σ = some (nI (smk seat b), σ) := by
  have h : f_X12_onBench_L5 bFU a (nI b) (nI 0) (nI 0) σ = some (itr (fun p acc => if seat p == b + 1 then acc ||| ((1 : Int32) <<< (nI p &&& 31)) else acc ||| 0) np 0 (nI 0), σ) := by
    refine lp_all (fun k i acc => f_X12_onBench_L5 k a (nI b) acc (nI i) σ) np (by omega) (fun acc => some (acc, σ)) _ (nI 0) ?_ ?_
    · intro k s
      show f_X12_onBench_L5 (k + 1) a (nI b) s (nI np) σ = _
      rw [f_X12_onBench_L5, hnp, if_pos (Int32.le_refl _)]
    · intro k i s hi
      show f_X12_onBench_L5 (k + 1) a (nI b) s (nI i) σ = _
      have hsi := hs i
      rw [f_X12_onBench_L5, hnp]
      simp (disch := omega) only [q_lit, q_lt0, q_ge0, q_le, q_lt, q_eq, q_cl, q_add, q_mul, q_div, q_rem, blet, hC i (by omega), if_false, false_or, f_X12_onBench_J35_5]
      rw [if_neg (by omega), if_neg (by omega)]
      by_cases e : seat i = b + 1
      · simp only [e, beq_self_eq_true, if_true]
      · simp only [e, beq_iff_eq, if_false]
  show bl1 (f_X12_onBench_L5 bFU a (nI b) (nI 0) (nI 0) σ) _ = _
  rw [h, bl1, itr_msk (fun p => seat p == b + 1) _ np (by omega) (fun p m hp => ?_)]
  · rw [smk, msk_ext (n := np) 7 hn (fun p hp _ => by rw [h0 p hp]; simp)]
  · by_cases e : (seat p == b + 1) = true
    · rw [if_pos e, if_pos e]
    · rw [if_neg e, if_neg e]
      show nI m ||| 0 = nI m
      exact Int32.or_zero
