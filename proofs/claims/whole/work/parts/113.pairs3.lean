/-! ===== couples: the class's first row (own work) ===== -/
theorem s_wed {c : Nat} {v : Nat → Nat} {σ : bSto} (w : WF v) (t : WFt v) (hf : CVf c v σ) (ht : CVt c v σ) (hC : CP v (2 ^ v 4) σ) {p S : Nat} (hp : p < v 4) (hS : S < 2 ^ v 4) (hb : S.testBit p = true) (hlo : ∀ i, i < p → S.testBit i = false) (Q : Nat) (hQ : Q = fst1 (fun q => (S.testBit q && cmr v p q) && (1 + cpl (cmr v) (v 4) (v 4 - p - 1) (del S.testBit q) == cpl (cmr v) (v 4) (v 4) S.testBit)) (v 4 - p - 1) (p + 1)) : f_X0_wed (c + 7) (nI p) (nI S) σ = some (if Q < v 4 then (nI (rmv (rmv S p) Q), bI (bI σ 65 p (nI Q)) 65 Q (nI p)) else (nI (rmv S p), σ)) := by
  have hp7 : v 4 ≤ 7 := w.2.2.2.2.1
  have hS7 := p2_128 hp7 hS
  have hrl := p2_128 hp7 (rmv_lt (q := p) hS)
  have hch : mmk v p &&& rmv S p < 128 := Nat.lt_of_le_of_lt Nat.and_le_left (mmk_lt w p)
  have hctb : ∀ q, p < q → q < v 4 → (mmk v p &&& rmv S p).testBit q = (S.testBit q && cmr v p q) := by
    intro q h1 h2
    rw [Nat.testBit_and, tb_rmv, del, mmk, tb_msk, beq_eq_false_iff_ne.mpr (show q ≠ p by omega)]
    simp [h2, Bool.and_comm]
  have hgen : ∀ k i n, i + k = v 4 → k < n → p < i → f_X0_wed_L24 n (c + 7) (nI p) (nI S) (nI (rmv S p)) (nI (mmk v p &&& rmv S p)) (nI i) σ = if fst1 (fun q => (S.testBit q && cmr v p q) && (1 + cpl (cmr v) (v 4) (v 4 - p - 1) (del S.testBit q) == cpl (cmr v) (v 4) (v 4) S.testBit)) k i < v 4 then some (.inl (nI (rmv (rmv S p) (fst1 (fun q => (S.testBit q && cmr v p q) && (1 + cpl (cmr v) (v 4) (v 4 - p - 1) (del S.testBit q) == cpl (cmr v) (v 4) (v 4) S.testBit)) k i)), bI (bI σ 65 p (nI (fst1 (fun q => (S.testBit q && cmr v p q) && (1 + cpl (cmr v) (v 4) (v 4 - p - 1) (del S.testBit q) == cpl (cmr v) (v 4) (v 4) S.testBit)) k i))) 65 (fst1 (fun q => (S.testBit q && cmr v p q) && (1 + cpl (cmr v) (v 4) (v 4 - p - 1) (del S.testBit q) == cpl (cmr v) (v 4) (v 4) S.testBit)) k i) (nI p))) else some (.inr (nI (rmv S p), σ)) := by
    intro k
    induction k with
    | zero =>
      intro i n hi hn _
      obtain ⟨n, rfl⟩ : ∃ n', n = n' + 1 := ⟨n - 1, by omega⟩
      obtain rfl : i = v 4 := by omega
      rw [f_X0_wed_L24, hf.1, if_pos (Int32.le_refl _), fst1, if_neg (by omega)]
    | succ k ih =>
      intro i n hi hn hpi
      obtain ⟨n, rfl⟩ : ∃ n', n = n' + 1 := ⟨n - 1, by omega⟩
      have hd2 := p2_128 hp7 (rmv_lt (q := i) (rmv_lt (q := p) hS))
      have hle := cpl_le (cmr v) (v 4) (v 4 - p - 1) (del S.testBit i)
      have hle2 := cpl_le (cmr v) (v 4) (v 4) S.testBit
      have e1 : cpl (cmr v) (v 4) (v 4) (rmv (rmv S p) i).testBit = cpl (cmr v) (v 4) (v 4 - p - 1) (del S.testBit i) := by
        apply cpl_at _ hp
        · intro j hj
          rw [tb_rmv, del, tb_rmv, del]
          by_cases e : j = p
          · simp [e]
          · rw [hlo j (by omega)]; rfl
        · intro j hj _
          rw [tb_rmv, del, tb_rmv, del, del, beq_eq_false_iff_ne.mpr (show j ≠ p by omega)]
          simp
      rw [f_X0_wed_L24, hf.1]
      simp (disch := omega) only [q_lit, q_lt0, q_ge0, q_le, q_lt, q_eq, q_cl, q_add, q_mul, q_div, q_rem, blet, bit_q hch (show i < 8 by omega), hctb i hpi (show i < v 4 by omega), rmv_nI (show i < 8 by omega), if_false, false_or, hC _ (rmv_lt (rmv_lt hS)), hC S hS, e1]
      rw [if_neg (show ¬ v 4 ≤ i by omega), if_neg (show ¬ (rmv (rmv S p) i < 0 ∨ 128 ≤ rmv (rmv S p) i) by omega), if_neg (show ¬ (S < 0 ∨ 128 ≤ S) by omega), if_neg (show ¬ (p < 0 ∨ 7 ≤ p) by omega), if_neg (show ¬ (i < 0 ∨ 7 ≤ i) by omega), fst1]
      by_cases hc : (S.testBit i && cmr v p i) = true
      · rw [if_pos hc, hc, Bool.true_and]
        by_cases h2 : 1 + cpl (cmr v) (v 4) (v 4 - p - 1) (del S.testBit i) = cpl (cmr v) (v 4) (v 4) S.testBit
        · have h3 : (1 + cpl (cmr v) (v 4) (v 4 - p - 1) (del S.testBit i) == cpl (cmr v) (v 4) (v 4) S.testBit) = true := by simp [h2]
          rw [if_pos h2, if_pos h3, if_pos (by omega)]
        · have h3 : ¬ (1 + cpl (cmr v) (v 4) (v 4 - p - 1) (del S.testBit i) == cpl (cmr v) (v 4) (v 4) S.testBit) = true := by simp [h2]
          rw [if_neg h2, if_neg h3]
          exact ih (i + 1) n (by omega) (by omega) (by omega)
      · have h3 : ¬ ((S.testBit i && cmr v p i) && (1 + cpl (cmr v) (v 4) (v 4 - p - 1) (del S.testBit i) == cpl (cmr v) (v 4) (v 4) S.testBit)) = true := by simp [hc]
        rw [if_neg hc, if_neg h3]
        exact ih (i + 1) n (by omega) (by omega) (by omega)
  rw [f_X0_wed]
  simp (disch := omega) only [q_lit, q_lt0, q_ge0, q_le, q_lt, q_eq, q_cl, q_add, q_mul, q_div, q_rem, blet, rmv_nI (show p < 8 by omega), s_marriable w t hf ht hp, bbd]
  rw [and_nI, hgen (v 4 - p - 1) (p + 1) bFU (by omega) (by show _ < 100000; omega) (by omega), ← hQ]
  split <;> rfl
/-- the class's row of partners -/
def PN (a : Nat) (r : Nat → Nat) (σ : bSto) : Prop := ∀ i, i < 7 → σ.1 a i = sv (r i)
theorem CP.ao {B : Nat → Nat → Prop} {v : Nat → Nat} {S : Nat} {σ τ : bSto} (h : CP v S σ) (ha : AO B σ τ) (hB : ∀ k, ¬ B 64 k) : CP v S τ := fun T hT => (ha.1 64 T (hB T)).trans (h T hT)
def B65 : Nat → Nat → Prop := fun a _ => a = 65
theorem s_pairRow {c : Nat} {v : Nat → Nat} (w : WF v) (t : WFt v) (hk : kR c) (x2 : Int32) (R : Nat → Nat) : ∀ k p n S r σ, p + k = v 4 → k < n → S < 2 ^ v 4 → (∀ i, i < p → S.testBit i = false) → CVf c v σ → CVt c v σ → CP v (2 ^ v 4) σ → PN 65 r σ → cpf (cmr v) (v 4) k S.testBit r = R → ∃ τ, f_X0_pair_L51 n (c + 7) x2 (nI S) (nI p) σ = some (x2, τ) ∧ AO B65 σ τ ∧ PN 65 R τ := by
  have hp7 : v 4 ≤ 7 := w.2.2.2.2.1
  have hfar := kR_far hk
  intro k
  induction k with
  | zero =>
    intro p n S r σ hi hn hS hlo hf ht hC hP hR
    obtain ⟨n, rfl⟩ : ∃ n', n = n' + 1 := ⟨n - 1, by omega⟩
    obtain rfl : p = v 4 := by omega
    refine ⟨σ, ?_, AO.refl _ _, ?_⟩
    · rw [f_X0_pair_L51, hf.1, if_pos (Int32.le_refl _)]
    · rw [← hR]; exact hP
  | succ k ih =>
    intro p n S r σ hi hn hS hlo hf ht hC hP hR
    obtain ⟨n, rfl⟩ : ∃ n', n = n' + 1 := ⟨n - 1, by omega⟩
    have hS7 := p2_128 hp7 hS
    rw [cpf, show v 4 - (k + 1) = p by omega, show v 4 - k = p + 1 by omega] at hR
    by_cases hb : S.testBit p = true
    · have hfull : cpl (cmr v) (v 4) (v 4) S.testBit = cpl (cmr v) (v 4) (k + 1) S.testBit := by
        have := cpl_skip (cmr v) (v 4) S.testBit (k + 1) p (by omega) (fun i _ h2 => hlo i (by omega))
        rw [show k + 1 + p = v 4 by omega] at this
        exact this
      have hwd := s_wed w t hf ht hC (by omega) hS hb hlo _ rfl
      rw [hfull, show v 4 - p - 1 = k by omega] at hwd
      rw [if_pos hb] at hR
      generalize fst1 (fun q => (S.testBit q && cmr v p q) && (1 + cpl (cmr v) (v 4) k (del S.testBit q) == cpl (cmr v) (v 4) (k + 1) S.testBit)) k (p + 1) = Q at hwd hR
      have hrest : ∀ S' r' σ', S' < 2 ^ v 4 → (∀ i, i < p + 1 → S'.testBit i = false) → AO B65 σ σ' → PN 65 r' σ' → cpf (cmr v) (v 4) k S'.testBit r' = R → f_X0_wed (c + 7) (nI p) (nI S) σ = some (nI S', σ') → ∃ τ, f_X0_pair_L51 (n + 1) (c + 7) x2 (nI S) (nI p) σ = some (x2, τ) ∧ AO B65 σ τ ∧ PN 65 R τ := by
        intro S' r' σ' h1 h2 h3 h4 h5 h6
        obtain ⟨τ, g1, g2, g3⟩ := ih (p + 1) n S' r' σ' (by omega) (by omega) h1 h2 (hf.ao h3 (fun a k h => by have : a = 65 := h; omega)) (ht.ao h3) (hC.ao h3 (fun k h => by have : (64 : Nat) = 65 := h; omega)) h4 h5
        refine ⟨τ, ?_, h3.trans g2, g3⟩
        rw [← g1, f_X0_pair_L51, hf.1, h6]
        simp (disch := omega) only [q_lit, q_lt0, q_ge0, q_le, q_lt, q_eq, q_cl, q_add, q_mul, q_div, q_rem, bit_q hS7 (show p < 8 by omega), hb, if_true, bbd, blet]
        rw [if_neg (by omega)]
      by_cases hq : Q < v 4
      · rw [if_pos hq] at hwd hR
        refine hrest _ (cps r p Q) _ (rmv_lt (rmv_lt hS)) ?_ ?_ ?_ ?_ hwd
        · intro i hi
          rw [tb_rmv, del, tb_rmv, del]
          by_cases e : i = p
          · simp [e]
          · rw [hlo i (by omega)]; rfl
        · exact AO.trans (B := B65) (AO.set σ _ (show B65 65 p from rfl)) (AO.set _ _ (show B65 65 Q from rfl))
        · intro i hi
          rw [bI_at, bI_at, cps]
          by_cases e1 : i = Q
          · rw [if_pos ⟨rfl, e1⟩, if_pos e1]; rfl
          · rw [if_neg (by simp [e1]), if_neg e1]
            by_cases e2 : i = p
            · rw [if_pos ⟨rfl, e2⟩, if_pos e2]; rfl
            · rw [if_neg (by simp [e2]), if_neg e2, hP i hi]
        · rw [← hR]
          apply cpf_congr _ _ _ _ _ _ (by omega)
          intro i h1 h2
          rw [tb_rmv, del, tb_rmv, del, del, beq_eq_false_iff_ne.mpr (show i ≠ p by omega)]
          simp
      · rw [if_neg hq] at hwd hR
        refine hrest _ r _ (rmv_lt hS) ?_ (AO.refl _ _) hP ?_ hwd
        · intro i hi
          rw [tb_rmv, del]
          by_cases e : i = p
          · simp [e]
          · rw [hlo i (by omega)]; rfl
        · rw [← hR]
          apply cpf_congr _ _ _ _ _ _ (by omega)
          intro i h1 h2
          rw [tb_rmv, del, beq_eq_false_iff_ne.mpr (show i ≠ p by omega)]
          simp
    · rw [if_neg hb] at hR
      obtain ⟨τ, g1, g2, g3⟩ := ih (p + 1) n S r σ (by omega) (by omega) hS (fun i hi => by
        by_cases e : i = p
        · rw [e]; simpa using hb
        · exact hlo i (by omega)) hf ht hC hP hR
      refine ⟨τ, ?_, g2, g3⟩
      rw [← g1, f_X0_pair_L51, hf.1]
      simp (disch := omega) only [q_lit, q_lt0, q_ge0, q_le, q_lt, q_eq, q_cl, q_add, q_mul, q_div, q_rem, bit_q hS7 (show p < 8 by omega), hb, blet]
      rw [if_neg (by omega)]
      simp
def everyone (n : Nat) : Nat → Bool := fun i => decide (i < n)
theorem tb_all (n i : Nat) : (2 ^ n - 1).testBit i = everyone n i := by rw [Nat.testBit_two_pow_sub_one]; rfl
theorem every_all : ∀ p : Fin 8, ((1 : Int32) <<< (nI p.val &&& 31)) - (1 : Int32) = nI (2 ^ p.val - 1) := by decide +kernel
theorem s_everybody {c : Nat} {v : Nat → Nat} {σ : bSto} (w : WF v) (hf : CVf c v σ) : f_X2_everybody (c + 7) σ = some (nI (2 ^ v 4 - 1), σ) := by
  have hp7 : v 4 ≤ 7 := w.2.2.2.2.1
  rw [f_X2_everybody, hf.1, every_all ⟨v 4, by omega⟩]
theorem s_pair {c : Nat} {v : Nat → Nat} {σ : bSto} (w : WF v) (t : WFt v) (hk : kR c) (hf : CVf c v σ) (ht : CVt c v σ) : ∃ τ, f_X0_pair (c + 7) σ = some (nI (cpl (cmr v) (v 4) (v 4) (everyone (v 4))), τ) ∧ AO B64 σ τ ∧ PN 65 (cpf (cmr v) (v 4) (v 4) (everyone (v 4)) (fun _ => 0)) τ := by
  have hp7 : v 4 ≤ 7 := w.2.2.2.2.1
  have hfar := kR_far hk
  have hpw : 2 ^ v 4 ≤ 128 := Nat.pow_le_pow_right (by decide) hp7
  have hpw0 : 0 < 2 ^ v 4 := Nat.pow_pos (by decide)
  have hA0 : AO B64 σ (bI σ 64 0 (nI 0)) := AO.set σ _ (Or.inl rfl)
  have hB : ∀ a k, B64 a k → a < c + 7 ∨ c + 12 ≤ a := fun a k h => by rcases h with h | h <;> omega
  obtain ⟨σ1, g1, g2, g3⟩ := s_pairTable w t hk (2 ^ v 4 - 1) 1 bFU (bI σ 64 0 (nI 0)) (by omega) (by show _ < 100000; omega) (by omega) (hf.ao hA0 hB) (ht.ao hA0) (by
    intro T hT
    obtain rfl : T = 0 := by omega
    rw [bI_eq]
    have : cpl (cmr v) (v 4) (v 4) (0 : Nat).testBit = 0 := by
      have := cpl_skip (cmr v) (v 4) (0 : Nat).testBit 0 (v 4) (by omega) (fun i _ _ => Nat.zero_testBit i)
      rw [Nat.zero_add] at this
      rw [this]
      rfl
    rw [this])
  have hA1 : AO B64 σ σ1 := hA0.trans g2
  have hA2 : AO B65 σ1 (bA σ1 65 (fun k => if k < 7 then -2 else σ1.1 65 k)) := AO.setA σ1 _ (fun k => Or.inr rfl)
  have hA3 : AO B64 σ (bA σ1 65 (fun k => if k < 7 then -2 else σ1.1 65 k)) := hA1.trans (hA2.mono (fun a k h => Or.inr h))
  have hall : cpf (cmr v) (v 4) (v 4) (2 ^ v 4 - 1).testBit (fun _ => 0) = cpf (cmr v) (v 4) (v 4) (everyone (v 4)) (fun _ => 0) := cpf_congr _ _ _ _ _ _ (Nat.le_refl _) (fun i _ _ => tb_all _ _)
  have hC2 : CP v (2 ^ v 4) (bA σ1 65 (fun k => if k < 7 then -2 else σ1.1 65 k)) := g3.ao hA2 (fun k h => by have : (64 : Nat) = 65 := h; omega)
  obtain ⟨τ, k1, k2, k3⟩ := s_pairRow w t hk (nI (2 ^ v 4 - 1)) _ (v 4) 0 bFU (2 ^ v 4 - 1) (fun _ => 0) (bA σ1 65 (fun k => if k < 7 then -2 else σ1.1 65 k)) (by omega) (by show _ < 100000; omega) (by omega) (fun i hi => by omega) (hf.ao hA3 hB) (ht.ao hA3) hC2 (by
    intro i hi
    rw [bA_eq, if_pos hi]
    rfl) hall
  refine ⟨τ, ?_, hA3.trans (k2.mono (fun a k h => Or.inr h)), k3⟩
  have hC3 := hC2.ao k2 (fun k h => by have : (64 : Nat) = 65 := h; omega)
  rw [f_X0_pair, s_everybody w hf]
  simp only [bbd, blet]
  rw [show (0 : Int32) = nI 0 from rfl, show (1 : Int32) = nI 1 from rfl, g1]
  simp only [bl2]
  rw [s_fill (L := 7) rfl (by decide)]
  simp only [bbv]
  rw [k1]
  simp (disch := omega) only [q_lit, q_lt0, q_ge0, q_le, q_lt, q_eq, q_cl, q_add, q_mul, q_div, q_rem, bl1, if_false, false_or]
  rw [if_neg (by omega), hC3 (2 ^ v 4 - 1) (by omega), cpl_congr (cmr v) (v 4) (v 4) _ (everyone (v 4)) (Nat.le_refl _) (fun i _ _ => tb_all _ _)]
