/-! ===== couples: the reference (own work) ===== -/
def BC : Nat → Nat → Prop := fun a k => a = 104 ∨ a = 105 ∨ (a = 92 ∧ k = 30)
/-- the reference's search: the row under way, the best so far -/
def SC (c : Nat → Nat) (s : Nat × (Nat → Int32)) (σ : bSto) : Prop := PN 104 c σ ∧ σ.1 92 30 = bv s.1 ∧ ∀ i, i < 7 → σ.1 105 i = s.2 i
theorem bv_lt_all : ∀ k m : Fin 24, (bv k.val < nI m.val) = (k.val ≤ m.val) := by decide +kernel
theorem bv_lt {k m : Nat} (hk : k < 24) (hm : m < 24) : (bv k < nI m) = (k ≤ m) := bv_lt_all ⟨k, hk⟩ ⟨m, hm⟩
theorem mx_shift (P : Nat → Bool) (f : Nat → Nat) (m : Nat) : ∀ k i a, itr (fun q acc => if P q then max acc (m + f q) else acc) k i (m + a) = m + itr (fun q acc => if P q then max acc (f q) else acc) k i a
  | 0, _, _ => rfl
  | k + 1, i, a => by
    rw [itr, itr]
    by_cases h : P i = true
    · rw [if_pos h, if_pos h, Nat.add_max_add_left, mx_shift P f m k (i + 1)]
    · rw [if_neg h, if_neg h, mx_shift P f m k (i + 1)]
def avl (u : Nat) : Nat → Bool := fun i => !u.testBit i
theorem ub_lt {s : Nat × (Nat → Int32)} {x b : Nat} {a : Nat → Int32} (h1 : s.1 ≤ b) (h2 : x < b) : (ub s x a).1 ≤ b := by
  unfold ub
  split
  · show x + 1 ≤ b; omega
  · exact h1
theorem s_tryC {v : Nat → Nat} (w : WF v) (t : WFt v) : ∀ j n p u m c s σ, p + j = v 4 → j < n → u < 128 → m + j ≤ 7 → s.1 ≤ 8 → MV v σ → SC c s σ → (∀ i, p ≤ i → i < v 4 → avl u i = true → c i = 0) → ∃ τ, f_X12_tryCouples n (nI p) (nI u) (nI m) σ = some τ ∧ AO BC σ τ ∧ SC c (ub s (m + cpl (cmr v) (v 4) j (avl u)) (fun i => sv (cpf (cmr v) (v 4) j (avl u) c i))) τ := by
  have hp7 : v 4 ≤ 7 := w.2.2.2.2.1
  intro j
  induction j with
  | zero =>
    intro n p u m c s σ hp hn hu hm hs8 hv hS hc
    obtain ⟨n, rfl⟩ : ∃ n', n = n' + 1 := ⟨n - 1, by omega⟩
    obtain rfl : p = v 4 := by omega
    rw [f_X12_tryCouples, f_X12_tryCouples_B, hv.at 4 (by decide) (by decide), if_pos rfl, hS.2.1, cpl, cpf, Nat.add_zero]
    have hcmp : (bv s.1 < nI m) = (s.1 ≤ m) := bv_lt (by omega) (by omega)
    simp only [hcmp]
    by_cases h : s.1 ≤ m
    · rw [if_pos h]
      simp only [blet]
      rw [show (0 : Int32) = nI 0 from rfl, show (7 : Int32) = nI 7 from rfl, s_copy (by decide) (by decide) (by decide) (by decide) (by decide)]
      refine ⟨_, rfl, ?_, ?_⟩
      · exact AO.trans (B := BC) (AO.set σ (o := 92) (k := 30) _ (Or.inr (Or.inr ⟨rfl, rfl⟩))) (AO.setA _ _ (fun k => Or.inr (Or.inr (Or.inl rfl))))
      · rw [ub, if_pos h]
        refine ⟨fun i hi => ?_, ?_, fun i hi => ?_⟩
        · rw [bA_ne (by decide), bI_ne (Or.inl (by decide)), hS.1 i hi]
        · rw [bA_ne (by decide), bI_eq]
          rfl
        · rw [bA_eq, if_pos (by omega), bI_ne (Or.inl (by decide)), show 0 + (i - 0) = i by omega, hS.1 i hi]
    · rw [if_neg h]
      refine ⟨σ, rfl, AO.refl _ _, ?_⟩
      rw [ub, if_neg h]
      exact hS
  | succ j ih =>
    intro n p u m c s σ hp hn hu hm hs8 hv hS hc
    obtain ⟨n, rfl⟩ : ∃ n', n = n' + 1 := ⟨n - 1, by omega⟩
    have hpn : p < v 4 := by omega
    rw [f_X12_tryCouples, f_X12_tryCouples_B, hv.at 4 (by decide) (by decide), s_hasBit hu (by omega)]
    simp (disch := omega) only [q_lit, q_lt0, q_ge0, q_le, q_lt, q_eq, q_cl, q_add, q_mul, q_div, q_rem, bbd, blet, b2_0n]
    rw [if_neg (by omega)]
    rw [cpl, cpf, show v 4 - (j + 1) = p by omega, show v 4 - j = p + 1 by omega]
    cases hb : u.testBit p with
    | true =>
      have hav : avl u p = false := by simp [avl, hb]
      rw [if_neg (by decide), hav, if_neg (by decide), if_neg (by decide)]
      obtain ⟨τ, h1, h2, h3⟩ := ih n (p + 1) u m c s σ (by omega) (by omega) hu (by omega) hs8 hv hS (fun i h1 h2 h3 => hc i (by omega) h2 h3)
      rw [h1]
      exact ⟨τ, rfl, h2, h3⟩
    | false =>
      have hav : avl u p = true := by simp [avl, hb]
      have hcp : c p = 0 := hc p (Nat.le_refl _) hpn hav
      rw [if_pos rfl, hav, if_pos rfl, if_pos rfl]
      have hloop : ∀ k q n' s σ, q + k = v 4 → k < n' → p < q → s.1 ≤ 8 → MV v σ → SC c s σ → ∃ τ, f_X12_tryCouples_L63 (f_X12_tryCouples n) n' (nI p) (nI u) (nI m) (nI q) σ = some (nI p, nI u, nI m, τ) ∧ AO BC σ τ ∧ (itr (fun q s => if avl u q && cmr v p q then ub s (m + (1 + cpl (cmr v) (v 4) j (del (avl u) q))) (fun i => sv (cpf (cmr v) (v 4) j (del (avl u) q) (cps c p q) i)) else s) k q s).1 ≤ 8 ∧ SC c (itr (fun q s => if avl u q && cmr v p q then ub s (m + (1 + cpl (cmr v) (v 4) j (del (avl u) q))) (fun i => sv (cpf (cmr v) (v 4) j (del (avl u) q) (cps c p q) i)) else s) k q s) τ := by
        intro k
        induction k with
        | zero =>
          intro q n' s σ hq hn' hpq hs8 hv hS
          obtain ⟨n', rfl⟩ : ∃ n'', n' = n'' + 1 := ⟨n' - 1, by omega⟩
          obtain rfl : q = v 4 := by omega
          refine ⟨σ, ?_, AO.refl _ _, hs8, hS⟩
          rw [f_X12_tryCouples_L63, hv.at 4 (by decide) (by decide), if_pos (Int32.le_refl _)]
        | succ k ihk =>
          intro q n' s σ hq hn' hpq hs8 hv hS
          obtain ⟨n', rfl⟩ : ∃ n'', n' = n'' + 1 := ⟨n' - 1, by omega⟩
          have hqn : q < v 4 := by omega
          rw [f_X12_tryCouples_L63, hv.at 4 (by decide) (by decide), s_hasBit hu (by omega)]
          simp (disch := omega) only [q_lit, q_lt0, q_ge0, q_le, q_lt, q_eq, q_cl, q_add, q_mul, q_div, q_rem, bbd, blet, b2_0n, s_canMarry w t hv hpn hqn, if_false, false_or]
          rw [if_neg (show ¬ v 4 ≤ q by omega), itr]
          cases hbq : u.testBit q with
          | true =>
            have hq2 : ¬ (avl u q && cmr v p q) = true := by simp [avl, hbq]
            rw [if_neg (by decide), if_neg hq2]
            exact ihk (q + 1) n' s σ (by omega) (by omega) (by omega) hs8 hv hS
          | false =>
            have haq : avl u q = true := by simp [avl, hbq]
            rw [if_pos rfl]
            cases hcm : cmr v p q with
            | false =>
              have hq2 : ¬ (avl u q && false) = true := by simp
              rw [if_pos rfl, if_neg hq2]
              exact ihk (q + 1) n' s σ (by omega) (by omega) (by omega) hs8 hv hS
            | true =>
              have hq2 : (avl u q && true) = true := by simp [haq]
              have hcq : c q = 0 := hc q (by omega) hqn haq
              rw [if_neg (by decide), if_pos hq2, if_neg (show ¬ (p < 0 ∨ 7 ≤ p) by omega), if_neg (show ¬ (q < 0 ∨ 7 ≤ q) by omega)]
              have hA1 : AO BC σ (bI (bI σ 104 p (nI q)) 104 q (nI p)) := AO.trans (B := BC) (AO.set σ _ (Or.inl rfl)) (AO.set _ _ (Or.inl rfl))
              have hS1 : SC (cps c p q) s (bI (bI σ 104 p (nI q)) 104 q (nI p)) := by
                refine ⟨fun i hi => ?_, ?_, fun i hi => ?_⟩
                · rw [bI_at, bI_at, cps]
                  by_cases e1 : i = q
                  · rw [if_pos ⟨rfl, e1⟩, if_pos e1]; rfl
                  · rw [if_neg (by simp [e1]), if_neg e1]
                    by_cases e2 : i = p
                    · rw [if_pos ⟨rfl, e2⟩, if_pos e2]; rfl
                    · rw [if_neg (by simp [e2]), if_neg e2, hS.1 i hi]
                · rw [bI_ne (Or.inl (by decide)), bI_ne (Or.inl (by decide)), hS.2.1]
                · rw [bI_ne (Or.inl (by decide)), bI_ne (Or.inl (by decide)), hS.2.2 i hi]
              have hu2 : (u ||| 2 ^ p ||| 2 ^ q) < 128 := Nat.or_lt_two_pow (n := 7) (Nat.or_lt_two_pow hu (Nat.pow_lt_pow_right (by decide) (by omega))) (Nat.pow_lt_pow_right (by decide) (by omega))
              have hav2 : ∀ i, p + 1 ≤ i → avl (u ||| 2 ^ p ||| 2 ^ q) i = del (avl u) q i := by
                intro i hi
                simp only [avl, del, Nat.testBit_or, Nat.testBit_two_pow]
                have e3 : decide (p = i) = false := decide_eq_false (by omega)
                rw [e3, Bool.or_false, Bool.not_or]
                congr 1
                by_cases e : q = i
                · subst e; simp
                · rw [decide_eq_false e, beq_eq_false_iff_ne.mpr (show i ≠ q from fun z => e z.symm)]
              obtain ⟨τ1, g1, g2, g3⟩ := ih n (p + 1) (u ||| 2 ^ p ||| 2 ^ q) (m + 1) (cps c p q) s _ (by omega) (by omega) hu2 (by omega) hs8 (hv.ao hA1 (fun k h => by rcases h with h | h | h <;> omega)) hS1 (by
                intro i h1 h2 h3
                rw [hav2 i h1, del, Bool.and_eq_true, Bool.not_eq_true', beq_eq_false_iff_ne] at h3
                rw [cps, if_neg h3.2, if_neg (by omega)]
                exact hc i (by omega) h2 h3.1)
              rw [cpl_congr (cmr v) (v 4) j _ (del (avl u) q) (by omega) (fun i h1 h2 => hav2 i (by omega)), cpf_congr (cmr v) (v 4) j _ (del (avl u) q) _ (by omega) (fun i h1 h2 => hav2 i (by omega)), Nat.add_assoc] at g3
              have hle := cpl_le (cmr v) (v 4) j (del (avl u) q)
              have hA2 : AO BC τ1 (bI (bI τ1 104 p (-2)) 104 q (-2)) := AO.trans (B := BC) (AO.set τ1 _ (Or.inl rfl)) (AO.set _ _ (Or.inl rfl))
              have hA3 := (hA1.trans g2).trans hA2
              obtain ⟨τ, k1, k2, k3, k4⟩ := ihk (q + 1) n' (ub s (m + (1 + cpl (cmr v) (v 4) j (del (avl u) q))) (fun i => sv (cpf (cmr v) (v 4) j (del (avl u) q) (cps c p q) i))) (bI (bI τ1 104 p (-2)) 104 q (-2)) (by omega) (by omega) (by omega) (ub_lt hs8 (by omega)) (hv.ao hA3 (fun k h => by rcases h with h | h | h <;> omega)) (by
                refine ⟨fun i hi => ?_, ?_, fun i hi => ?_⟩
                · rw [bI_at, bI_at]
                  by_cases e1 : i = q
                  · rw [if_pos ⟨rfl, e1⟩, e1, hcq]; rfl
                  · rw [if_neg (by simp [e1])]
                    by_cases e2 : i = p
                    · rw [if_pos ⟨rfl, e2⟩, e2, hcp]; rfl
                    · rw [if_neg (by simp [e2]), g3.1 i hi, cps, if_neg e1, if_neg e2]
                · rw [bI_ne (Or.inl (by decide)), bI_ne (Or.inl (by decide)), g3.2.1]
                · rw [bI_ne (Or.inl (by decide)), bI_ne (Or.inl (by decide)), g3.2.2 i hi])
              refine ⟨τ, ?_, hA3.trans k2, k3, k4⟩
              rw [shl_q (show p < 8 by omega), shl_q (show q < 8 by omega), or_nI, or_nI, g1]
              simp only [bbv]
              rw [if_neg (show ¬ (p < 0 ∨ 7 ≤ p) by omega), if_neg (show ¬ (q < 0 ∨ 7 ≤ q) by omega)]
              exact k1
      obtain ⟨τ1, g1, g2, g3, g4⟩ := hloop j (p + 1) bFU s σ (by omega) (by show _ < 100000; omega) (by omega) hs8 hv hS
      rw [g1]
      simp only [bl3]
      obtain ⟨τ, h1, h2, h3⟩ := ih n (p + 1) u m c _ τ1 (by omega) (by omega) hu (by omega) g3 (hv.ao g2 (fun k h => by rcases h with h | h | h <;> omega)) g4 (fun i h1 h2 h3 => hc i (by omega) h2 h3)
      rw [ub_fold (fun q => avl u q && cmr v p q) (fun q => m + (1 + cpl (cmr v) (v 4) j (del (avl u) q))) (fun q i => sv (cpf (cmr v) (v 4) j (del (avl u) q) (cps c p q) i)), mx_shift (fun q => avl u q && cmr v p q) (fun q => 1 + cpl (cmr v) (v 4) j (del (avl u) q)) m] at h3
      rw [q_add, h1]
      refine ⟨τ, rfl, g2.trans h2, ?_⟩
      have hfe : fst1 (fun q => (avl u q && cmr v p q) && (m + (1 + cpl (cmr v) (v 4) j (del (avl u) q)) == m + itr (fun q acc => if avl u q && cmr v p q then max acc (1 + cpl (cmr v) (v 4) j (del (avl u) q)) else acc) j (p + 1) (cpl (cmr v) (v 4) j (avl u)))) j (p + 1) = fst1 (fun q => (avl u q && cmr v p q) && (1 + cpl (cmr v) (v 4) j (del (avl u) q) == cpl (cmr v) (v 4) (j + 1) (avl u))) j (p + 1) := by
        apply fst1_congr
        intro q _ _
        rw [cpl, show v 4 - (j + 1) = p by omega, show v 4 - j = p + 1 by omega, hav, if_pos rfl]
        congr 1
        rw [Bool.eq_iff_iff, beq_iff_eq, beq_iff_eq]
        omega
      rw [hfe, show p + 1 + j = v 4 by omega] at h3
      have hout : (if fst1 (fun q => (avl u q && cmr v p q) && (1 + cpl (cmr v) (v 4) j (del (avl u) q) == cpl (cmr v) (v 4) (j + 1) (avl u))) j (p + 1) < v 4 then fun i => sv (cpf (cmr v) (v 4) j (del (avl u) (fst1 (fun q => (avl u q && cmr v p q) && (1 + cpl (cmr v) (v 4) j (del (avl u) q) == cpl (cmr v) (v 4) (j + 1) (avl u))) j (p + 1))) (cps c p (fst1 (fun q => (avl u q && cmr v p q) && (1 + cpl (cmr v) (v 4) j (del (avl u) q) == cpl (cmr v) (v 4) (j + 1) (avl u))) j (p + 1))) i) else fun i => sv (cpf (cmr v) (v 4) j (avl u) c i)) = fun i => sv ((if fst1 (fun q => (avl u q && cmr v p q) && (1 + cpl (cmr v) (v 4) j (del (avl u) q) == cpl (cmr v) (v 4) (j + 1) (avl u))) j (p + 1) < v 4 then cpf (cmr v) (v 4) j (del (avl u) (fst1 (fun q => (avl u q && cmr v p q) && (1 + cpl (cmr v) (v 4) j (del (avl u) q) == cpl (cmr v) (v 4) (j + 1) (avl u))) j (p + 1))) (cps c p (fst1 (fun q => (avl u q && cmr v p q) && (1 + cpl (cmr v) (v 4) j (del (avl u) q) == cpl (cmr v) (v 4) (j + 1) (avl u))) j (p + 1))) else cpf (cmr v) (v 4) j (avl u) c) i) := by
        split <;> rfl
      rw [hout] at h3
      exact h3
theorem s_seekC7 (σ : bSto) : f_X12_seekCouples_L7 bFU (nI 0) σ = some (bA σ 104 (fun k => if k < 7 then -2 else σ.1 104 k)) := by
  rw [show f_X12_seekCouples_L7 bFU (nI 0) σ = f_X12_seekCouples_L7 bFU (nI 0) (bA σ 104 (fun k => if k < 0 then -2 else σ.1 104 k)) by
    congr 1
    apply sto_ext
    · intro b k
      rw [bA_at]
      by_cases e : b = 104
      · rw [if_pos e, e]; simp
      · rw [if_neg e]
    · rfl]
  refine lp_form (fun n i => f_X12_seekCouples_L7 n (nI i) (bA σ 104 (fun k => if k < i then -2 else σ.1 104 k))) 7 (by decide) _ ?_ ?_
  · intro n
    show f_X12_seekCouples_L7 (n + 1) (nI 7) _ = _
    rw [f_X12_seekCouples_L7, if_pos (by decide)]
  · intro n i hi
    show f_X12_seekCouples_L7 (n + 1) (nI i) (bA σ 104 (fun k => if k < i then -2 else σ.1 104 k)) = f_X12_seekCouples_L7 n (nI (i + 1)) (bA σ 104 (fun k => if k < i + 1 then -2 else σ.1 104 k))
    rw [f_X12_seekCouples_L7]
    simp (disch := omega) only [q_lit, q_lt0, q_ge0, q_le, q_lt, q_eq, q_cl, q_add, q_mul, q_div, q_rem, blet, if_false, false_or]
    rw [if_neg (by omega), if_neg (by omega)]
    congr 1
    apply sto_ext
    · intro b k
      rw [bI_at, bA_at, bA_at]
      by_cases e : b = 104
      · simp only [e, true_and, if_true]
        by_cases ek : k = i
        · rw [if_pos ek, if_pos (by omega)]
        · by_cases ek2 : k < i
          · rw [if_neg ek, if_pos ek2, if_pos (by omega)]
          · rw [if_neg ek, if_neg ek2, if_neg (by omega)]
      · simp only [e, false_and, if_false]
    · rfl
theorem s_seekCouples {v : Nat → Nat} {σ : bSto} (w : WF v) (t : WFt v) (hv : MV v σ) : ∃ τ, f_X12_seekCouples σ = some (nI (cpl (cmr v) (v 4) (v 4) (everyone (v 4))), τ) ∧ AO BC σ τ ∧ PN 105 (cpf (cmr v) (v 4) (v 4) (everyone (v 4)) (fun _ => 0)) τ := by
  have hp7 : v 4 ≤ 7 := w.2.2.2.2.1
  have hA : AO BC σ (bA (bI σ 92 30 (-1)) 104 (fun k => if k < 7 then -2 else (bI σ 92 30 (-1)).1 104 k)) := AO.trans (B := BC) (AO.set σ _ (Or.inr (Or.inr ⟨rfl, rfl⟩))) (AO.setA _ _ (fun k => Or.inr (Or.inl rfl)))
  obtain ⟨τ, h1, h2, h3⟩ := s_tryC w t (v 4) 20 0 0 0 (fun _ => 0) (0, fun i => σ.1 105 i) _ (by omega) (by omega) (by decide) (by omega) (Nat.zero_le _) (hv.ao hA (fun k h => by rcases h with h | h | h <;> omega)) (by
    refine ⟨fun i hi => ?_, ?_, fun i hi => ?_⟩
    · rw [bA_eq, if_pos hi]; rfl
    · rw [bA_ne (by decide), bI_eq]; rfl
    · rw [bA_ne (by decide), bI_ne (Or.inl (by decide))]) (fun i _ _ _ => rfl)
  have hc : cpl (cmr v) (v 4) (v 4) (avl 0) = cpl (cmr v) (v 4) (v 4) (everyone (v 4)) := cpl_congr _ _ _ _ _ (Nat.le_refl _) (fun i _ h => by simp [avl, everyone, h])
  have hf : cpf (cmr v) (v 4) (v 4) (avl 0) (fun _ => 0) = cpf (cmr v) (v 4) (v 4) (everyone (v 4)) (fun _ => 0) := cpf_congr _ _ _ _ _ _ (Nat.le_refl _) (fun i _ h => by simp [avl, everyone, h])
  rw [ub, if_pos (Nat.zero_le _), hc, hf, Nat.zero_add] at h3
  refine ⟨τ, ?_, hA.trans h2, fun i hi => h3.2.2 i hi⟩
  rw [f_X12_seekCouples]
  simp only [blet]
  rw [show (0 : Int32) = nI 0 from rfl, s_seekC7]
  simp only [bl0]
  rw [h1]
  simp only [bbv]
  rw [h3.2.1]
  rfl
