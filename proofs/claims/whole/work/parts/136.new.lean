/-! ===== a new name; a sort; a kind (own work) ===== -/
theorem m_newL {m N : Nat} (L : Nat → Nat) (hm : m < 13) (hN : N ≤ 8) : ∀ d j g μ, j + d = N → d < g → μ.1 92 8 = nI N → (∀ i, i < N → μ.1 94 i = nI (L i)) → ∃ τ, f_X12_newName_L45 g (nI m) (nI j) μ = some (nI m, τ) ∧ AO (fun a _ => a = 96) μ τ ∧ ∀ i, τ.1 96 i = if 302 + 8 * m + j ≤ i ∧ i < 302 + 8 * m + N then nI (L (i - (302 + 8 * m))) else μ.1 96 i := by
  intro d
  induction d with
  | zero =>
    intro j g μ hj hg h8 h94
    obtain ⟨g, rfl⟩ : ∃ g', g = g' + 1 := ⟨g - 1, by omega⟩
    refine ⟨μ, ?_, AO.refl _ _, fun i => by rw [if_neg (by omega)]⟩
    rw [f_X12_newName_L45, h8]
    simp (disch := omega) only [q_lit, q_lt0, q_ge0, q_le, q_lt, q_eq, q_cl, q_add, q_mul, q_div, q_rem]
    rw [if_pos (by omega)]
  | succ d ih =>
    intro j g μ hj hg h8 h94
    obtain ⟨g, rfl⟩ : ∃ g', g = g' + 1 := ⟨g - 1, by omega⟩
    have hA : AO (fun a _ => a = 96) μ (bI μ 96 (302 + 8 * m + j) (nI (L j))) := AO.set μ _ rfl
    obtain ⟨τ, t1, t2, t3⟩ := ih (j + 1) g (bI μ 96 (302 + 8 * m + j) (nI (L j))) (by omega) (by omega) (by rw [bI_ne (by omega)]; exact h8) (fun i hi => by rw [bI_ne (by omega)]; exact h94 i hi)
    refine ⟨τ, ?_, hA.trans t2, fun i => ?_⟩
    · rw [f_X12_newName_L45, h8]
      simp (disch := omega) only [q_lit, q_lt0, q_ge0, q_le, q_lt, q_eq, q_cl, q_add, q_mul, q_div, q_rem, if_false, false_or]
      rw [if_neg (by omega), if_neg (by omega), if_neg (by omega), h94 j (by omega)]
      simp only [blet]
      exact t1
    · rw [t3]
      by_cases e : i = 302 + 8 * m + j
      · rw [if_neg (by omega), e, bI_eq, if_pos (by omega), show 302 + 8 * m + j - (302 + 8 * m) = j by omega]
      · rw [bI_ne (by omega)]
        by_cases z : 302 + 8 * m + (j + 1) ≤ i ∧ i < 302 + 8 * m + N
        · rw [if_pos z, if_pos (by omega)]
        · rw [if_neg z, if_neg (by omega)]
theorem pw_new {tx : Nat → Nat} {n k m : Nat} {u : Nat → Nat} {c : Nat} {σ μ : bSto} (h1 : CT tx n k σ) (h2 : MT tx n k μ) (hg : μ.1 92 13 = nI 0) (hK : CK σ) (hk : kR c) (hc : σ.2.2 1 4 = c) (h3 : σ.1 (c + 1) 5 = nI (u 3)) (h36 : u 3 ≤ 6) (h4 : σ.1 (c + 7) 7 = nI (u 4)) (h47 : u 4 ≤ 7) (n1 : N1 u) (n2 : N2 u) (n3 : N3 u) (n4 : N4 u) (n5 : N5 u σ) (n6 : N6 u σ) (m9 : M9 u μ) (hm : m < 13) : ∃ r σ' μ', f_X9_readNewName σ = some (r, σ') ∧ f_X12_newName (nI m) μ = some μ' ∧ AL Bw σ σ' ∧ ((r = 1 ∧ AO By μ μ' ∧ tkT tx n k = 1 ∧ (∀ m', m' < 13 → nmc u m' ≠ tkW tx n k) ∧ CT tx n (tkE tx n k) σ' ∧ MT tx n (tkE tx n k) μ' ∧ μ'.1 92 13 = nI 0 ∧ ∀ j, μ'.1 96 j = if j = 289 + m then nI (tkN tx n k) else if 302 + 8 * m ≤ j ∧ j < 302 + 8 * m + tkN tx n k then nI (tkL tx n k (j - (302 + 8 * m))) else μ.1 96 j) ∨ (r = 0 ∧ AO Bv μ μ' ∧ BDx σ' μ' ∧ μ'.1 92 13 = nI 1)) := by
  rw [f_X9_readNewName, f_X12_newName, if_pos (show μ.1 92 13 = 0 from hg), m_mustName h2 hg, c_isName h1 hK]
  simp only [bbd]
  cases hN : isN tx n k with
  | false =>
    obtain ⟨σ', μ', b1, b2', b3, b4, b5, b6⟩ := bad_pair h1 h2 hg (x := 1) 1 rfl
    refine ⟨0, σ', μ', ?_, ?_, b3, Or.inr ⟨rfl, b4, b5, b6⟩⟩
    · rw [if_pos (by decide), b1]; rfl
    · rw [if_neg (by decide), b2']
      simp only [bbv]
      rw [if_neg (f0 b6), f_X12_newName_J35, if_neg (f0 b6)]
  | true =>
    have hT : tkT tx n k = 1 := by
      rw [isN, Bool.and_eq_true] at hN
      simpa using hN.1
    have hP := fnd_P n3 n4 hT h47
    have hB := fnd_B n2 n4 hT h36
    have hle := fnd_le u tx n k
    have hl := tk_1 tx hT
    have x5 : f_X9_indexOf 5 (nI (u 3)) (nL (tkW tx n k)) σ = some (ixv (u 3) (fnB u tx n k), σ) := c_index (L := 6) (nm := fun b => nmc u b) (by decide) (by decide) h36 n5 (fun i hi => nmc_lt n1 (by omega)) (tkW_lt hT)
    have x6 : f_X9_indexOf 6 (nI (u 4)) (nL (tkW tx n k)) σ = some (ixv (u 4) (fnP u tx n k), σ) := c_index (L := 7) (nm := fun p => nmc u (6 + p)) (by decide) (by decide) h47 n6 (fun i hi => nmc_lt n1 (by omega)) (tkW_lt hT)
    rw [if_neg (by decide), if_pos rfl, hc, if_pos hk, h3, h1.2.2.2.2.2.2 hT, x5]
    simp only [bbd, bbv]
    rw [if_pos (show μ.1 92 13 = 0 from hg), m_find h2 hT n1 m9, hc, if_pos hk, h4, h1.2.2.2.2.2.2 hT, x6]
    simp only [bbd, ixv_no (show u 3 < 1000 by omega), ixv_no (show u 4 < 1000 by omega)]
    have hfl : (ixv 13 (fnd u tx n k) < 0) = ¬ fnd u tx n k < 13 := by
      rw [ixv]
      by_cases z : fnd u tx n k < 13
      · rw [if_pos z]; exact propext ⟨fun w => absurd w (nI_pos (by omega)), fun w => absurd z w⟩
      · rw [if_neg z]; exact propext ⟨fun _ => z, fun _ => by decide⟩
    simp only [hfl]
    by_cases hf : fnd u tx n k < 13
    · obtain ⟨σ', μ', b1, b2', b3, b4, b5, b6⟩ := bad_pair h1 h2 hg (x := 3) 3 rfl
      refine ⟨0, σ', μ', ?_, ?_, b3, Or.inr ⟨rfl, b4, b5, b6⟩⟩
      · have hJ : f_X9_readNewName_J69 σ = some ((0 : Int32), σ') := by rw [f_X9_readNewName_J69, b1]; rfl
        rw [hJ]
        by_cases z1 : fnB u tx n k < u 3
        · rw [if_neg (fun z => z z1)]
        · rw [if_pos z1]
          have z2 : fnP u tx n k < u 4 := by
            have := hB.2 z1
            by_cases w : fnP u tx n k < u 4
            · exact w
            · exact absurd ⟨by omega, by omega⟩ (hP.2 w)
          rw [if_neg (fun z => z z2)]
      · rw [if_neg (fun z => z hf), b2']
        simp only [bbv]
        rw [f_X12_newName_J35, if_neg (f0 b6)]
    · have z1 : ¬ fnB u tx n k < u 3 := fun z => hf (by rw [hB.1 z]; omega)
      have z2 : ¬ fnP u tx n k < u 4 := fun z => hf (by rw [hP.1 z]; omega)
      obtain ⟨σ', s1, s2, s3⟩ := h1.step
      obtain ⟨μ1, t1, t2, t3⟩ := m_newL (m := m) (N := tkN tx n k) (tkL tx n k) hm hl.1.2 (tkN tx n k) 0 bFU μ (by omega) (by show _ < 100000; omega) (h2.2.2.2.2.2.2 hT).1 (h2.2.2.2.2.2.2 hT).2
      have hA : AO (fun a _ => a = 96) μ (bI μ1 96 (289 + m) (nI (tkN tx n k))) := t2.trans (AO.set _ _ rfl)
      obtain ⟨μ', m1, m2, m3⟩ := (h2.ao hA (fun a k z => by have : a = 96 := z; omega)).next
      refine ⟨1, σ', μ', ?_, ?_, s3.mono B2_Bw, Or.inl ⟨rfl, (hA.mono (fun a k z => Or.inr (Or.inl z))).trans ((m3.mono Bq_Bv).mono Bv_By), hT, fun m' hm' e => ?_, s2, m2, ?_, fun j => ?_⟩⟩
      · rw [if_pos z1, if_pos z2, s1]
      · rw [if_pos hf, f_X12_newName_J35, if_pos (show μ.1 92 13 = 0 from hg), show (0 : Int32) = nI 0 from rfl, t1]
        simp only [bl1]
        simp (disch := omega) only [q_lit, q_lt0, q_ge0, q_le, q_lt, q_eq, q_cl, q_add, q_mul, q_div, q_rem, if_false, false_or]
        rw [if_neg (by omega)]
        simp only [blet]
        rw [t2.1 92 8 (by show ¬ (92 : Nat) = 96; decide), (h2.2.2.2.2.2.2 hT).1, m1]
        rfl
      · exact hf (by rw [fnd_at n4 hT hm' e]; exact hm')
      · rw [m3.1 92 13 (by unfold Bq; omega), bI_ne (by omega), t2.1 92 13 (by show ¬ (92 : Nat) = 96; decide)]; exact hg
      · rw [m3.1 96 j (by unfold Bq; omega), bI_at, t3 j]
        by_cases e : j = 289 + m
        · rw [if_pos ⟨rfl, e⟩, if_pos e]
        · rw [if_neg (fun z => e z.2), if_neg e]
          rfl
theorem m_oneOf {tx : Nat → Nat} {n k w1 w2 w3 w4 : Nat} {μ : bSto} (h : MT tx n k μ) (hg : μ.1 92 13 = nI 0) (h1 : w1 < 29) (h2 : w2 < 29) (h3 : w3 < 29) (h4 : w4 < 29) : f_X12_oneOf w1 w2 w3 w4 μ = f_X12_oneOf_J50 (if isW tx n k w1 then 0 else if isW tx n k w2 then 1 else if isW tx n k w3 then 2 else if isW tx n k w4 then 3 else -1) μ := by
  rw [f_X12_oneOf, m_isWord h hg h1]
  simp only [bbd]
  cases isW tx n k w1 with
  | true => rfl
  | false =>
  rw [if_pos (by decide), m_isWord h hg h2]
  simp only [bbd]
  cases isW tx n k w2 with
  | true => rfl
  | false =>
  rw [if_pos (by decide), m_isWord h hg h3]
  simp only [bbd]
  cases isW tx n k w3 with
  | true => rfl
  | false =>
  rw [if_pos (by decide), m_isWord h hg h4]
  simp only [bbd]
  cases isW tx n k w4 <;> rfl
/-- one of some words, q-th; none -/
theorem one_yes {tx : Nat → Nat} {n k : Nat} {σ μ : bSto} (h1 : CT tx n k σ) (h2 : MT tx n k μ) (hg : μ.1 92 13 = nI 0) {q : Nat} (hq : q < 4) {x : Int32} (hx : x = nI q) : ∃ σ' μ', bbv (f_X8_step (bI σ 1 7 x)) (fun s => some ((1 : Int32), s)) = some (1, σ') ∧ f_X12_oneOf_J50 x μ = some (nI q, μ') ∧ AL Bw σ σ' ∧ AO Bv μ μ' ∧ σ'.1 1 7 = nI q ∧ CT tx n (tkE tx n k) σ' ∧ MT tx n (tkE tx n k) μ' ∧ μ'.1 92 13 = nI 0 := by
  subst hx
  have hA : AL Bw σ (bI σ 1 7 (nI q)) := AL.setI σ _ (Or.inl rfl)
  obtain ⟨σ', s1, s2, s3⟩ := (h1.al (B := fun a k => a = 1 ∧ k = 7) (AL.setI σ (nI q) (o := 1) (k := 7) ⟨rfl, rfl⟩) (fun a k z => by obtain ⟨z1, z2⟩ := z; omega)).step
  obtain ⟨μ', m1, m2, m3⟩ := h2.next
  refine ⟨σ', μ', by rw [s1]; rfl, ?_, hA.trans (s3.mono B2_Bw), m3.mono Bq_Bv, ?_, s2, m2, ?_⟩
  · rw [f_X12_oneOf_J50, if_pos (nI_pos' (by omega)), f_X12_oneOf_J66, if_pos (show μ.1 92 13 = 0 from hg), m1]; rfl
  · rw [s3.1 1 7 (by unfold B2; omega), bI_eq]
  · rw [m3.1 92 13 (by unfold Bq; omega)]; exact hg
theorem one_no {tx : Nat → Nat} {n k : Nat} {σ μ : bSto} (h1 : CT tx n k σ) (h2 : MT tx n k μ) (hg : μ.1 92 13 = nI 0) : ∃ σ' μ', bbd (f_X9_blame (1 : Int32) σ) (fun v s => if v = 0 ∨ v = 1 then some (v, s) else none) = some ((0 : Int32), σ') ∧ f_X12_oneOf_J50 (-1) μ = some (-1, μ') ∧ AL Bw σ σ' ∧ AO Bv μ μ' ∧ BDx σ' μ' ∧ μ'.1 92 13 = nI 1 := by
  obtain ⟨σ', μ', b1, b2', b3, b4, b5, b6⟩ := bad_pair h1 h2 hg (x := 1) 1 rfl
  refine ⟨σ', μ', by rw [b1]; rfl, ?_, b3, b4, b5, b6⟩
  rw [f_X12_oneOf_J50, if_neg (by decide), b2']
  simp only [bbv]
  rw [f_X12_oneOf_J66, if_neg (f0 b6)]
theorem isW_0 (tx : Nat → Nat) (n k : Nat) : isW tx n k 0 = false := by
  rw [isW]
  by_cases hT : tkT tx n k = 1
  · have h := (tk_1 tx hT).1.1
    rw [show (tkN tx n k == blen 0) = false by simp only [beq_eq_false_iff_ne]; show ¬ tkN tx n k = 0; omega]
    simp
  · rw [show (tkT tx n k == 1) = false by simp [hT]]; rfl
theorem pw_sort {tx : Nat → Nat} {n k : Nat} {σ μ : bSto} (h1 : CT tx n k σ) (h2 : MT tx n k μ) (hg : μ.1 92 13 = nI 0) : ∃ r v σ' μ', f_X9_readSort σ = some (r, σ') ∧ f_X12_oneOf 15 26 11 0 μ = some (v, μ') ∧ AL Bw σ σ' ∧ AO Bv μ μ' ∧ ((r = 1 ∧ ∃ q, q ≤ 2 ∧ v = nI q ∧ σ'.1 1 7 = nI q ∧ CT tx n (tkE tx n k) σ' ∧ MT tx n (tkE tx n k) μ' ∧ μ'.1 92 13 = nI 0) ∨ (r = 0 ∧ BDx σ' μ' ∧ μ'.1 92 13 = nI 1)) := by
  have yes : ∀ q, q ≤ 2 → ∀ x : Int32, x = nI q → ∃ r v σ' μ', f_X9_readSort_J69 (bI σ 1 7 x) = some (r, σ') ∧ f_X12_oneOf_J50 x μ = some (v, μ') ∧ AL Bw σ σ' ∧ AO Bv μ μ' ∧ ((r = 1 ∧ ∃ q, q ≤ 2 ∧ v = nI q ∧ σ'.1 1 7 = nI q ∧ CT tx n (tkE tx n k) σ' ∧ MT tx n (tkE tx n k) μ' ∧ μ'.1 92 13 = nI 0) ∨ (r = 0 ∧ BDx σ' μ' ∧ μ'.1 92 13 = nI 1)) := fun q hq x hx => by
    obtain ⟨σ', μ', a1, a2, a3, a4, a5, a6, a7, a8⟩ := one_yes h1 h2 hg (q := q) (by omega) hx
    exact ⟨1, nI q, σ', μ', a1, a2, a3, a4, Or.inl ⟨rfl, q, hq, rfl, a5, a6, a7, a8⟩⟩
  rw [f_X9_readSort, c_is h1 (by decide), m_oneOf h2 hg (by decide) (by decide) (by decide) (by decide), isW_0]
  simp only [bbd]
  cases isW tx n k 15 with
  | true => exact yes 0 (by decide) 0 rfl
  | false =>
  rw [if_pos (by decide), c_is h1 (by decide)]
  simp only [bbd]
  cases isW tx n k 26 with
  | true => exact yes 1 (by decide) 1 rfl
  | false =>
  rw [if_pos (by decide), c_is h1 (by decide)]
  simp only [bbd]
  cases isW tx n k 11 with
  | true => exact yes 2 (by decide) 2 rfl
  | false =>
  obtain ⟨σ', μ', a1, a2, a3, a4, a5, a6⟩ := one_no h1 h2 hg
  exact ⟨0, -1, σ', μ', a1, a2, a3, a4, Or.inr ⟨rfl, a5, a6⟩⟩
theorem pw_kind {tx : Nat → Nat} {n k : Nat} {σ μ : bSto} (h1 : CT tx n k σ) (h2 : MT tx n k μ) (hg : μ.1 92 13 = nI 0) : ∃ r v σ' μ', f_X9_readKind σ = some (r, σ') ∧ f_X12_oneOf 25 7 13 4 μ = some (v, μ') ∧ AL Bw σ σ' ∧ AO Bv μ μ' ∧ ((r = 1 ∧ ∃ q, q ≤ 3 ∧ v = nI q ∧ σ'.1 1 7 = nI q ∧ CT tx n (tkE tx n k) σ' ∧ MT tx n (tkE tx n k) μ' ∧ μ'.1 92 13 = nI 0) ∨ (r = 0 ∧ BDx σ' μ' ∧ μ'.1 92 13 = nI 1)) := by
  have yes : ∀ q, q ≤ 3 → ∀ x : Int32, x = nI q → ∃ r v σ' μ', f_X9_readKind_J90 (bI σ 1 7 x) = some (r, σ') ∧ f_X12_oneOf_J50 x μ = some (v, μ') ∧ AL Bw σ σ' ∧ AO Bv μ μ' ∧ ((r = 1 ∧ ∃ q, q ≤ 3 ∧ v = nI q ∧ σ'.1 1 7 = nI q ∧ CT tx n (tkE tx n k) σ' ∧ MT tx n (tkE tx n k) μ' ∧ μ'.1 92 13 = nI 0) ∨ (r = 0 ∧ BDx σ' μ' ∧ μ'.1 92 13 = nI 1)) := fun q hq x hx => by
    obtain ⟨σ', μ', a1, a2, a3, a4, a5, a6, a7, a8⟩ := one_yes h1 h2 hg (q := q) (by omega) hx
    exact ⟨1, nI q, σ', μ', a1, a2, a3, a4, Or.inl ⟨rfl, q, hq, rfl, a5, a6, a7, a8⟩⟩
  rw [f_X9_readKind, c_is h1 (by decide), m_oneOf h2 hg (by decide) (by decide) (by decide) (by decide)]
  simp only [bbd]
  cases isW tx n k 25 with
  | true => exact yes 0 (by decide) 0 rfl
  | false =>
  rw [if_pos (by decide), c_is h1 (by decide)]
  simp only [bbd]
  cases isW tx n k 7 with
  | true => exact yes 1 (by decide) 1 rfl
  | false =>
  rw [if_pos (by decide), c_is h1 (by decide)]
  simp only [bbd]
  cases isW tx n k 13 with
  | true => exact yes 2 (by decide) 2 rfl
  | false =>
  rw [if_pos (by decide), c_is h1 (by decide)]
  simp only [bbd]
  cases isW tx n k 4 with
  | true => exact yes 3 (by decide) 3 rfl
  | false =>
  obtain ⟨σ', μ', a1, a2, a3, a4, a5, a6⟩ := one_no h1 h2 hg
  exact ⟨0, -1, σ', μ', a1, a2, a3, a4, Or.inr ⟨rfl, a5, a6⟩⟩
