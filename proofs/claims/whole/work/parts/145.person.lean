/-! ===== line: person, the walk (own work) ===== -/
theorem m_townL {p N : Nat} (L : Nat → Nat) (hp : p < 7) (hN : N ≤ 8) (x2 : Int32) : ∀ d j g μ, j + d = N → d < g → μ.1 92 8 = nI N → (∀ i, i < N → μ.1 94 i = nI (L i)) → ∃ τ, f_X12_personLine_L117 g (nI p) x2 (nI j) μ = some (nI p, x2, τ) ∧ AO (fun a _ => a = 96) μ τ ∧ ∀ i, τ.1 96 i = if 227 + 9 * p + j ≤ i ∧ i < 227 + 9 * p + N then nI (L (i - (227 + 9 * p))) else μ.1 96 i := by
  intro d
  induction d with
  | zero =>
    intro j g μ hj hg h8 h94
    obtain ⟨g, rfl⟩ : ∃ g', g = g' + 1 := ⟨g - 1, by omega⟩
    refine ⟨μ, ?_, AO.refl _ _, fun i => by rw [if_neg (by omega)]⟩
    rw [f_X12_personLine_L117, h8]
    simp (disch := omega) only [q_lit, q_lt0, q_ge0, q_le, q_lt, q_eq, q_cl, q_add, q_mul, q_div, q_rem]
    rw [if_pos (by omega)]
  | succ d ih =>
    intro j g μ hj hg h8 h94
    obtain ⟨g, rfl⟩ : ∃ g', g = g' + 1 := ⟨g - 1, by omega⟩
    have g1 : ¬ 8 ≤ j := by omega
    have g2 : ¬ 406 ≤ 226 + 9 * p + 1 + j := by omega
    have hA : AO (fun a _ => a = 96) μ (bI μ 96 (226 + 9 * p + 1 + j) (nI (L j))) := AO.set μ _ rfl
    obtain ⟨τ, t1, t2, t3⟩ := ih (j + 1) g (bI μ 96 (226 + 9 * p + 1 + j) (nI (L j))) (by omega) (by omega) (by rw [bI_ne (by omega)]; exact h8) (fun i hi => by rw [bI_ne (by omega)]; exact h94 i hi)
    refine ⟨τ, ?_, hA.trans t2, fun i => ?_⟩
    · rw [f_X12_personLine_L117, h8]
      simp (disch := omega) only [q_lit, q_lt0, q_ge0, q_le, q_lt, q_eq, q_cl, q_add, q_mul, q_div, q_rem, Nat.not_lt_zero, false_or, if_false, g1, g2]
      rw [if_neg (by omega), h94 j (by omega)]
      simp only [blet]
      exact t1
    · rw [t3]
      by_cases e : i = 227 + 9 * p + j
      · rw [if_neg (by omega), e, show 227 + 9 * p + j = 226 + 9 * p + 1 + j by omega, bI_eq, if_pos (by omega), show 226 + 9 * p + 1 + j - (227 + 9 * p) = j by omega]
      · rw [bI_ne (by omega)]
        by_cases z : 227 + 9 * p + (j + 1) ≤ i ∧ i < 227 + 9 * p + N
        · rw [if_pos z, if_pos (by omega)]
        · rw [if_neg z, if_neg (by omega)]
theorem J90_f {x1 x2 : Int32} {μ : bSto} (hf : μ.1 92 13 = nI 1) : f_X12_personLine_J90 x1 x2 μ = some μ := by rw [f_X12_personLine_J90, if_neg (f0 hf)]
theorem J59_f {x1 x2 : Int32} {μ : bSto} (hf : μ.1 92 13 = nI 1) : f_X12_personLine_J59 x1 x2 μ = some μ := by
  rw [f_X12_personLine_J59, must_f hf]
  simp only [bbv_s]
  rw [if_neg (f0 hf), J90_f hf]
theorem l_person {c : Nat} {σ0 μ0 : bSto} {tx : Nat → Nat} {n k : Nat} {u : Nat → Nat} {bel : Nat → Int32} {σ μ : bSto} (S : ST c u bel σ μ) (g : GD c σ0 μ0 tx n k σ μ) (h47 : u 4 < 7) (hu0 : u 0 ≠ 0) : PW c σ0 μ0 tx n (f_X9_readPerson σ) (f_X12_personLine μ) (LN c k) := by
  have S0 := S
  obtain ⟨⟨hk, hc, hK⟩, hM, G1', G2', G3', G4', G5', G6', G7', G8'⟩ := S0
  have hk' : c = 7 ∨ c = 69 := hk
  obtain ⟨p, hp⟩ : ∃ p, p = u 4 := ⟨_, rfl⟩
  have h7 : σ.1 (c + 7) 7 = nI p := by rw [hp]; exact G3'.2.1
  have m4 : μ.1 96 4 = nI p := by rw [hp]; exact hM.1 4 (by omega) (by omega)
  have ef : (35 : Int32) + (4 : Int32) * nI p = nI (35 + 4 * p) := by rw [show (35 : Int32) = nI 35 from rfl, show (4 : Int32) = nI 4 from rfl, q_mul, q_add]
  have eg : (226 : Int32) + (9 : Int32) * nI p = nI (226 + 9 * p) := by rw [show (226 : Int32) = nI 226 from rfl, show (9 : Int32) = nI 9 from rfl, q_mul, q_add]
  have ef1 : nI (35 + 4 * p) + (1 : Int32) = nI (36 + 4 * p) := by rw [show (1 : Int32) = nI 1 from rfl, q_add, show 35 + 4 * p + 1 = 36 + 4 * p by omega]
  have ef2 : nI (35 + 4 * p) + (2 : Int32) = nI (37 + 4 * p) := by rw [show (2 : Int32) = nI 2 from rfl, q_add, show 35 + 4 * p + 2 = 37 + 4 * p by omega]
  have e6 : (6 : Int32) + nI p = nI (6 + p) := by rw [show (6 : Int32) = nI 6 from rfl, q_add]
  rw [f_X9_readPerson, f_X12_personLine, hc, if_pos hk, if_pos (show μ.1 92 13 = 0 from g.2.2.1), h7, m4]
  simp only [blet, fcd (show p < 7 by omega) (by omega), ef, e6, fcd (show 35 + 4 * p < 406 by omega) (by omega), if_false, nI_clamp (show p < 2 ^ 31 by omega), nI_clamp (show 35 + 4 * p < 2 ^ 31 by omega)]
  rw [if_pos (show nI p < (7 : Int32) from nI_lt (b := 7) (by omega) (by omega))]
  refine PW_new S g (m := 6 + p) (by omega) rfl (fun σ1 μ1 hT hnm g1 a1 j1 => ?_) (fun μ' hf hA => ?_)
  · rw [if_pos (show μ1.1 92 13 = 0 from g1.2.2.1), g.1.2.2.2.2.2.2 hT]
    have lm1 : ∀ j, j < 289 → μ1.1 96 j = μ.1 96 j := fun j hj => nwm_lo j1 hj
    refine PW_kind g1 (fun q σ2 μ2 q1 f2 g2 a2 b2' => ?_) (fun v μ' hf hA => ?_)
    · rw [f2, f_X12_personLine_J59]
      have g2' := (g2.setC (o := c + 7 + 1) (j := p) (nI q) (by omega) (by omega)).setM (j := 35 + 4 * p) (nI q)
      refine PW_wordF (w := 8) g2' (by decide) (fun σ3 μ3 g3 a3 b3 => ?_) (fun μ' hf hA => ?_)
      · rw [if_pos (show μ3.1 92 13 = 0 from g3.2.2.1)]
        generalize hk3 : tkE tx n (tkE tx n (tkE tx n k)) = k3 at g3
        have t1 := tk_b tx g.1.2.1
        have t2 := tk_b tx g1.1.2.1
        have t3 := tk_b tx g2.1.2.1
        have t4 := tk_b tx g3.1.2.1
        have T5 := @CT.t5 tx n k3
        have mT := mtk_lt (tkT tx n k3)
        have r3 : σ3.2.2 1 4 = c := g.ref g3 hc
        rw [f_X9_readTown, g3.1.2.2.2.1, g3.2.1.2.2.2.1]
        simp only [show (2 : Int32) = nI 2 from rfl, q_eq (show mtk (tkT tx n k3) < 2 ^ 31 by omega) (show 2 < 2 ^ 31 by omega), mtk_2]
        by_cases hTT : tkT tx n k3 = 1
        · have hl := tk_1 tx hTT
          rw [if_pos (show nI (tkT tx n k3) = (1 : Int32) by rw [hTT]; rfl), r3, if_pos hk, if_pos hTT, g3.1.2.2.2.2.2.2 hTT, f_X12_personLine_J90, if_pos (show μ3.1 92 13 = 0 from g3.2.2.1), eg, (g3.2.1.2.2.2.2.2.2 hTT).1]
          simp only [blet, fcd (show p < 7 by omega) (by omega), fcd (show 226 + 9 * p < 406 by omega) (by omega), if_false, nI_clamp (show p < 2 ^ 31 by omega), nI_clamp (show 226 + 9 * p < 2 ^ 31 by omega)]
          obtain ⟨μ4, w1, w2, w3⟩ := m_townL (p := p) (N := tkN tx n k3) (tkL tx n k3) (by omega) hl.1.2 (nI (35 + 4 * p)) (tkN tx n k3) 0 bFU (bI μ3 96 (226 + 9 * p) (nI (tkN tx n k3))) (by omega) (by show _ < 100000; omega) (by rw [bI_ne (by omega)]; exact (g3.2.1.2.2.2.2.2.2 hTT).1) (fun i hi => by rw [bI_ne (by omega)]; exact (g3.2.1.2.2.2.2.2.2 hTT).2 i hi)
          have hA4 : AO (fun a _ => a = 96) μ3 μ4 := (AO.set (B := fun a _ => a = 96) μ3 (o := 96) (k := 226 + 9 * p) (nI (tkN tx n k3)) rfl).trans w2
          have g4 : GD c σ0 μ0 tx n k3 (bJ σ3 (c + 7 + 2) p (nL (tkW tx n k3))) μ4 := by
            have g3J := g3.setJ (o := c + 7 + 2) (j := p) (nL (tkW tx n k3)) (by omega) (by omega)
            exact ⟨g3J.1, g3.2.1.ao hA4 (fun a k z => by have : a = 96 := z; omega), by rw [hA4.1 92 13 (by show ¬ (92 : Nat) = 96; decide)]; exact g3.2.2.1, g3J.2.2.2.1, g3.2.2.2.2.trans (hA4.mono (fun a k z => Or.inr (Or.inl z)))⟩
          obtain ⟨σ5, μ5, s5, m5, g5, a5, b5⟩ := g4.both
          rw [show (0 : Int32) = nI 0 from rfl, w1, s5]
          simp only [bl2, bbv_s, bbd_s]
          rw [m5, if_neg (show ¬ (1 : Int32) = nI 0 by decide), ef1, ef2]
          simp only [bbv_s, fcd (show 36 + 4 * p < 406 by omega) (by omega), fcd (show 37 + 4 * p < 406 by omega) (by omega), if_false, nI_clamp (show 36 + 4 * p < 2 ^ 31 by omega), nI_clamp (show 37 + 4 * p < 2 ^ 31 by omega)]
          refine PW_aft 0 60 g5 (by decide) rfl rfl (by decide) (by decide) (fun cd k6 σ6 μ6 i1 i2 f6 l6 g6 a6 b6 => ?_) (fun μ' hf => ?_)
          · rw [f6, set_e, set_e, if_pos (show μ6.1 92 13 = nI 0 from g6.2.2.1)]
            have kk : ∀ a j, 3 ≤ a → ¬ (a = c + 7 + 1 ∧ j = p) → σ6.1 a j = σ.1 a j := fun a j z z1 => by rw [a6.k _ _ z, a5.k _ _ z, bJ_1, a3.k _ _ z, bI_ne (by omega), a2.k _ _ z, a1.k _ _ z]
            have kl : ∀ a j, 3 ≤ a → ¬ (a = c + 7 + 2 ∧ j = p) → σ6.2.1 a j = σ.2.1 a j := fun a j z z1 => by rw [a6.kL _ _ z, a5.kL _ _ z, bJ_at, if_neg z1, a3.kL _ _ z, bI_21, a2.kL _ _ z, a1.kL _ _ z]
            have c7 : (bJ (bI σ6 (c + 7 + 3) p (nI cd)) 6 p (nL (tkW tx n k))).1 (c + 7) 7 = nI p := by rw [bJ_1, bI_ne (by omega), kk _ _ (by omega) (by omega), h7]
            rw [c7, nI_1]
            have gF := (((((g6.setC (o := c + 7 + 3) (j := p) (nI cd) (by omega) (by omega)).setJ (o := 6) (j := p) (nL (tkW tx n k)) (by omega) (by omega)).setC (o := c + 7) (j := 7) (nI (p + 1)) (by omega) (by omega)).setM (j := 36 + 4 * p) (nI cd)).setM (j := 37 + 4 * p) (nI 0))
            sorry
          · simp only [set_e, hf, n10, if_false]
            sorry
        · sorry
      · rw [if_neg (f0 hf), J90_f hf]
        exact ff_id μ'
    · rw [J59_f (set_f hf)]
      exact ff1 _ _ _
  · rw [if_neg (f0 hf), J59_f hf]
    exact ff_id μ'
