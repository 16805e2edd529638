/-! ===== line: person, the walk (own work) ===== -/
theorem m_townL {p N : Nat} (L : Nat → Nat) (hp : p < 7) (hN : N ≤ 8) (x2 : Int32) : ∀ d j g μ, j + d = N → d < g → μ.1 92 8 = nI N → (∀ i, i < N → μ.1 94 i = nI (L i)) → ∃ τ, f_X12_personLine_L117 g (nI p) x2 (nI j) μ = some (nI p, x2, τ) ∧ AO (fun a _ => a = 96) μ τ ∧ ∀ i, τ.1 96 i = if 227 + 9 * p + j ≤ i ∧ i < 227 + 9 * p + N then nI (L (i - (227 + 9 * p))) else μ.1 96 i := by
  intro d
  induction d with
  | zero =>
    intro j g μ hj hg h8 h94
    obtain ⟨g, rfl⟩ : ∃ g', g = g' + 1 := ⟨g - 1, by omega⟩
    refine ⟨μ, ?_, AO.refl _ _, fun i => by rw [if_neg (by omega)]⟩
    rw [f_X12_personLine_L117, h8]
    simp (disch := omega) only [q_lit, q_lt0, q_ge0, q_le, q_lt, q_eq, q_cl, q_add, q_mul, q_div, q_rem]
    rw [if_pos (by omega)]
  | succ d ih =>
    intro j g μ hj hg h8 h94
    obtain ⟨g, rfl⟩ : ∃ g', g = g' + 1 := ⟨g - 1, by omega⟩
    have g1 : ¬ 8 ≤ j := by omega
    have g2 : ¬ 406 ≤ 226 + 9 * p + 1 + j := by omega
    have hA : AO (fun a _ => a = 96) μ (bI μ 96 (226 + 9 * p + 1 + j) (nI (L j))) := AO.set μ _ rfl
    obtain ⟨τ, t1, t2, t3⟩ := ih (j + 1) g (bI μ 96 (226 + 9 * p + 1 + j) (nI (L j))) (by omega) (by omega) (by rw [bI_ne (by omega)]; exact h8) (fun i hi => by rw [bI_ne (by omega)]; exact h94 i hi)
    refine ⟨τ, ?_, hA.trans t2, fun i => ?_⟩
    · rw [f_X12_personLine_L117, h8]
      simp (disch := omega) only [q_lit, q_lt0, q_ge0, q_le, q_lt, q_eq, q_cl, q_add, q_mul, q_div, q_rem, Nat.not_lt_zero, false_or, if_false, g1, g2]
      rw [if_neg (by omega), h94 j (by omega)]
      simp only [blet]
      exact t1
    · rw [t3]
      by_cases e : i = 227 + 9 * p + j
      · rw [if_neg (by omega), e, show 227 + 9 * p + j = 226 + 9 * p + 1 + j by omega, bI_eq, if_pos (by omega), show 226 + 9 * p + 1 + j - (227 + 9 * p) = j by omega]
      · rw [bI_ne (by omega)]
        by_cases z : 227 + 9 * p + (j + 1) ≤ i ∧ i < 227 + 9 * p + N
        · rw [if_pos z, if_pos (by omega)]
        · rw [if_neg z, if_neg (by omega)]
theorem J90_f {x1 x2 : Int32} {μ : bSto} (hf : μ.1 92 13 = nI 1) : f_X12_personLine_J90 x1 x2 μ = some μ := by rw [f_X12_personLine_J90, if_neg (f0 hf)]
theorem J59_f {x1 x2 : Int32} {μ : bSto} (hf : μ.1 92 13 = nI 1) : f_X12_personLine_J59 x1 x2 μ = some μ := by
  rw [f_X12_personLine_J59, must_f hf]
  simp only [bbv_s]
  rw [if_neg (f0 hf), J90_f hf]
theorem PW_mono {c : Nat} {σ0 μ0 : bSto} {tx : Nat → Nat} {n : Nat} {C : Option (Int32 × bSto)} {M : Option bSto} {Q Q' : Nat → bSto → bSto → Prop} (h : PW c σ0 μ0 tx n C M Q) (hQ : ∀ k σ μ, Q k σ μ → Q' k σ μ) : PW c σ0 μ0 tx n C M Q' := by
  obtain ⟨r, σ, μ, h1, h2, h3⟩ := h
  refine ⟨r, σ, μ, h1, h2, ?_⟩
  rcases h3 with ⟨rfl, k, g, q⟩ | h
  · exact Or.inl ⟨rfl, k, g, hQ k σ μ q⟩
  · exact Or.inr h
theorem PW_wrap {c : Nat} {σ0 μ0 : bSto} {tx : Nat → Nat} {n : Nat} {C : Option (Int32 × bSto)} {M : Option bSto} {Q : Nat → bSto → bSto → Prop} (h : PW c σ0 μ0 tx n C M Q) : PW c σ0 μ0 tx n (bbd C (fun v s => if v = 0 ∨ v = 1 then some (v, s) else none)) M Q := by
  obtain ⟨r, σ, μ, h1, h2, h3⟩ := h
  refine ⟨r, σ, μ, ?_, h2, h3⟩
  rw [h1]
  simp only [bbd_s]
  rcases h3 with ⟨rfl, -⟩ | ⟨rfl, -⟩ <;> rfl
theorem AO.both4 {μ μ' : bSto} (h : AO Bv μ μ') (j : Nat) (x : Int32) : AO Bv (bI μ 96 j x) (bI μ' 96 j x) := ⟨fun a k z => by rw [bI_at, bI_at, h.1 a k z], h.2⟩
theorem l_person {c : Nat} {σ0 μ0 : bSto} {tx : Nat → Nat} {n k : Nat} {u : Nat → Nat} {bel : Nat → Int32} {σ μ : bSto} (S : ST c u bel σ μ) (g : GD c σ0 μ0 tx n k σ μ) (h47 : u 4 < 7) (hu0 : u 0 ≠ 0) : PW c σ0 μ0 tx n (f_X9_readPerson σ) (f_X12_personLine μ) (LN c k) := by
  have S0 := S
  obtain ⟨⟨hk, hc, hK⟩, hM, G1', G2', G3', G4', G5', G6', G7', G8'⟩ := S0
  have hk' : c = 7 ∨ c = 69 := hk
  obtain ⟨p, hp⟩ : ∃ p, p = u 4 := ⟨_, rfl⟩
  have h7 : σ.1 (c + 7) 7 = nI p := by rw [hp]; exact G3'.2.1
  have m4 : μ.1 96 4 = nI p := by rw [hp]; exact hM.1 4 (by omega) (by omega)
  have ef : (35 : Int32) + (4 : Int32) * nI p = nI (35 + 4 * p) := by rw [show (35 : Int32) = nI 35 from rfl, show (4 : Int32) = nI 4 from rfl, q_mul, q_add]
  have eg : (226 : Int32) + (9 : Int32) * nI p = nI (226 + 9 * p) := by rw [show (226 : Int32) = nI 226 from rfl, show (9 : Int32) = nI 9 from rfl, q_mul, q_add]
  have ef1 : nI (35 + 4 * p) + (1 : Int32) = nI (36 + 4 * p) := by rw [show (1 : Int32) = nI 1 from rfl, q_add, show 35 + 4 * p + 1 = 36 + 4 * p by omega]
  have ef2 : nI (35 + 4 * p) + (2 : Int32) = nI (37 + 4 * p) := by rw [show (2 : Int32) = nI 2 from rfl, q_add, show 35 + 4 * p + 2 = 37 + 4 * p by omega]
  have e6 : (6 : Int32) + nI p = nI (6 + p) := by rw [show (6 : Int32) = nI 6 from rfl, q_add]
  rw [f_X9_readPerson, f_X12_personLine, hc, if_pos hk, if_pos (show μ.1 92 13 = 0 from g.2.2.1), h7, m4]
  simp only [blet, fcd (show p < 7 by omega) (by omega), ef, e6, fcd (show 35 + 4 * p < 406 by omega) (by omega), if_false, nI_clamp (show p < 2 ^ 31 by omega), nI_clamp (show 35 + 4 * p < 2 ^ 31 by omega)]
  rw [if_pos (show nI p < (7 : Int32) from nI_lt (b := 7) (by omega) (by omega))]
  refine PW_new S g (m := 6 + p) (by omega) rfl (fun σ1 μ1 hT hnm g1 a1 j1 => ?_) (fun μ' hf hA => ?_)
  · rw [if_pos (show μ1.1 92 13 = 0 from g1.2.2.1), g.1.2.2.2.2.2.2 hT]
    have lm1 : ∀ j, j < 289 → μ1.1 96 j = μ.1 96 j := fun j hj => nwm_lo j1 hj
    refine PW_kind g1 (fun q σ2 μ2 q1 f2 g2 a2 b2' => ?_) (fun v μ' hf hA => ?_)
    · rw [f2, f_X12_personLine_J59]
      have g2' := (g2.setC (o := c + 7 + 1) (j := p) (nI q) (by omega) (by omega)).setM (j := 35 + 4 * p) (nI q)
      refine PW_wordF (w := 8) g2' (by decide) (fun σ3 μ3 g3 a3 b3 => ?_) (fun μ' hf hA => ?_)
      · rw [if_pos (show μ3.1 92 13 = 0 from g3.2.2.1)]
        generalize hk3 : tkE tx n (tkE tx n (tkE tx n k)) = k3 at g3
        have t1 := tk_b tx g.1.2.1
        have t2 := tk_b tx g1.1.2.1
        have t3 := tk_b tx g2.1.2.1
        have t4 := tk_b tx g3.1.2.1
        have T5 := @CT.t5 tx n k3
        have mT := mtk_lt (tkT tx n k3)
        have r3 : σ3.2.2 1 4 = c := g.ref g3 hc
        rw [f_X9_readTown, g3.1.2.2.2.1, g3.2.1.2.2.2.1]
        simp only [show (2 : Int32) = nI 2 from rfl, q_eq (show mtk (tkT tx n k3) < 2 ^ 31 by omega) (show 2 < 2 ^ 31 by omega), mtk_2]
        by_cases hTT : tkT tx n k3 = 1
        · have hl := tk_1 tx hTT
          rw [if_pos (show nI (tkT tx n k3) = (1 : Int32) by rw [hTT]; rfl), r3, if_pos hk, if_pos hTT, g3.1.2.2.2.2.2.2 hTT, f_X12_personLine_J90, if_pos (show μ3.1 92 13 = 0 from g3.2.2.1), eg, (g3.2.1.2.2.2.2.2.2 hTT).1]
          simp only [blet, fcd (show p < 7 by omega) (by omega), fcd (show 226 + 9 * p < 406 by omega) (by omega), if_false, nI_clamp (show p < 2 ^ 31 by omega), nI_clamp (show 226 + 9 * p < 2 ^ 31 by omega)]
          obtain ⟨μ4, w1, w2, w3⟩ := m_townL (p := p) (N := tkN tx n k3) (tkL tx n k3) (by omega) hl.1.2 (nI (35 + 4 * p)) (tkN tx n k3) 0 bFU (bI μ3 96 (226 + 9 * p) (nI (tkN tx n k3))) (by omega) (by show _ < 100000; omega) (by rw [bI_ne (by omega)]; exact (g3.2.1.2.2.2.2.2.2 hTT).1) (fun i hi => by rw [bI_ne (by omega)]; exact (g3.2.1.2.2.2.2.2.2 hTT).2 i hi)
          have hA4 : AO (fun a _ => a = 96) μ3 μ4 := (AO.set (B := fun a _ => a = 96) μ3 (o := 96) (k := 226 + 9 * p) (nI (tkN tx n k3)) rfl).trans w2
          have g4 : GD c σ0 μ0 tx n k3 (bJ σ3 (c + 7 + 2) p (nL (tkW tx n k3))) μ4 := by
            have g3J := g3.setJ (o := c + 7 + 2) (j := p) (nL (tkW tx n k3)) (by omega) (by omega)
            exact ⟨g3J.1, g3.2.1.ao hA4 (fun a k z => by have : a = 96 := z; omega), by rw [hA4.1 92 13 (by show ¬ (92 : Nat) = 96; decide)]; exact g3.2.2.1, g3J.2.2.2.1, g3.2.2.2.2.trans (hA4.mono (fun a k z => Or.inr (Or.inl z)))⟩
          obtain ⟨σ5, μ5, s5, m5, g5, a5, b5⟩ := g4.both
          have w1' : f_X12_personLine_L117 bFU (nI p) (nI (35 + 4 * p)) (0 : Int32) (bI μ3 96 (226 + 9 * p) (nI (tkN tx n k3))) = some (nI p, nI (35 + 4 * p), μ4) := w1
          rw [w1', s5]
          simp only [bl2, bbv_s, bbd_s]
          rw [m5, if_neg (show ¬ (1 : Int32) = 0 by decide), ef1, ef2]
          simp only [bbv_s, fcd (show 36 + 4 * p < 406 by omega) (by omega), fcd (show 37 + 4 * p < 406 by omega) (by omega), if_false, nI_clamp (show 36 + 4 * p < 2 ^ 31 by omega), nI_clamp (show 37 + 4 * p < 2 ^ 31 by omega)]
          refine PW_aft 0 60 g5 (by decide) rfl rfl (by decide) (by decide) (fun cd k6 σ6 μ6 i1 i2 f6 l6 g6 a6 b6 => ?_) (fun μ' hf => ?_)
          · rw [f6, set_e, set_e, if_pos (show μ6.1 92 13 = 0 from g6.2.2.1)]
            have kk : ∀ a j, 3 ≤ a → ¬ (a = c + 7 + 1 ∧ j = p) → σ6.1 a j = σ.1 a j := fun a j z z1 => by rw [a6.k _ _ z, a5.k _ _ z, bJ_1, a3.k _ _ z, bI_ne (by omega), a2.k _ _ z, a1.k _ _ z]
            have kl : ∀ a j, 3 ≤ a → ¬ (a = c + 7 + 2 ∧ j = p) → σ6.2.1 a j = σ.2.1 a j := fun a j z z1 => by rw [a6.kL _ _ z, a5.kL _ _ z, bJ_at, if_neg z1, a3.kL _ _ z, bI_21, a2.kL _ _ z, a1.kL _ _ z]
            have c7 : (bJ (bI σ6 (c + 7 + 3) p (nI cd)) 6 p (nL (tkW tx n k))).1 (c + 7) 7 = nI p := by rw [bJ_1, bI_ne (by omega), kk _ _ (by omega) (by omega), h7]
            rw [c7, nI_1]
            have gF := (((((g6.setC (o := c + 7 + 3) (j := p) (nI cd) (by omega) (by omega)).setJ (o := 6) (j := p) (nL (tkW tx n k)) (by omega) (by omega)).setC (o := c + 7) (j := 7) (nI (p + 1)) (by omega) (by omega)).setM (j := 36 + 4 * p) (nI cd)).setM (j := 37 + 4 * p) (0 : Int32))
            have kf : ∀ a j, 3 ≤ a → ¬ (a = c + 7 + 1 ∧ j = p) → ¬ (a = c + 7 + 3 ∧ j = p) → ¬ (a = c + 7 ∧ j = 7) → (bI (bJ (bI σ6 (c + 7 + 3) p (nI cd)) 6 p (nL (tkW tx n k))) (c + 7) 7 (nI (p + 1))).1 a j = σ.1 a j := fun a j z z1 z2 z3 => by rw [bI_ne (by omega), bJ_1, bI_ne (by omega), kk _ _ z z1]
            have mm : ∀ j, ¬ (226 + 9 * p ≤ j ∧ j < 227 + 9 * p + tkN tx n k3) → j ≠ 35 + 4 * p → μ6.1 96 j = μ1.1 96 j := fun j z z1 => by rw [b6.m, b5.m, w3, if_neg (by omega), bI_ne (by omega), b3.m, bI_ne (by omega), b2'.m]
            obtain ⟨u1, hu1⟩ : ∃ u1 : Nat → Nat, u1 = fun j => if j = 4 then p + 1 else if j = 35 + 4 * p then q else if j = 36 + 4 * p then cd else if j = 226 + 9 * p then tkN tx n k3 else if 227 + 9 * p ≤ j ∧ j < 227 + 9 * p + tkN tx n k3 then tkL tx n k3 (j - (227 + 9 * p)) else unm u (6 + p) (tkN tx n k) (tkL tx n k) j := ⟨_, rfl⟩
            have U4 : u1 4 = p + 1 := by rw [hu1]; rfl
            have U35 : u1 (35 + 4 * p) = q := by simp only [hu1]; rw [if_neg (by omega), if_pos trivial]
            have U36 : u1 (36 + 4 * p) = cd := by simp only [hu1]; rw [if_neg (by omega), if_neg (by omega), if_pos trivial]
            have UT : u1 (226 + 9 * p) = tkN tx n k3 := by simp only [hu1]; rw [if_neg (by omega), if_neg (by omega), if_neg (by omega), if_pos trivial]
            have UL : ∀ i, i < tkN tx n k3 → u1 (227 + 9 * p + i) = tkL tx n k3 i := fun i hi => by simp only [hu1]; rw [if_neg (by omega), if_neg (by omega), if_neg (by omega), if_neg (by omega), if_pos (by omega), show 227 + 9 * p + i - (227 + 9 * p) = i by omega]
            have hl8 := hl.1.2
            have UN : ∀ j, 289 ≤ j → u1 j = unm u (6 + p) (tkN tx n k) (tkL tx n k) j := fun j hj => by simp only [hu1]; rw [if_neg (by omega), if_neg (by omega), if_neg (by omega), if_neg (by omega), if_neg (by omega)]
            have UO : ∀ j, j < 289 → j ≠ 4 → j ≠ 35 + 4 * p → j ≠ 36 + 4 * p → ¬ (226 + 9 * p ≤ j ∧ j < 227 + 9 * p + tkN tx n k3) → u1 j = u j := fun j h1 h2 h3 h4 h5 => by simp only [hu1, unm]; rw [if_neg (by omega), if_neg (by omega), if_neg (by omega), if_neg (by omega), if_neg (by omega), if_neg (by omega), if_neg (by omega)]
            have htk1 := tk_1 tx hT
            have hu37 : u (37 + 4 * p) = 0 := (G3'.2.2.2.1 p (by omega)).2 (by omega)
            have t6 := tk_b tx g5.1.2.1
            obtain ⟨n1, n2, n3, n4, n5, n6⟩ := G4'
            obtain ⟨v1, v4, v5, v6, v7⟩ := nm_new (u := u) (u' := u1) (m := 6 + p) (N := tkN tx n k) (L := tkL tx n k) (by omega) UN n1 n4 htk1.1 htk1.2 hnm
            have S1 : ST c u1 bel (bI (bJ (bI σ6 (c + 7 + 3) p (nI cd)) 6 p (nL (tkW tx n k))) (c + 7) 7 (nI (p + 1))) (bI (bI (bI μ6 96 (36 + 4 * p) (nI cd)) 96 (37 + 4 * p) (0 : Int32)) 96 4 (nI (p + 1))) := by
              refine ⟨⟨hk, g.ref gF hc, fun i hi => ?_⟩, ⟨fun j h h' => ?_, fun p' hp' => ?_⟩, ?_, ?_, ?_, ?_, ?_, ?_, ?_, ?_⟩
              · rw [bI_21, bJ_at, if_neg (by omega), bI_21, kl _ _ (by omega) (by omega)]; exact hK i hi
              · by_cases e4 : j = 4
                · rw [e4, bI_eq, U4]
                · rw [bI_ne (by omega)]
                  by_cases e37 : j = 37 + 4 * p
                  · rw [e37, bI_eq, UO _ (by omega) (by omega) (by omega) (by omega) (by omega), hu37]; rfl
                  · rw [bI_ne (by omega)]
                    by_cases e36 : j = 36 + 4 * p
                    · rw [e36, bI_eq, U36]
                    · rw [bI_ne (by omega)]
                      by_cases e35 : j = 35 + 4 * p
                      · rw [e35, b6.m, b5.m, w3, if_neg (by omega), bI_ne (by omega), b3.m, bI_eq, U35]
                      · by_cases e226 : j = 226 + 9 * p
                        · rw [e226, b6.m, b5.m, w3, if_neg (by omega), bI_eq, UT]
                        · by_cases e227 : 227 + 9 * p ≤ j ∧ j < 227 + 9 * p + tkN tx n k3
                          · have := UL (j - (227 + 9 * p)) (by omega)
                            rw [show 227 + 9 * p + (j - (227 + 9 * p)) = j by omega] at this
                            rw [this, b6.m, b5.m, w3, if_pos (by omega)]
                          · rw [mm j (by omega) e35]
                            by_cases e289 : 289 ≤ j
                            · rw [UN j e289, j1 j, unm]
                              by_cases z1 : j = 289 + (6 + p)
                              · rw [if_pos z1, if_pos z1]
                              · rw [if_neg z1, if_neg z1]
                                by_cases z2 : 302 + 8 * (6 + p) ≤ j ∧ j < 302 + 8 * (6 + p) + tkN tx n k
                                · rw [if_pos z2, if_pos z2]
                                · rw [if_neg z2, if_neg z2]; exact hM.1 j h h'
                            · rw [lm1 j (by omega), UO j (by omega) e4 e35 e36 (by omega)]; exact hM.1 j h h'
              · rw [bI_ne (by omega), bI_ne (by omega), bI_ne (by omega), mm _ (by omega) (by omega), lm1 _ (by omega)]; exact hM.2 p' hp'
              · exact G1'.cg (fun j z => UO j (by omega) (by omega) (by omega) (by omega) (by omega)) (fun a k' z => kf _ _ (by omega) (by omega) (by omega) (by omega))
              · exact G2'.cg (fun j z => UO j (by omega) (by omega) (by omega) (by omega) (by omega)) (fun a k' z => kf _ _ (by omega) (by omega) (by omega) (by omega))
              · refine ⟨by omega, by rw [bI_eq, U4], fun i hi => ?_, fun i hi => ?_, by rw [kf _ _ (by omega) (by omega) (by omega) (by omega)]; exact G3'.2.2.2.2⟩
                · by_cases z : i = p
                  · subst z
                    have e1 : twn u1 i = tkN tx n k3 := UT
                    have e2 : ∀ j, j < tkN tx n k3 → twl u1 i j = tkL tx n k3 j := UL
                    have e3 : twc u1 i = tkW tx n k3 := by
                      rw [twc, e1]
                      exact wc_congr _ e2
                    rw [U35, U36, UO (37 + 4 * i) (by omega) (by omega) (by omega) (by omega) (by omega), hu37, e1, e3]
                    refine ⟨⟨q1, i2, by omega⟩, ⟨?_, ?_⟩, ⟨hl8, fun j hj => by rw [e2 j hj]; exact hl.2 j hj⟩, ?_⟩
                    · rw [bI_ne (by omega), bJ_1, bI_ne (by omega), a6.k _ _ (by omega), a5.k _ _ (by omega), bJ_1, a3.k _ _ (by omega), bI_eq]
                    · rw [bI_ne (by omega), bJ_1, bI_eq]
                    · rw [bI_21, bJ_at, if_neg (by omega), bI_21, a6.kL _ _ (by omega), a5.kL _ _ (by omega), bJ_at, if_pos ⟨rfl, rfl⟩]
                  · obtain ⟨w1', w2', w3', w4'⟩ := G3'.2.2.1 i (by omega)
                    have w38 := w3'.1
                    have e1 : twn u1 i = twn u i := UO _ (by omega) (by omega) (by omega) (by omega) (by omega)
                    have e2 : ∀ j, j < 8 → twl u1 i j = twl u i j := fun j hj => UO _ (by omega) (by omega) (by omega) (by omega) (by omega)
                    have e3 : twc u1 i = twc u i := by
                      rw [twc, twc, e1]
                      exact wc_congr _ (fun j hj => e2 j (by omega))
                    rw [UO (35 + 4 * i) (by omega) (by omega) (by omega) (by omega) (by omega), UO (36 + 4 * i) (by omega) (by omega) (by omega) (by omega) (by omega), UO (37 + 4 * i) (by omega) (by omega) (by omega) (by omega) (by omega), UO 3 (by omega) (by omega) (by omega) (by omega) (by omega), kf _ _ (by omega) (by omega) (by omega) (by omega), kf _ _ (by omega) (by omega) (by omega) (by omega), bI_21, bJ_at, if_neg (by omega), bI_21, kl _ _ (by omega) (by omega), e1, e3]
                    exact ⟨w1', w2', ⟨w38, fun j hj => by rw [e2 j (by omega)]; exact w3'.2 j hj⟩, w4'⟩
                · rw [kf _ _ (by omega) (by omega) (by omega) (by omega), UO (37 + 4 * i) (by omega) (by omega) (by omega) (by omega) (by omega), U4]
                  exact ⟨(G3'.2.2.2.1 i hi).1, fun z => (G3'.2.2.2.1 i hi).2 (by omega)⟩
              · refine ⟨v1, fun m hm => ?_, fun i hi => ?_, v4, fun i hi => ?_, fun i hi => ?_⟩
                · rw [UO 3 (by omega) (by omega) (by omega) (by omega) (by omega), (v7 m (by omega) (by omega)).2]; exact n2 m hm
                · rw [U4]
                  by_cases z : i = p
                  · have e := v6
                    rw [show 289 + (6 + p) = 295 + p by omega] at e
                    rw [z, e]; omega
                  · have e := (v7 (6 + i) (by omega) (by omega)).2
                    rw [show 289 + (6 + i) = 295 + i by omega] at e
                    rw [e]
                    have := n3 i hi
                    omega
                · rw [UO 3 (by omega) (by omega) (by omega) (by omega) (by omega)] at hi
                  have := G2'.1
                  rw [bI_21, bJ_at, if_neg (by omega), bI_21, kl _ _ (by omega) (by omega), (v7 i (by omega) (by omega)).1]
                  exact n5 i hi
                · rw [U4] at hi
                  rw [bI_21, bJ_at]
                  by_cases z : i = p
                  · rw [if_pos ⟨rfl, z⟩, z, v5]; rfl
                  · rw [if_neg (fun w => z w.2), bI_21, kl _ _ (by omega) (by omega), (v7 (6 + i) (by omega) (by omega)).1]
                    exact n6 i (by omega)
              · exact G5'.cg (fun j z => UO j (by omega) (by omega) (by omega) (by omega) (by omega)) (fun a k' z => kf _ _ (by omega) (by omega) (by omega) (by omega))
              · exact G6'.cg (fun j z => UO j (by omega) (by omega) (by omega) (by omega) (by omega)) (by omega) (fun a k' z => kf _ _ (by omega) (by omega) (by omega) (by omega))
              · exact G7'.cg (fun j z => UO j (by omega) (by omega) (by omega) (by omega) (by omega)) (fun k' => kf _ _ (by omega) (by omega) (by omega) (by omega))
              · exact G8'.cg (fun j z => UO j (by omega) (by omega) (by omega) (by omega) (by omega)) (fun a k' z => kf _ _ (by omega) (by omega) (by omega) (by omega))
            have mF4 : (bI (bI μ6 96 (36 + 4 * p) (nI cd)) 96 (37 + 4 * p) (0 : Int32)).1 96 4 = nI p := by rw [bI_ne (by omega), bI_ne (by omega), mm 4 (by omega) (by omega), lm1 4 (by omega), m4]
            rw [c_is gF.1 (by decide), f_X12_takesWord, m_isWord gF.2.1 gF.2.2.1 (by decide)]
            simp only [bbd_s]
            cases isW tx n k6 14 with
            | false =>
              rw [if_pos (show b2 false = 0 from rfl), if_pos (show b2 false = 0 from rfl)]
              simp only [bbd_s]
              rw [if_pos trivial, f_X12_personLine_J336, if_pos (show _ = (0 : Int32) from gF.2.2.1), mF4]
              simp only [blet]
              rw [nI_1]
              refine PW_end (gF.setM _) ?_
              exact ⟨by omega, u1, bel, S1⟩
            | true =>
              obtain ⟨σ7, μ7, s7, m7, g7, a7, b7⟩ := gF.both
              rw [if_neg (show ¬ b2 true = 0 by decide), if_neg (show ¬ b2 true = 0 by decide), s7, m7]
              simp only [bbv_s, bbd_s]
              rw [if_neg (show ¬ (1 : Int32) = 0 by decide)]
              refine PW_wrap (PW_mono (l_seat (S1.tok a7 (b7.both4 4 (nI (p + 1)))) g7 U4 (by rw [UO (37 + 4 * p) (by omega) (by omega) (by omega) (by omega) (by omega), hu37]) (by rw [b7.m, mF4]) (by rw [UO 0 (by omega) (by omega) (by omega) (by omega) (by omega)]; exact hu0) rfl) (fun k' σ' μ' (hq : LN c _ k' σ' μ') => ⟨by
                have t7 := tk_b tx gF.1.2.1
                have := hq.1
                omega, hq.2⟩))
          · simp only [set_e, hf, n10, if_false]
            rw [J336_f (set_f (set_f hf))]
            exact ff2 _ _ _ _ _
        · rw [if_neg (show ¬ nI (tkT tx n k3) = (1 : Int32) from fun z => hTT (by
            have : nI (tkT tx n k3) = nI 1 := z
            rwa [q_eq (by omega) (by omega)] at this)), if_neg hTT]
          obtain ⟨σ', μ', d1, d2, d3, d4, d5, d6⟩ := bad_pair g3.1 g3.2.1 g3.2.2.1 (x := 1) 1 rfl
          rw [d1, d2]
          simp only [bbd_s, bbv_s]
          rw [J90_f d6]
          exact PW_bad (g3.bad d3 d4 d5) (by rw [if_pos (Or.inl trivial)]; rfl) (ff_id μ')
      · rw [if_neg (f0 hf), J90_f hf]
        exact ff_id μ'
    · rw [J59_f (set_f hf)]
      exact ff1 _ _ _
  · rw [if_neg (f0 hf), J59_f hf]
    exact ff_id μ'
