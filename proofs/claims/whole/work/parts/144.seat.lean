/-! ===== line: person, the seat (own work) ===== -/
theorem G_WF {c : Nat} {u : Nat → Nat} {σ : bSto} (g1 : G1 c u σ) (g2 : G2 c u σ) (g3 : G3 c u σ) (g5 : G5 c u σ) (g6 : G6 c u σ) (g8 : G8 c u σ) (h3 : 1 ≤ u 3) : WF u ∧ CVh c u σ ∧ CVf c u σ := by
  have h0 : u 0 ≠ 0 := fun z => by have := g1.2.2.1 z; omega
  obtain ⟨⟨w1, w2, w3, w4⟩, w5, w6, w7, w8, w9, w10⟩ := g1.2.2.2 h0
  have := g1.2.1
  refine ⟨⟨⟨by omega, by omega⟩, w1, w2, ⟨h3, g2.1⟩, g3.1, g5.1, g6.1, g8.1, w3, w4, fun b hb => (g2.2.2 b hb).1, fun p hp => (g3.2.2.1 p hp).1, fun p hp => (g5.2.2 p hp).1⟩, ⟨g2.2.1, w5, w6, w7, w8, w9, fun b hb => (g2.2.2 b hb).2⟩, ⟨g3.2.1, g5.2.1, g6.2.1, fun p hp => ?_⟩⟩
  have h7 := g3.1
  exact ⟨(g3.2.2.1 p hp).2.1.1, (g3.2.2.1 p hp).2.1.2, (g5.2.2 p (by omega)).2⟩
theorem m_there {p b : Nat} {u : Nat → Nat} {μ : bSto} (hp : p ≤ 7) (hb : b ≤ 5) (hu : ∀ q, q < 7 → u (37 + 4 * q) ≤ 6) (hm : ∀ q, q < 7 → μ.1 96 (37 + 4 * q) = nI (u (37 + 4 * q))) (x2 : Int32) : ∀ d i g acc, i + d = p → d < g → f_X12_personLine_L214 g (nI p) x2 (nI b) (nI acc) (nI i) μ = some (x2, nI b, nI (acc + sm (fun j => (u (37 + 4 * (i + j)) == b + 1).toNat) d), μ) := by
  intro d
  induction d with
  | zero =>
    intro i g acc hi hg
    obtain ⟨g, rfl⟩ : ∃ g', g = g' + 1 := ⟨g - 1, by omega⟩
    rw [f_X12_personLine_L214]
    simp (disch := omega) only [q_lit, q_lt0, q_ge0, q_le, q_lt, q_eq, q_cl, q_add, q_mul, q_div, q_rem]
    rw [if_pos (by omega)]
    rfl
  | succ d ih =>
    intro i g acc hi hg
    obtain ⟨g, rfl⟩ : ∃ g', g = g' + 1 := ⟨g - 1, by omega⟩
    have g1 : ¬ 406 ≤ 35 + 4 * i + 2 := by omega
    have hu' := hu i (by omega)
    rw [f_X12_personLine_L214]
    simp (disch := omega) only [q_lit, q_lt0, q_ge0, q_le, q_lt, q_eq, q_cl, q_add, q_mul, q_div, q_rem, Nat.not_lt_zero, false_or, if_false, g1]
    rw [if_neg (by omega), show 35 + 4 * i + 2 = 37 + 4 * i by omega, hm i (by omega)]
    simp (disch := omega) only [q_lit, q_lt0, q_ge0, q_le, q_lt, q_eq, q_cl, q_add, q_mul, q_div, q_rem]
    have e : ∀ t, sm (fun j => (u (37 + 4 * (i + j)) == b + 1).toNat) (d + 1) = t + sm (fun j => (u (37 + 4 * (i + 1 + j)) == b + 1).toNat) d ↔ (u (37 + 4 * i) == b + 1).toNat = t := fun t => by
      have h1 := sm_split (fun j => (u (37 + 4 * (i + j)) == b + 1).toNat) 1 d
      rw [Nat.add_comm 1 d] at h1
      have h2 : sm (fun j => (u (37 + 4 * (i + j)) == b + 1).toNat) 1 = (u (37 + 4 * i) == b + 1).toNat := by simp [sm]
      have h3 : sm (fun j => (u (37 + 4 * (i + (1 + j))) == b + 1).toNat) d = sm (fun j => (u (37 + 4 * (i + 1 + j)) == b + 1).toNat) d := sm_congr _ (fun j _ => by rw [Nat.add_assoc])
      rw [h1, h2, h3]
      omega
    by_cases z : u (37 + 4 * i) = b + 1
    · rw [if_pos z, f_X12_personLine_J247_214]
      simp only [blet]
      rw [q_add, nI_1, ih (i + 1) g (acc + 1) (by omega) (by omega), (e 1).mpr (by rw [z, beq_self_eq_true]; rfl), ← Nat.add_assoc]
    · rw [if_neg z, f_X12_personLine_J247_214]
      simp only [blet]
      rw [q_add, nI_1, ih (i + 1) g (acc + 0) (by omega) (by omega), (e 0).mpr (by rw [show (u (37 + 4 * i) == b + 1) = false by simp only [beq_eq_false_iff_ne]; exact z]; rfl)]
      simp
theorem J336_f {μ : bSto} (hf : μ.1 92 13 = nI 1) : f_X12_personLine_J336 μ = some μ := by rw [f_X12_personLine_J336, if_neg (f0 hf)]
theorem J314_f {x2 x3 : Int32} {μ : bSto} (hf : μ.1 92 13 = nI 1) : f_X12_personLine_J314 x2 x3 μ = some μ := by rw [f_X12_personLine_J314, if_neg (f0 hf), J336_f hf]
theorem l_seat {c : Nat} {σ0 μ0 : bSto} {tx : Nat → Nat} {n k p : Nat} {u : Nat → Nat} {bel : Nat → Int32} {σ μ : bSto} (S : ST c u bel σ (bI μ 96 4 (nI (p + 1)))) (g : GD c σ0 μ0 tx n k σ μ) (hp4 : u 4 = p + 1) (hs0 : u (37 + 4 * p) = 0) (m4 : μ.1 96 4 = nI p) (hu0 : u 0 ≠ 0) {Mt : bSto → Option bSto} (hMt : Mt = fun σ20 => bbd (f_X12_named (0 : Int32) (5 : Int32) σ20) (fun v25 σ24 => bl3 (f_X12_personLine_L214 bFU (nI p) (nI (35 + 4 * p)) v25 (0 : Int32) (0 : Int32) σ24) (fun x2_26 x3_26 x4_26 σ27 => (if (σ27.1 92 13) = 0 then if x2_26 < 0 ∨ 406 ≤ x2_26.toNatClampNeg then none else if ((11 : Int32) + ((4 : Int32) * x3_26)) < 0 ∨ 406 ≤ ((11 : Int32) + ((4 : Int32) * x3_26)).toNatClampNeg then none else bbd (f_X12_mayBe (σ27.1 96 x2_26.toNatClampNeg) (σ27.1 96 ((11 : Int32) + ((4 : Int32) * x3_26)).toNatClampNeg) σ27) (fun v33 σ32 => (if v33 = 0 then f_X12_personLine_J304 x2_26 x3_26 σ32 else if (((11 : Int32) + ((4 : Int32) * x3_26)) + (2 : Int32)) < 0 ∨ 406 ≤ (((11 : Int32) + ((4 : Int32) * x3_26)) + (2 : Int32)).toNatClampNeg then none else (if x4_26 < (σ32.1 96 (((11 : Int32) + ((4 : Int32) * x3_26)) + (2 : Int32)).toNatClampNeg) then f_X12_personLine_J314 x2_26 x3_26 σ32 else f_X12_personLine_J304 x2_26 x3_26 σ32))) else f_X12_personLine_J314 x2_26 x3_26 σ27)))) : PW c σ0 μ0 tx n (f_X9_readSeat (nI p) σ) (Mt μ) (LN c k) := by
  subst hMt
  (try dsimp only)
  have S0 := S
  obtain ⟨⟨hk, hc, hK⟩, hM, G1', G2', G3', G4', G5', G6', G7', G8'⟩ := S0
  have hk' : c = 7 ∨ c = 69 := hk
  have h47 := G3'.1
  have hMo : ∀ j, j ≠ 4 → μ.1 96 j = (bI μ 96 4 (nI (p + 1))).1 96 j := fun j hj => by rw [bI_ne (by omega)]
  have m9 : M9 u μ := fun j h1 h2 => by rw [hMo j (by omega)]; exact hM.1 j h2 (by omega)
  have hse : ∀ q, q < 7 → u (37 + 4 * q) ≤ 6 := fun q hq => by
    by_cases z : q < u 4
    · have := (G3'.2.2.1 q z).1.2.2
      have := G2'.1
      omega
    · have := (G3'.2.2.2.1 q hq).2 (by omega)
      omega
  have hsm : ∀ q, q < 7 → μ.1 96 (37 + 4 * q) = nI (u (37 + 4 * q)) := fun q hq => by rw [hMo _ (by omega)]; exact hM.1 _ (by omega) (by omega)
  have fail : ∀ μ', AO Bv μ μ' → μ'.1 92 13 = nI 1 → f_X12_named (0 : Int32) (5 : Int32) μ = some ((0 : Int32), μ') → FF (bbd (f_X12_named (0 : Int32) (5 : Int32) μ) (fun v25 σ24 => bl3 (f_X12_personLine_L214 bFU (nI p) (nI (35 + 4 * p)) v25 (0 : Int32) (0 : Int32) σ24) (fun x2_26 x3_26 x4_26 σ27 => (if (σ27.1 92 13) = 0 then if x2_26 < 0 ∨ 406 ≤ x2_26.toNatClampNeg then none else if ((11 : Int32) + ((4 : Int32) * x3_26)) < 0 ∨ 406 ≤ ((11 : Int32) + ((4 : Int32) * x3_26)).toNatClampNeg then none else bbd (f_X12_mayBe (σ27.1 96 x2_26.toNatClampNeg) (σ27.1 96 ((11 : Int32) + ((4 : Int32) * x3_26)).toNatClampNeg) σ27) (fun v33 σ32 => (if v33 = 0 then f_X12_personLine_J304 x2_26 x3_26 σ32 else if (((11 : Int32) + ((4 : Int32) * x3_26)) + (2 : Int32)) < 0 ∨ 406 ≤ (((11 : Int32) + ((4 : Int32) * x3_26)) + (2 : Int32)).toNatClampNeg then none else (if x4_26 < (σ32.1 96 (((11 : Int32) + ((4 : Int32) * x3_26)) + (2 : Int32)).toNatClampNeg) then f_X12_personLine_J314 x2_26 x3_26 σ32 else f_X12_personLine_J304 x2_26 x3_26 σ32))) else f_X12_personLine_J314 x2_26 x3_26 σ27)))) μ' := fun μ' hA hf hn => by
    rw [hn]
    simp only [bbd_s]
    rw [show (0 : Int32) = nI 0 from rfl, m_there (b := 0) (by omega) (by omega) hse (fun q hq => by rw [hA.m]; exact hsm q hq) _ p 0 bFU 0 (by omega) (by show _ < 100000; omega)]
    simp only [bl3]
    rw [if_neg (f0n hf), J314_f hf]
    exact ff_id μ'
  rw [f_X9_readSeat, c_isName g.1 hK]
  simp only [bbd_s]
  cases hN : isN tx n k with
  | false =>
    obtain ⟨σ', μ', b1, b2', b3, b4, b5, b6⟩ := bad_pair g.1 g.2.1 g.2.2.1 (x := 1) 1 rfl
    refine PW_bad (g.bad b3 b4 b5) ?_ (fail μ' b4 b6 ?_)
    · rw [if_pos (by decide), b1]; rfl
    · rw [f_X12_named, if_pos (show μ.1 92 13 = 0 from g.2.2.1), m_mustName g.2.1 g.2.2.1, hN, if_neg (by decide), b2']
      simp only [bbv_s]
      rw [if_neg (f0 b6)]
  | true =>
    have hT : tkT tx n k = 1 := by
      rw [isN, Bool.and_eq_true] at hN
      simpa using hN.1
    obtain ⟨n1, n2, n3, n4, n5, n6⟩ := G4'
    have hF := fnd_B n2 n4 hT G2'.1
    have hle := fnd_le u tx n k
    have hn0 : f_X12_named (0 : Int32) (5 : Int32) μ = bbd (f_X12_in (ixv 13 (fnd u tx n k)) 0 5 μ) (fun v10 σ9 => (if v10 = 0 then bbv (f_X12_wrong (2 : Int32) (σ9.1 92 4) σ9) (fun σ13 => f_X12_named_J45 0 (ixv 13 (fnd u tx n k)) σ13) else f_X12_named_J45 0 (ixv 13 (fnd u tx n k)) σ9)) := by
      rw [f_X12_named, if_pos (show μ.1 92 13 = 0 from g.2.2.1), m_mustName g.2.1 g.2.2.1, hN, if_pos rfl]
      simp only [bbv_s]
      rw [if_pos (show μ.1 92 13 = 0 from g.2.2.1), m_find g.2.1 hT n1 m9]
      simp only [bbd_s]
    rw [if_neg (by decide), hc, if_pos hk, G2'.2.1, g.1.2.2.2.2.2.2 hT, c_index (L := 6) (nm := fun b => nmc u b) (by decide) (by decide) G2'.1 n5 (fun i hi => nmc_lt n1 (by have := G2'.1; omega)) (tkW_lt hT)]
    simp only [bbd_s]
    rw [show fst1 (fun i => nmc u i == tkW tx n k) (u 3) 0 = fnB u tx n k from rfl]
    have h36 := G2'.1
    simp only [ixv_no (show u 3 < 1000 by omega)]
    by_cases hB : fnB u tx n k < u 3
    · obtain ⟨b, hb⟩ : ∃ b, b = fnB u tx n k := ⟨_, rfl⟩
      rw [← hb] at hB ⊢
      have hnd : f_X12_named (0 : Int32) (5 : Int32) μ = some (nI b, μ) := by
        rw [hn0, hF.1 (by rw [← hb]; exact hB), ← hb, ixv, if_pos (by omega), show (0 : Int32) = nI 0 from rfl, show (5 : Int32) = nI 5 from rfl, s_in (by omega) (by omega) (by omega), decide_eq_true (by omega)]
        simp only [bbd_s]
        rw [if_neg (by decide), f_X12_named_J45, if_pos (show μ.1 92 13 = 0 from g.2.2.1), q_sub (by omega), Nat.sub_zero]
      obtain ⟨W, Wh, Wf⟩ := G_WF G1' G2' G3' G5' G6' G8' (by omega)
      have hbb := (G2'.2.2 b hB).1
      have hpp := (G3'.2.2.1 p (by omega)).1
      have hCN : CN (c + 20) (fun q => if q < 7 then u (37 + 4 * q) else 0) σ := fun q hq => by (try dsimp only); rw [if_pos hq]; exact (G3'.2.2.2.1 q hq).1
      have hsb : ∀ q, (fun q => if q < 7 then u (37 + 4 * q) else 0) q ≤ u 3 := fun q => by
        (try dsimp only)
        split
        · rename_i hq
          by_cases z : q < u 4
          · exact (G3'.2.2.1 q z).1.2.2
          · rw [(G3'.2.2.2.1 q hq).2 (by omega)]; omega
        · omega
      have hfr : fre u (fun q => if q < 7 then u (37 + 4 * q) else 0) b = decide (sm (fun j => (u (37 + 4 * (0 + j)) == b + 1).toNat) p < u (13 + 4 * b)) := by
        rw [fre]
        congr 1
        rw [smk, pop_msk _ 7 (by decide), sm_ext (n := p) 7 (by omega) (fun i h1 h2 => by
          (try dsimp only)
          rw [if_pos h2]
          by_cases z : i = p
          · rw [z, hs0, show (0 == b + 1) = false by simp]; rfl
          · rw [(G3'.2.2.2.1 i h2).2 (by omega), show (0 == b + 1) = false by simp]; rfl)]
        rw [sm_congr (g := fun j => (u (37 + 4 * (0 + j)) == b + 1).toNat) p (fun i hi => by (try dsimp only); rw [if_pos (by omega), Nat.zero_add])]
      rw [if_neg (fun z => z hB), hc, if_pos hk, ixv, if_pos hB, s_allows W Wh Wf (by omega) hB, hnd]
      simp only [bbd_s]
      rw [show (0 : Int32) = nI 0 from rfl, m_there (b := b) (by omega) (by omega) hse hsm _ p 0 bFU 0 (by omega) (by show _ < 100000; omega)]
      simp only [bl3]
      rw [if_pos (show μ.1 92 13 = nI 0 from g.2.2.1), Nat.zero_add]
      have g35 : ¬ 406 ≤ 35 + 4 * p := by omega
      have g11 : ¬ 406 ≤ 11 + 4 * b := by omega
      have g13 : ¬ 406 ≤ 11 + 4 * b + 2 := by omega
      simp (disch := omega) only [q_lit, q_lt0, q_ge0, q_le, q_lt, q_eq, q_cl, q_add, q_mul, q_div, q_rem, Nat.not_lt_zero, false_or, if_false, g35, g11, g13]
      rw [hMo (35 + 4 * p) (by omega), hM.1 (35 + 4 * p) (by omega) (by omega), hMo (11 + 4 * b) (by omega), hM.1 (11 + 4 * b) (by omega) (by omega), s_mayBe (by omega) (by omega)]
      simp only [bbd_s]
      rw [show 11 + 4 * b + 2 = 13 + 4 * b by omega, hMo (13 + 4 * b) (by omega), hM.1 (13 + 4 * b) (by omega) (by omega)]
      have bad : PW c σ0 μ0 tx n (f_X9_readSeat_J79 σ) (f_X12_personLine_J304 (nI (35 + 4 * p)) (nI b) μ) (LN c k) := by
        rw [f_X9_readSeat_J79, f_X12_personLine_J304]
        exact PW_no g 7 rfl (fun μ' hf => by rw [J314_f hf]; exact ff_id μ')
      cases hmay : mayK (u (35 + 4 * p)) (u (11 + 4 * b)) with
      | false =>
        rw [if_pos (show b2 false = nI 0 from rfl), if_pos (show b2 false = nI 0 from rfl)]
        exact bad
      | true =>
        rw [if_neg (show ¬ b2 true = nI 0 by decide), if_neg (show ¬ b2 true = nI 0 by decide), hc, if_pos hk, if_pos hk, s_hasFree W Wh hCN hsb hB, hfr]
        simp only [bbd_s]
        have hlt : sm (fun j => (u (37 + 4 * (0 + j)) == b + 1).toNat) p ≤ p := sm_le _ (fun i => by cases (u (37 + 4 * (0 + i)) == b + 1) <;> decide) p
        simp (disch := omega) only [q_lit, q_lt0, q_ge0, q_le, q_lt, q_eq, q_cl, q_add, q_mul, q_div, q_rem]
        by_cases hfree : sm (fun j => (u (37 + 4 * (0 + j)) == b + 1).toNat) p < u (13 + 4 * b)
        · rw [decide_eq_true hfree, if_neg (show ¬ b2 true = nI 0 by decide), if_pos hfree, hc, if_pos hk, f_X12_personLine_J314, if_pos (show μ.1 92 13 = 0 from g.2.2.1)]
          have gp7 : ¬ 7 ≤ p := by omega
          have g37 : ¬ 406 ≤ 35 + 4 * p + 2 := by omega
          simp (disch := omega) only [q_lit, q_lt0, q_ge0, q_le, q_lt, q_eq, q_cl, q_add, q_mul, q_div, q_rem, Nat.not_lt_zero, false_or, if_false, gp7, g37, blet]
          have g1 := (g.setC (o := c + 20 + 1) (j := p) (nI b) (by omega) (by omega)).setM (j := 35 + 4 * p + 2) (nI (b + 1))
          obtain ⟨σ2, μ2, s2, m2, g2, a2, b2'⟩ := g1.both
          rw [s2, m2]
          simp only [bbv_s]
          rw [f_X12_personLine_J336, if_pos (show μ2.1 92 13 = 0 from g2.2.2.1), b2'.m, bI_ne (by omega), m4, nI_1]
          have t1 := tk_b tx g.1.2.1
          have k2 := a2.k
          have kl2 := a2.kL
          have km2 := b2'.m
          refine PW_end (g2.setM _) ⟨by omega, (fun j => if j = 37 + 4 * p then b + 1 else u j), bel, ⟨hk, ?_, ?_⟩, ⟨fun j h h' => ?_, fun p' hp' => ?_⟩, ?_, ?_, ?_, ?_, ?_, ?_, ?_, ?_⟩
          · rw [a2.2.2]; exact hc
          · intro i hi
            rw [kl2 _ _ (by omega)]; exact hK i hi
          · (try dsimp only)
            by_cases z1 : j = 4
            · rw [z1, bI_eq, if_neg (by omega), hp4]
            · rw [bI_ne (by omega), km2]
              by_cases z2 : j = 37 + 4 * p
              · rw [if_pos z2, z2, show 37 + 4 * p = 35 + 4 * p + 2 by omega, bI_eq]
              · rw [if_neg z2, bI_ne (by omega), hMo j z1]; exact hM.1 j h h'
          · rw [bI_ne (by omega), km2, bI_ne (by omega), hMo _ (by omega)]; exact hM.2 p' hp'
          · exact G1'.cg (fun j z => by (try dsimp only); rw [if_neg (by omega)]) (fun a k' z => by rw [k2 _ _ (by omega), bI_ne (by omega)])
          · exact G2'.cg (fun j z => by (try dsimp only); rw [if_neg (by omega)]) (fun a k' z => by rw [k2 _ _ (by omega), bI_ne (by omega)])
          · obtain ⟨e1, e2, e3, e4, e5⟩ := G3'
            have u4 : (if (4 : Nat) = 37 + 4 * p then b + 1 else u 4) = u 4 := by rw [if_neg (by omega)]
            have u3 : (if (3 : Nat) = 37 + 4 * p then b + 1 else u 3) = u 3 := by rw [if_neg (by omega)]
            unfold G3
            (try dsimp only)
            rw [u4, u3, k2 _ _ (by omega), bI_ne (by omega), k2 (c + 20) 3 (by omega), bI_ne (by omega)]
            refine ⟨e1, e2, fun i hi => ?_, fun i hi => ?_, e5⟩
            · obtain ⟨⟨i1, i2, i3⟩, i4, i5, i6⟩ := e3 i hi
              obtain ⟨y1, y2, y3⟩ := twc_cg (u := u) (u' := fun j => if j = 37 + 4 * p then b + 1 else u j) (p := i) (by omega) (fun j hj => by (try dsimp only); rw [if_neg (by omega)]) i5.1
              rw [y1, y3, if_neg (by omega), if_neg (by omega), k2 _ _ (by omega), bI_ne (by omega), k2 _ _ (by omega), bI_ne (by omega), kl2 _ _ (by omega), bI_21]
              refine ⟨⟨i1, i2, ?_⟩, i4, ⟨i5.1, fun j hj => by rw [y2 j (by omega)]; exact i5.2 j hj⟩, i6⟩
              split
              · omega
              · exact i3
            · rw [k2 _ _ (by omega), bI_at]
              by_cases z : i = p
              · rw [if_pos ⟨rfl, z⟩, if_pos (by omega), sv_s]
                exact ⟨rfl, fun w => by omega⟩
              · rw [if_neg (fun w => z w.2), if_neg (by omega)]
                exact e4 i hi
          · exact G4.cg ⟨n1, n2, n3, n4, n5, n6⟩ (fun j z => by (try dsimp only); rw [if_neg (by omega)]) (fun a k' z => by rw [kl2 _ _ (by omega), bI_21])
          · exact G5'.cg (fun j z => by (try dsimp only); rw [if_neg (by omega)]) (fun a k' z => by rw [k2 _ _ (by omega), bI_ne (by omega)])
          · exact G6'.cg (fun j z => by (try dsimp only); rw [if_neg (by omega)]) (by (try dsimp only); rw [if_neg (by omega)]; exact Nat.le_refl _) (fun a k' z => by rw [k2 _ _ (by omega), bI_ne (by omega)])
          · exact G7'.cg (fun j z => by (try dsimp only); rw [if_neg (by omega)]) (fun k' => by rw [k2 _ _ (by omega), bI_ne (by omega)])
          · exact G8'.cg (fun j z => by (try dsimp only); rw [if_neg (by omega)]) (fun a k' z => by rw [k2 _ _ (by omega), bI_ne (by omega)])
        · rw [decide_eq_false hfree, if_pos (show b2 false = nI 0 from rfl), if_neg hfree]
          exact bad
    · obtain ⟨σ', μ', b1, b2', b3, b4, b5, b6⟩ := bad_pair g.1 g.2.1 g.2.2.1 (x := 2) 2 rfl
      refine PW_bad (g.bad b3 b4 b5) ?_ (fail μ' b4 b6 ?_)
      · rw [if_pos hB, b1]; rfl
      · have hin : f_X12_in (ixv 13 (fnd u tx n k)) 0 5 μ = some ((0 : Int32), μ) := by
          have hx := hF.2 hB
          rw [ixv]
          by_cases z : fnd u tx n k < 13
          · rw [if_pos z, show (0 : Int32) = nI 0 from rfl, show (5 : Int32) = nI 5 from rfl, s_in (by omega) (by omega) (by omega), decide_eq_false (by omega)]; rfl
          · rw [if_neg z]; rfl
        rw [hn0, hin]
        simp only [bbd_s]
        rw [if_pos trivial, b2']
        simp only [bbv_s]
        rw [f_X12_named_J45, if_neg (f0 b6)]
