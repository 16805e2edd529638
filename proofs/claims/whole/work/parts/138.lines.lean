/-! ===== lines: kin, believes, denies, rumble, quiet (own work) ===== -/
def LN (c : Nat) (k : Nat) : Nat → bSto → bSto → Prop := fun k' σ μ => k ≤ k' ∧ ∃ u bel, ST c u bel σ μ
theorem or_128 {a p : Nat} (ha : a < 128) (hp : p < 7) : a ||| 2 ^ p < 128 := Nat.or_lt_two_pow (n := 7) ha (Nat.pow_lt_pow_right (by decide) hp)
theorem orbit {a p : Nat} (hp : p < 7) : nI a ||| ((1 : Int32) <<< (nI p &&& 31)) = nI (a ||| 2 ^ p) := by rw [shl_nI (by omega), or_nI]
theorem l_kin {c : Nat} {σ0 μ0 : bSto} {tx : Nat → Nat} {n k : Nat} {u : Nat → Nat} {bel : Nat → Int32} {σ μ : bSto} (S : ST c u bel σ μ) (g : GD c σ0 μ0 tx n k σ μ) (h5 : u 5 < 6) : PW c σ0 μ0 tx n (f_X9_readKin σ) (f_X12_kinLine μ) (LN c k) := by
  have hJf : ∀ x y μ', μ'.1 92 13 = nI 1 → FF (f_X12_kinLine_J55 x y μ') μ' := fun x y μ' hf => by
    rw [f_X12_kinLine_J55, if_neg (f0 hf)]
    exact ff_id μ'
  rw [f_X9_readKin, f_X12_kinLine, if_pos (show μ.1 92 13 = 0 from g.2.2.1), passed_eq]
  refine PW_pers S g (fun p σ1 μ1 hp h17 S1 g1 => ?_) (fun μ' hf => ?_)
  · obtain ⟨σ2, μ2, s1, m1, g2, a2, b2'⟩ := g1.both
    have S2 := S1.tok a2 b2'
    simp only [blet]
    rw [h17, if_pos (show μ1.1 92 13 = 0 from g1.2.2.1), s1, m1]
    simp only [bbv_s]
    refine PW_pers S2 g2 (fun q σ3 μ3 hq h37 S3 g3 => ?_) (fun μ' hf => ?_)
    · obtain ⟨⟨hk, hc, hK⟩, hM, G1', G2', G3', G4', G5', G6', G7', G8'⟩ := S3
      have hk' : c = 7 ∨ c = 69 := hk
      have h47 := G3'.1
      have ⟨k1, k2, k3⟩ := G5'
      obtain ⟨kp, kp2⟩ := k3 p (by omega)
      obtain ⟨kq, kq2⟩ := k3 q (by omega)
      rw [h37, if_pos (show μ3.1 92 13 = 0 from g3.2.2.1)]
      simp only [q_eq (show q < 2 ^ 31 by omega) (show p < 2 ^ 31 by omega), q_eq (show p < 2 ^ 31 by omega) (show q < 2 ^ 31 by omega)]
      have bad : PW c σ0 μ0 tx n (f_X9_readKin_J56 σ3) (f_X12_kinLine_J46 (nI p) (nI q) μ3) (LN c k) := by
        rw [f_X9_readKin_J56, f_X12_kinLine_J46]
        exact PW_no g3 3 rfl (fun μ' hf => hJf _ _ _ hf)
      by_cases e : p = q
      · rw [if_pos e.symm, if_pos e]; exact bad
      · have gp7 : ¬ 7 ≤ p := by omega
        have gq7 : ¬ 7 ≤ q := by omega
        have gp4 : ¬ 406 ≤ 70 + p := by omega
        have gq4 : ¬ 406 ≤ 70 + q := by omega
        rw [if_neg (fun z => e z.symm), if_neg e, hc, if_pos hk, f_X2_areKin]
        simp (disch := omega) only [q_lit, q_lt0, q_ge0, q_le, q_lt, q_eq, q_cl, q_add, q_mul, q_div, q_rem, Nat.not_lt_zero, false_or, if_false, gp7, gp4]
        rw [kp2, hM.1 (70 + p) (by omega) (by omega), s_hasBit kp (by omega)]
        have hb := bit_nI kp (show q < 8 by omega)
        simp only [q_lit] at hb
        simp only [hb, bbd_s]
        by_cases e2 : (u (70 + p)).testBit q = true
        · rw [if_pos e2]
          simp only [bbd_s]
          rw [e2, if_neg (show ¬ (nI 1 : Int32) = nI 0 by decide), if_neg (show ¬ b2 true = nI 0 by decide)]
          exact bad
        · have e3 : (u (70 + p)).testBit q = false := by simpa using e2
          rw [if_neg e2]
          simp only [bbd_s]
          rw [e3, if_pos trivial, if_pos (show b2 false = nI 0 from rfl), hc, if_pos hk, f_X12_kinLine_J55, if_pos (show μ3.1 92 13 = 0 from g3.2.2.1), f_X2_addKin, h37]
          simp (disch := omega) only [q_lit, q_lt0, q_ge0, q_le, q_lt, q_eq, q_cl, q_add, q_mul, q_div, q_rem, Nat.not_lt_zero, false_or, if_false, gp7, gp4, gq7, gq4]
          rw [kp2]
          simp only [blet, bbv_s]
          rw [bI_ne (o := c + 7 + 4) (k := p) (a := c + 7 + 4) (j := q) (by omega), kq2]
          rw [bI_ne (o := c + 7 + 4) (k := q) (a := c + 7) (j := 8) (by omega), bI_ne (o := c + 7 + 4) (k := p) (a := c + 7) (j := 8) (by omega), k2]
          have ob := @orbit
          simp only [q_lit] at ob
          rw [ob (show q < 7 by omega), ob (show p < 7 by omega), q_add]
          have g4 := ((g3.setC (o := c + 7 + 4) (j := p) (nI (u (70 + p) ||| 2 ^ q)) (by omega) (by omega)).setC (o := c + 7 + 4) (j := q) (nI (u (70 + q) ||| 2 ^ p)) (by omega) (by omega)).setC (o := c + 7) (j := 8) (nI (u 5 + 1)) (by omega) (by omega)
          obtain ⟨σ5, μ5, s5, m5, g5, a5, b5⟩ := g4.both
          have k5 := a5.k
          have kl5 := a5.kL
          have km5 := b5.m
          rw [s5, m5]
          simp only [bbv_s]
          rw [km5, hM.1 (70 + p) (by omega) (by omega), bI_ne (o := 96) (k := 70 + p) (a := 96) (j := 70 + q) (by omega), km5, hM.1 (70 + q) (by omega) (by omega), bI_ne (o := 96) (k := 70 + q) (a := 96) (j := 5) (by omega), bI_ne (o := 96) (k := 70 + p) (a := 96) (j := 5) (by omega), km5, hM.1 5 (by omega) (by omega), ob (show q < 7 by omega), ob (show p < 7 by omega), q_add]
          refine PW_end (((g5.setM _).setM _).setM _) ⟨?_, (fun j => if j = 5 then u 5 + 1 else if j = 70 + p then u (70 + p) ||| 2 ^ q else if j = 70 + q then u (70 + q) ||| 2 ^ p else u j), bel, ⟨hk, ?_, ?_⟩, ⟨fun j h h' => ?_, fun p' hp' => ?_⟩, ?_, ?_, ?_, ?_, ?_, ?_, ?_, ?_⟩
          · have t1 := tk_b tx g1.1.2.1
            have t2 := tk_b tx g2.1.2.1
            omega
          · rw [a5.2.2]; exact hc
          · exact hK.al (B := fun a k => a = c + 7 + 4 ∨ a = c + 7 ∨ Bw a k) ⟨fun a k z => by rw [a5.1 a k (fun w => z (Or.inr (Or.inr w))), bI_ne (by omega), bI_ne (by omega), bI_ne (by omega)], fun a k z => by rw [a5.2.1 a k (fun w => z (Or.inr (Or.inr w)))]; rfl, a5.2.2⟩ (fun k z => by unfold Bw at z; omega)
          · simp only [bI_at, km5, true_and]
            by_cases z1 : j = 5
            · rw [if_pos z1, if_pos z1]
            · rw [if_neg z1, if_neg z1]
              by_cases z2 : j = 70 + q
              · rw [if_pos z2, if_neg (by omega), if_pos z2]
              · rw [if_neg z2]
                by_cases z3 : j = 70 + p
                · rw [if_pos z3, if_pos z3]
                · rw [if_neg z3, if_neg z3, if_neg z2]; exact hM.1 j h h'
          · rw [bI_ne (by omega), bI_ne (by omega), bI_ne (by omega), km5]; exact hM.2 p' hp'
          · exact G1'.cg (fun j z => by (try dsimp only); rw [if_neg (by omega), if_neg (by omega), if_neg (by omega)]) (fun a k' z => by rw [k5 _ _ (by omega), bI_ne (by omega), bI_ne (by omega), bI_ne (by omega)])
          · exact G2'.cg (fun j z => by (try dsimp only); rw [if_neg (by omega), if_neg (by omega), if_neg (by omega)]) (fun a k' z => by rw [k5 _ _ (by omega), bI_ne (by omega), bI_ne (by omega), bI_ne (by omega)])
          · exact G3'.cg (fun j z => by (try dsimp only); rw [if_neg (by omega), if_neg (by omega), if_neg (by omega)]) (by (try dsimp only); rw [if_neg (by omega), if_neg (by omega), if_neg (by omega)]; exact Nat.le_refl _) (fun a k' z => by rw [k5 _ _ (by omega), bI_ne (by omega), bI_ne (by omega), bI_ne (by omega)]) (fun k' => by rw [kl5 _ _ (by omega)]; rfl)
          · exact G4'.cg (fun j z => by (try dsimp only); rw [if_neg (by omega), if_neg (by omega), if_neg (by omega)]) (fun a k' z => by rw [kl5 _ _ (by omega)]; rfl)
          · refine ⟨by show (if 5 = 5 then u 5 + 1 else _) ≤ 6; rw [if_pos rfl]; omega, ?_, fun i hi => ?_⟩
            · rw [k5 _ _ (by omega), bI_eq]; rfl
            · rw [k5 _ _ (by omega), bI_ne (by omega)]
              simp only [bI_at, true_and]
              (try dsimp only)
              rw [if_neg (show ¬ 70 + i = 5 by omega)]
              by_cases z2 : i = q
              · rw [if_pos z2, if_neg (by omega), if_pos (by omega)]
                exact ⟨or_128 kq (by omega), rfl⟩
              · rw [if_neg z2]
                by_cases z3 : i = p
                · rw [if_pos z3, if_pos (by omega)]
                  exact ⟨or_128 kp (by omega), rfl⟩
                · rw [if_neg z3, if_neg (by omega), if_neg (by omega)]
                  exact k3 i hi
          · exact G6'.cg (fun j z => by (try dsimp only); rw [if_neg (by omega), if_neg (by omega), if_neg (by omega)]) (by (try dsimp only); rw [if_neg (by omega), if_neg (by omega), if_neg (by omega)]; exact Nat.le_refl _) (fun a k' z => by rw [k5 _ _ (by omega), bI_ne (by omega), bI_ne (by omega), bI_ne (by omega)])
          · exact G7'.cg (fun j z => by (try dsimp only); rw [if_neg (by omega), if_neg (by omega), if_neg (by omega)]) (fun k' => by rw [k5 _ _ (by omega), bI_ne (by omega), bI_ne (by omega), bI_ne (by omega)])
          · exact G8'.cg (fun j z => by (try dsimp only); rw [if_neg (by omega), if_neg (by omega), if_neg (by omega)]) (fun a k' z => by rw [k5 _ _ (by omega), bI_ne (by omega), bI_ne (by omega), bI_ne (by omega)])
    · rw [if_neg (f0 hf)]
      exact hJf _ _ _ hf
  · rw [if_neg (f0 hf), pH_f hf]
    simp only [bbd_s]
    rw [if_neg (f0 hf)]
    exact hJf _ _ _ hf
theorem l_belief {c : Nat} {σ0 μ0 : bSto} {tx : Nat → Nat} {n k : Nat} {u : Nat → Nat} {bel : Nat → Int32} {σ μ : bSto} (S : ST c u bel σ μ) (g : GD c σ0 μ0 tx n k σ μ) {x : Int32} (hx : x ≠ 0) : PW c σ0 μ0 tx n (f_X9_readBelief x σ) (f_X12_beliefLine x μ) (LN c k) := by
  have hJf : ∀ y μ', μ'.1 92 13 = nI 1 → FF (f_X12_beliefLine_J41 x y μ') μ' := fun y μ' hf => by
    rw [f_X12_beliefLine_J41, if_neg (f0 hf)]
    exact ff_id μ'
  rw [f_X9_readBelief, f_X12_beliefLine, if_pos (show μ.1 92 13 = 0 from g.2.2.1)]
  refine PW_pers S g (fun p σ3 μ3 hp h37 S3 g3 => ?_) (fun μ' hf => ?_)
  · obtain ⟨⟨hk, hc, hK⟩, hM, G1', G2', G3', G4', G5', G6', G7', G8'⟩ := S3
    have hk' : c = 7 ∨ c = 69 := hk
    have h47 := G3'.1
    obtain ⟨k1, k2, k3⟩ := G7' p (by omega)
    have gp7 : ¬ 7 ≤ p := by omega
    have gp4 : ¬ 406 ≤ 63 + p := by omega
    have gq4 : ¬ 406 ≤ 35 + 4 * p + 3 := by omega
    rw [h37, hc, if_pos hk, if_pos (show μ3.1 92 13 = 0 from g3.2.2.1)]
    simp (disch := omega) only [q_lit, q_lt0, q_ge0, q_le, q_lt, q_eq, q_cl, q_add, q_mul, q_div, q_rem, Nat.not_lt_zero, false_or, if_false, gp7, gp4]
    rw [hM.1 (63 + p) (by omega) (by omega), k1]
    simp (disch := omega) only [q_lit, q_lt0, q_ge0, q_le, q_lt, q_eq, q_cl, q_add, q_mul, q_div, q_rem]
    by_cases e : u (63 + p) = 0
    · rw [if_pos (show bel p = nI 0 from k3.mp e), if_pos hk, if_pos (by omega), f_X12_beliefLine_J41, if_pos (show μ3.1 92 13 = 0 from g3.2.2.1)]
      simp only [blet]
      have g4 := g3.setC (o := c + 20 + 2) (j := p) x (by omega) (by omega)
      obtain ⟨σ5, μ5, s5, m5, g5, a5, b5⟩ := g4.both
      have k5 := a5.k
      have kl5 := a5.kL
      have km5 := b5.m
      rw [s5, m5]
      simp only [bbv_s]
      simp (disch := omega) only [q_lit, q_lt0, q_ge0, q_le, q_lt, q_eq, q_cl, q_add, q_mul, q_div, q_rem, Nat.not_lt_zero, false_or, if_false, gp4, gq4]
      refine PW_end ((g5.setM _).setM _) ⟨?_, (fun j => if j = 63 + p then 1 else u j), (fun i => if i = p then x else bel i), ⟨hk, ?_, ?_⟩, ⟨fun j h h' => ?_, fun p' hp' => ?_⟩, ?_, ?_, ?_, ?_, ?_, ?_, ?_, ?_⟩
      · have t1 := tk_b tx g.1.2.1
        omega
      · rw [a5.2.2]; exact hc
      · exact hK.al (B := fun a k => a = c + 20 + 2 ∨ Bw a k) ⟨fun a k z => by rw [a5.1 a k (fun w => z (Or.inr w)), bI_ne (by omega)], fun a k z => by rw [a5.2.1 a k (fun w => z (Or.inr w))]; rfl, a5.2.2⟩ (fun k z => by unfold Bw at z; omega)
      · rw [bI_ne (by omega), bI_at, km5]
        (try dsimp only)
        by_cases z1 : j = 63 + p
        · rw [if_pos ⟨rfl, z1⟩, if_pos z1]
        · rw [if_neg (fun w => z1 w.2), if_neg z1]; exact hM.1 j h h'
      · rw [bI_at]
        (try dsimp only)
        by_cases z1 : p' = p
        · rw [if_pos (by omega), if_pos z1]
        · rw [if_neg (by omega), bI_ne (by omega), km5, if_neg z1]; exact hM.2 p' hp'
      · exact G1'.cg (fun j z => by (try dsimp only); rw [if_neg (by omega)]) (fun a k' z => by rw [k5 _ _ (by omega), bI_ne (by omega)])
      · exact G2'.cg (fun j z => by (try dsimp only); rw [if_neg (by omega)]) (fun a k' z => by rw [k5 _ _ (by omega), bI_ne (by omega)])
      · exact G3'.cg (fun j z => by (try dsimp only); rw [if_neg (by omega)]) (by (try dsimp only); rw [if_neg (by omega)]; exact Nat.le_refl _) (fun a k' z => by rw [k5 _ _ (by omega), bI_ne (by omega)]) (fun k' => by rw [kl5 _ _ (by omega)]; rfl)
      · exact G4'.cg (fun j z => by (try dsimp only); rw [if_neg (by omega)]) (fun a k' z => by rw [kl5 _ _ (by omega)]; rfl)
      · exact G5'.cg (fun j z => by (try dsimp only); rw [if_neg (by omega)]) (fun a k' z => by rw [k5 _ _ (by omega), bI_ne (by omega)])
      · exact G6'.cg (fun j z => by (try dsimp only); rw [if_neg (by omega)]) (by (try dsimp only); rw [if_neg (by omega)]; exact Nat.le_refl _) (fun a k' z => by rw [k5 _ _ (by omega), bI_ne (by omega)])
      · intro i hi
        rw [k5 _ _ (by omega), bI_at]
        (try dsimp only)
        by_cases z1 : i = p
        · rw [if_pos ⟨rfl, z1⟩, if_pos z1, if_pos (by omega)]
          exact ⟨rfl, Nat.le_refl _, ⟨fun w => by omega, fun w => absurd w hx⟩⟩
        · rw [if_neg (fun w => z1 w.2), if_neg z1, if_neg (by omega)]
          exact G7' i hi
      · exact G8'.cg (fun j z => by (try dsimp only); rw [if_neg (by omega)]) (fun a k' z => by rw [k5 _ _ (by omega), bI_ne (by omega)])
    · rw [if_neg (show ¬ bel p = nI 0 from fun z => e (k3.mpr z)), if_neg (by omega)]
      exact PW_no g3 3 rfl (fun μ' hf => hJf _ _ hf)
  · rw [if_neg (f0 hf)]
    exact hJf _ _ hf
theorem c_told {c : Nat} {u : Nat → Nat} {σ : bSto} (h8 : u 7 + u 8 ≤ 8) (hr : CVr c u σ) {x : Nat} (hx : x ≤ 999) : f_X10_isHourTold (c + 15) (nI x) σ = some (b2 (decide (x < 100 ∧ u (126 + x) ≠ 0)), σ) := by
  obtain ⟨r1, -, H, r2, r3⟩ := hr
  have hl : ∀ k i m, i + k = u 7 + u 8 → k < m → (∀ j, j < i → H j ≠ x) → f_X10_isHourTold_L2 m (c + 15) (nI x) (nI i) σ = some (if x < 100 ∧ u (126 + x) ≠ 0 then .inl ((1 : Int32), σ) else .inr σ) := by
    intro k
    induction k with
    | zero =>
      intro i m hi hm hj
      obtain ⟨m, rfl⟩ : ∃ m', m = m' + 1 := ⟨m - 1, by omega⟩
      rw [f_X10_isHourTold_L2, r1]
      simp (disch := omega) only [q_lit, q_lt0, q_ge0, q_le, q_lt, q_eq, q_cl, q_add, q_mul, q_div, q_rem]
      rw [if_pos (by omega), if_neg (fun z => by
        obtain ⟨i', hi', e⟩ := r3 x z.1 z.2
        exact hj i' (by omega) e)]
    | succ k ih =>
      intro i m hi hm hj
      obtain ⟨m, rfl⟩ : ∃ m', m = m' + 1 := ⟨m - 1, by omega⟩
      obtain ⟨a1, a2, a3, a4⟩ := r2 i (by omega)
      rw [f_X10_isHourTold_L2, r1]
      simp (disch := omega) only [q_lit, q_lt0, q_ge0, q_le, q_lt, q_eq, q_cl, q_add, q_mul, q_div, q_rem, if_false, false_or]
      rw [if_neg (by omega), if_neg (by omega), a3]
      simp (disch := omega) only [q_lit, q_lt0, q_ge0, q_le, q_lt, q_eq, q_cl, q_add, q_mul, q_div, q_rem]
      by_cases e : H i = x
      · rw [if_pos e, if_pos (by rw [← e]; exact ⟨a1, a2⟩)]
      · rw [if_neg e]
        simp only [blet]
        exact ih (i + 1) m (by omega) (by omega) (fun j hj' => by
          by_cases z : j = i
          · rw [z]; exact e
          · exact hj j (by omega))
  rw [f_X10_isHourTold, show (0 : Int32) = nI 0 from rfl, hl (u 7 + u 8) 0 bFU (by omega) (by show _ < 100000; omega) (fun j hj => by omega)]
  by_cases z : x < 100 ∧ u (126 + x) ≠ 0
  · rw [if_pos z, decide_eq_true z]; rfl
  · rw [if_neg z, decide_eq_false z]; rfl
