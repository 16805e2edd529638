/-! ===== line: heeds (own work) ===== -/
theorem c_heeds {c : Nat} {u : Nat → Nat} {σ : bSto} (h6 : u 6 ≤ 9) (h9 : σ.1 (c + 7) 9 = nI (u 6)) (h47 : u 4 ≤ 7) (hE : CVe c u σ) {p q : Nat} (hp : p < 7) (hq : q < 7) : f_X2_heeds (c + 7) (nI p) (nI q) σ = some (b2 (decide (u (77 + 7 * p + q) ≠ 0)), σ) := by
  obtain ⟨a, d, e1, e2, -⟩ := hE
  have hl : ∀ k i m, i + k = u 6 → k < m → (∀ j, j < i → ¬ (a j = p ∧ d j = q)) → f_X2_heeds_L2 m (c + 7) (nI p) (nI q) (nI i) σ = some (if u (77 + 7 * p + q) ≠ 0 then .inl (nI 1, σ) else .inr σ) := by
    intro k
    induction k with
    | zero =>
      intro i m hi hm hj
      obtain ⟨m, rfl⟩ : ∃ m', m = m' + 1 := ⟨m - 1, by omega⟩
      rw [f_X2_heeds_L2, h9]
      simp (disch := omega) only [q_lit, q_lt0, q_ge0, q_le, q_lt, q_eq, q_cl, q_add, q_mul, q_div, q_rem]
      rw [if_pos (by omega), if_neg (fun z => by
        obtain ⟨i', hi', e⟩ := (e2 p q hp hq).mpr z
        exact hj i' (by omega) e)]
    | succ k ih =>
      intro i m hi hm hj
      obtain ⟨m, rfl⟩ : ∃ m', m = m' + 1 := ⟨m - 1, by omega⟩
      obtain ⟨a1, a2, a3, a4⟩ := e1 i (by omega)
      have g1 : ¬ 9 ≤ i := by omega
      rw [f_X2_heeds_L2, h9]
      simp (disch := omega) only [q_lit, q_lt0, q_ge0, q_le, q_lt, q_eq, q_cl, q_add, q_mul, q_div, q_rem, Nat.not_lt_zero, false_or, if_false, g1]
      rw [if_neg (by omega), a3, a4]
      simp (disch := omega) only [q_lit, q_lt0, q_ge0, q_le, q_lt, q_eq, q_cl, q_add, q_mul, q_div, q_rem]
      have go : f_X2_heeds_L2 m (c + 7) (nI p) (nI q) (nI (i + 1)) σ = some (if u (77 + 7 * p + q) ≠ 0 then .inl (nI 1, σ) else .inr σ) ∨ (a i = p ∧ d i = q) := by
        by_cases z : a i = p ∧ d i = q
        · exact Or.inr z
        · exact Or.inl (ih (i + 1) m (by omega) (by omega) (fun j hj' => by
            by_cases z' : j = i
            · rw [z']; exact z
            · exact hj j (by omega)))
      by_cases z1 : a i = p
      · rw [if_pos z1]
        by_cases z2 : d i = q
        · rw [if_pos z2, if_pos ((e2 p q hp hq).mp ⟨i, by omega, z1, z2⟩)]
        · rw [if_neg z2]
          simp only [blet]
          exact go.resolve_right (fun w => z2 w.2)
      · rw [if_neg z1]
        simp only [blet]
        exact go.resolve_right (fun w => z1 w.1)
  rw [f_X2_heeds, show (0 : Int32) = nI 0 from rfl, hl (u 6) 0 bFU (by omega) (by show _ < 100000; omega) (fun j hj => by omega)]
  by_cases z : u (77 + 7 * p + q) ≠ 0
  · rw [if_pos z, decide_eq_true z]; rfl
  · rw [if_neg z, decide_eq_false z]; rfl
theorem ism_upd {f g : Nat → Int32} {q : Nat} (h : ∀ i, i ≠ q → g i = f i) (h0 : f q = 0) : ∀ n, q < n → ism g n = ism f n + g q
  | 0, hq => by omega
  | n + 1, hq => by
    rw [ism, ism]
    by_cases e : q = n
    · subst e
      rw [ism_congr (f := g) (g := f) q (fun i hi => h i (by omega)), h0, Int32.add_zero]
    · rw [ism_upd h h0 n (by omega), h n (fun z => e z.symm), Int32.add_assoc, Int32.add_comm (g q) (f n), ← Int32.add_assoc]
theorem l_heeds {c : Nat} {σ0 μ0 : bSto} {tx : Nat → Nat} {n k : Nat} {u : Nat → Nat} {bel : Nat → Int32} {σ μ : bSto} (S : ST c u bel σ μ) (g : GD c σ0 μ0 tx n k σ μ) (h6 : u 6 < 9) : PW c σ0 μ0 tx n (f_X9_readHeeds σ) (f_X12_heedsLine μ) (LN c k) := by
  have hJf : ∀ x y μ', μ'.1 92 13 = nI 1 → FF (f_X12_heedsLine_J56 x y μ') μ' := fun x y μ' hf => by
    rw [f_X12_heedsLine_J56, if_neg (f0 hf)]
    exact ff_id μ'
  rw [f_X9_readHeeds, f_X12_heedsLine, if_pos (show μ.1 92 13 = 0 from g.2.2.1), passed_eq]
  refine PW_pers S g (fun p σ1 μ1 hp h17 S1 g1 => ?_) (fun μ' hf => ?_)
  · obtain ⟨σ2, μ2, s1, m1, g2, a2, b2'⟩ := g1.both
    have S2 := S1.tok a2 b2'
    simp only [blet]
    rw [h17, if_pos (show μ1.1 92 13 = 0 from g1.2.2.1), s1, m1]
    simp only [bbv_s]
    refine PW_pers S2 g2 (fun q σ3 μ3 hq h37 S3 g3 => ?_) (fun μ' hf => ?_)
    · have S3' := S3
      obtain ⟨⟨hk, hc, hK⟩, hM, G1', G2', G3', G4', G5', G6', G7', G8'⟩ := S3'
      have hk' : c = 7 ∨ c = 69 := hk
      have h47 := G3'.1
      have ⟨e1, e2, e3, e4, e5⟩ := G6'
      have hw9 := e3 p q (by omega) (by omega)
      have g4 : ¬ 406 ≤ 77 + 7 * p + q := by omega
      rw [h37, if_pos (show μ3.1 92 13 = 0 from g3.2.2.1)]
      simp only [q_eq (show q < 2 ^ 31 by omega) (show p < 2 ^ 31 by omega), q_eq (show p < 2 ^ 31 by omega) (show q < 2 ^ 31 by omega)]
      have bad : PW c σ0 μ0 tx n (f_X9_readHeeds_J55 σ3) (f_X12_heedsLine_J47 (nI p) (nI q) μ3) (LN c k) := by
        rw [f_X9_readHeeds_J55, f_X12_heedsLine_J47]
        exact PW_no g3 3 rfl (fun μ' hf => hJf _ _ _ hf)
      by_cases e : p = q
      · rw [if_pos e.symm, if_pos e]; exact bad
      · rw [if_neg (fun z => e z.symm), if_neg e, hc, if_pos hk, c_heeds e1 e2 h47 e5 (by omega) (by omega)]
        simp only [bbd_s]
        simp (disch := omega) only [q_lit, q_lt0, q_ge0, q_le, q_lt, q_eq, q_cl, q_add, q_mul, q_div, q_rem, Nat.not_lt_zero, false_or, if_false, g4]
        rw [hM.1 _ (by omega) (by omega)]
        simp (disch := omega) only [q_lit, q_lt0, q_ge0, q_le, q_lt, q_eq, q_cl, q_add, q_mul, q_div, q_rem]
        by_cases z : u (77 + 7 * p + q) = 0
        · rw [decide_eq_false (show ¬ u (77 + 7 * p + q) ≠ 0 from fun w => w z), if_pos (show b2 false = nI 0 from rfl), if_pos (by omega), f_X12_heedsLine_J56, if_pos (show μ3.1 92 13 = 0 from g3.2.2.1)]
          obtain ⟨σ5, μ5, s5, m5, g5, a5, b5⟩ := g3.both
          have S5 := S3.tok a5 b5
          rw [s5, m5]
          simp only [bbv_s]
          refine PW_aft 1 9 g5 (by decide) rfl rfl (by decide) (by decide) (fun wt k' σ6 μ6 w1 w2 h67 hk6 g6 a6 b6 => ?_) (fun μ' hf => ?_)
          · obtain ⟨⟨hk, hc, hK⟩, hM, G1', G2', G3', G4', G5', G6', G7', G8'⟩ := S5.tok a6 b6
            have ⟨e1, e2, e3, e4, a, d, e5, e6, e7⟩ := G6'
            have g9 : ¬ 9 ≤ u 6 := by omega
            have t1 := tk_b tx g1.1.2.1
            have t2 := tk_b tx g2.1.2.1
            rw [hc, if_pos hk, h67, if_pos (show μ6.1 92 13 = 0 from g6.2.2.1), f_X2_addHeed, e2]
            simp (disch := omega) only [q_lit, q_lt0, q_ge0, q_le, q_lt, q_eq, q_cl, q_add, q_mul, q_div, q_rem, Nat.not_lt_zero, false_or, if_false, g4, g9, blet]
            rw [if_pos (by omega)]
            rw [bI_ne (o := c + 7 + 5) (a := c + 7) (j := 9) (by omega), e2]
            simp (disch := omega) only [q_lit, q_lt0, q_ge0, q_le, q_lt, q_eq, q_cl, q_add, q_mul, q_div, q_rem, Nat.not_lt_zero, false_or, if_false, g9]
            rw [bI_ne (o := c + 7 + 6) (a := c + 7) (j := 9) (by omega), bI_ne (o := c + 7 + 5) (a := c + 7) (j := 9) (by omega), e2]
            simp (disch := omega) only [q_lit, q_lt0, q_ge0, q_le, q_lt, q_eq, q_cl, q_add, q_mul, q_div, q_rem, Nat.not_lt_zero, false_or, if_false, g9]
            rw [bI_ne (o := c + 7 + 7) (a := c + 7) (j := 9) (by omega), bI_ne (o := c + 7 + 6) (a := c + 7) (j := 9) (by omega), bI_ne (o := c + 7 + 5) (a := c + 7) (j := 9) (by omega), e2, q_add]
            simp only [bbv_s]
            rw [bI_ne (o := 96) (a := 96) (j := 6) (by omega), hM.1 6 (by omega) (by omega), q_add]
            have G := ((((g6.setC (o := c + 7 + 5) (j := u 6) (nI p) (by omega) (by omega)).setC (o := c + 7 + 6) (j := u 6) (nI q) (by omega) (by omega)).setC (o := c + 7 + 7) (j := u 6) (nI wt) (by omega) (by omega)).setC (o := c + 7) (j := 9) (nI (u 6 + 1)) (by omega) (by omega))
            refine PW_end ((G.setM _).setM _) ⟨by omega, (fun j => if j = 6 then u 6 + 1 else if j = 77 + 7 * p + q then wt else u j), bel, ⟨hk, hc, hK⟩, ⟨fun j h h' => ?_, fun p' hp' => ?_⟩, ?_, ?_, ?_, ?_, ?_, ?_, ?_, ?_⟩
            · rw [bI_at, bI_at]
              (try dsimp only)
              by_cases z1 : j = 6
              · rw [if_pos ⟨rfl, z1⟩, if_pos z1]
              · rw [if_neg (fun w => z1 w.2), if_neg z1]
                by_cases z2 : j = 77 + 7 * p + q
                · rw [if_pos ⟨rfl, z2⟩, if_pos z2]
                · rw [if_neg (fun w => z2 w.2), if_neg z2]; exact hM.1 j h h'
            · rw [bI_ne (by omega), bI_ne (by omega)]; exact hM.2 p' hp'
            · exact G1'.cg (fun j z => by (try dsimp only); rw [if_neg (by omega), if_neg (by omega)]) (fun a k' z => by rw [bI_ne (by omega), bI_ne (by omega), bI_ne (by omega), bI_ne (by omega)])
            · exact G2'.cg (fun j z => by (try dsimp only); rw [if_neg (by omega), if_neg (by omega)]) (fun a k' z => by rw [bI_ne (by omega), bI_ne (by omega), bI_ne (by omega), bI_ne (by omega)])
            · exact G3'.cg (fun j z => by (try dsimp only); rw [if_neg (by omega), if_neg (by omega)]) (by (try dsimp only); rw [if_neg (by omega), if_neg (by omega)]; exact Nat.le_refl _) (fun a k' z => by rw [bI_ne (by omega), bI_ne (by omega), bI_ne (by omega), bI_ne (by omega)]) (fun k' => rfl)
            · exact G4'.cg (fun j z => by (try dsimp only); rw [if_neg (by omega), if_neg (by omega)]) (fun a k' z => rfl)
            · exact G5'.cg (fun j z => by (try dsimp only); rw [if_neg (by omega), if_neg (by omega)]) (fun a k' z => by rw [bI_ne (by omega), bI_ne (by omega), bI_ne (by omega), bI_ne (by omega)])
            · obtain ⟨a', ha'⟩ : ∃ a' : Nat → Nat, a' (u 6) = p ∧ ∀ i, i < u 6 → a' i = a i := ⟨fun i => if i = u 6 then p else a i, if_pos rfl, fun i hi => if_neg (by omega)⟩
              obtain ⟨d', hd'⟩ : ∃ d' : Nat → Nat, d' (u 6) = q ∧ ∀ i, i < u 6 → d' i = d i := ⟨fun i => if i = u 6 then q else d i, if_pos rfl, fun i hi => if_neg (by omega)⟩
              have u6 : (if (6 : Nat) = 6 then u 6 + 1 else if 6 = 77 + 7 * p + q then wt else u 6) = u 6 + 1 := if_pos rfl
              have u4 : (if (4 : Nat) = 6 then u 6 + 1 else if 4 = 77 + 7 * p + q then wt else u 4) = u 4 := by rw [if_neg (by omega), if_neg (by omega)]
              have uw : ∀ x y, x < 7 → y < 7 → (if 77 + 7 * x + y = 6 then u 6 + 1 else if 77 + 7 * x + y = 77 + 7 * p + q then wt else u (77 + 7 * x + y)) = if x = p ∧ y = q then wt else u (77 + 7 * x + y) := fun x y hx hy => by
                rw [if_neg (by omega)]
                by_cases zz : x = p ∧ y = q
                · rw [if_pos zz, if_pos (by omega)]
                · rw [if_neg zz, if_neg (by omega)]
              unfold G6 WFe CVe
              (try dsimp only)
              rw [u6, u4]
              refine ⟨by omega, by rw [bI_eq], fun x y hx hy => ?_, fun x y hx hy hv => ?_, a', d', fun i hi => ?_, fun x y hx hy => ?_, fun bel' x hx => ?_⟩
              · rw [uw x y hx hy]
                split
                · omega
                · exact e3 x y hx hy
              · rw [uw x y hx hy, if_neg (by omega)]; exact e4 x y hx hy hv
              · by_cases z1 : i = u 6
                · subst z1
                  rw [ha'.1, hd'.1]
                  exact ⟨hp, hq, by rw [bI_ne (by omega), bI_ne (by omega), bI_ne (by omega), bI_eq], by rw [bI_ne (by omega), bI_ne (by omega), bI_eq]⟩
                · obtain ⟨q1, q2, q3, q4⟩ := e5 i (by omega)
                  rw [ha'.2 i (by omega), hd'.2 i (by omega)]
                  exact ⟨q1, q2, by rw [bI_ne (by omega), bI_ne (by omega), bI_ne (by omega), bI_ne (by omega)]; exact q3, by rw [bI_ne (by omega), bI_ne (by omega), bI_ne (by omega), bI_ne (by omega)]; exact q4⟩
              · rw [uw x y hx hy]
                by_cases zz : x = p ∧ y = q
                · rw [if_pos zz]
                  exact ⟨fun _ => by omega, fun _ => ⟨u 6, by omega, by rw [ha'.1]; exact zz.1.symm, by rw [hd'.1]; exact zz.2.symm⟩⟩
                · rw [if_neg zz, ← e6 x y hx hy]
                  constructor
                  · rintro ⟨i, hi, i1, i2⟩
                    by_cases z1 : i = u 6
                    · rw [z1, ha'.1] at i1
                      rw [z1, hd'.1] at i2
                      exact absurd ⟨i1.symm, i2.symm⟩ zz
                    · exact ⟨i, by omega, by rw [← ha'.2 i (by omega)]; exact i1, by rw [← hd'.2 i (by omega)]; exact i2⟩
                  · rintro ⟨i, hi, i1, i2⟩
                    exact ⟨i, by omega, by rw [ha'.2 i hi]; exact i1, by rw [hd'.2 i hi]; exact i2⟩
              · have e0 := e7 bel' x hx
                have hz : u (77 + 7 * p + q) = 0 := z
                rw [pul, ism, ha'.1, hd'.1, bI_ne (o := c + 7) (a := c + 7 + 7) (by omega), bI_eq]
                have hfst : ism (fun i => if a' i = x then (bI (bI (bI (bI σ6 (c + 7 + 5) (u 6) (nI p)) (c + 7 + 6) (u 6) (nI q)) (c + 7 + 7) (u 6) (nI wt)) (c + 7) 9 (nI (u 6 + 1))).1 (c + 7 + 7) i * bel' (d' i) else 0) (u 6) = drw u bel' x := by
                  rw [← e0, pul]
                  refine ism_congr _ (fun i hi => ?_)
                  rw [ha'.2 i hi, hd'.2 i hi, bI_ne (by omega), bI_ne (by omega), bI_ne (by omega), bI_ne (by omega)]
                rw [hfst, drw, drw]
                by_cases zx : p = x
                · subst zx
                  rw [if_pos rfl, ism_upd (f := fun q' => bel' q' * nI (u (77 + 7 * p + q'))) (g := fun q' => bel' q' * nI (if 77 + 7 * p + q' = 6 then u 6 + 1 else if 77 + 7 * p + q' = 77 + 7 * p + q then wt else u (77 + 7 * p + q'))) (q := q) (fun i hi => by rw [if_neg (by omega), if_neg (by omega)]) (by rw [hz]; show _ * (0 : Int32) = 0; simp) 7 (by omega), if_neg (by omega), if_pos rfl, Int32.mul_comm]
                · rw [if_neg zx, Int32.add_zero]
                  refine ism_congr _ (fun i hi => ?_)
                  rw [if_neg (by omega), if_neg (by omega)]
            · exact G7'.cg (fun j z => by (try dsimp only); rw [if_neg (by omega), if_neg (by omega)]) (fun k' => by rw [bI_ne (by omega), bI_ne (by omega), bI_ne (by omega), bI_ne (by omega)])
            · exact G8'.cg (fun j z => by (try dsimp only); rw [if_neg (by omega), if_neg (by omega)]) (fun a k' z => by rw [bI_ne (by omega), bI_ne (by omega), bI_ne (by omega), bI_ne (by omega)])
          · rw [if_neg (f0 hf)]
            exact ff_id μ'
        · rw [decide_eq_true (show u (77 + 7 * p + q) ≠ 0 from z), if_neg (show ¬ b2 true = nI 0 by decide), if_neg (by omega)]
          exact bad
    · rw [if_neg (f0 hf)]
      exact hJf _ _ _ hf
  · rw [if_neg (f0 hf), pH_f hf]
    simp only [bbd_s]
    rw [if_neg (f0 hf)]
    exact hJf _ _ _ hf
