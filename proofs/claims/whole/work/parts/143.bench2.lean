/-! ===== line: bench, the walk (own work) ===== -/
theorem allB_cg {c e : Nat → Bool} : ∀ n i, (∀ q, i ≤ q → q < i + n → c q = e q) → allB c n i = allB e n i
  | 0, _, _ => rfl
  | n + 1, i, h => by rw [allB, allB, h i (by omega) (by omega), allB_cg n (i + 1) (fun q a b => h q (by omega) (by omega))]
def unm (u : Nat → Nat) (m N : Nat) (L : Nat → Nat) : Nat → Nat := fun j => if j = 289 + m then N else if 302 + 8 * m ≤ j ∧ j < 302 + 8 * m + N then L (j - (302 + 8 * m)) else u j
theorem nm_new {u u' : Nat → Nat} {m N : Nat} {L : Nat → Nat} (hm : m < 13) (h : ∀ j, 289 ≤ j → u' j = unm u m N L j) (n1 : N1 u) (n4 : N4 u) (hN : 1 ≤ N ∧ N ≤ 8) (hL : ltr L N) (hx : ∀ m', m' < 13 → nmc u m' ≠ wc L N) : N1 u' ∧ N4 u' ∧ nmc u' m = wc L N ∧ u' (289 + m) = N ∧ ∀ m', m' < 13 → m' ≠ m → nmc u' m' = nmc u m' ∧ u' (289 + m') = u (289 + m') := by
  have e1 : u' (289 + m) = N := by rw [h _ (by omega), unm, if_pos rfl]
  have e2 : ∀ j, j < N → nml u' m j = L j := fun j hj => by
    show u' (302 + 8 * m + j) = _
    rw [h _ (by omega), unm, if_neg (by omega), if_pos (by omega), show 302 + 8 * m + j - (302 + 8 * m) = j by omega]
  have e3 : nmc u' m = wc L N := by
    rw [nmc, e1]
    exact wc_congr _ e2
  have e4 : ∀ m', m' < 13 → m' ≠ m → u' (289 + m') = u (289 + m') := fun m' hm' hne => by rw [h _ (by omega), unm, if_neg (by omega), if_neg (by omega)]
  have e5 : ∀ m', m' < 13 → m' ≠ m → ∀ j, j < u (289 + m') → nml u' m' j = nml u m' j := fun m' hm' hne j hj => by
    have := (n1 m' hm').1
    show u' (302 + 8 * m' + j) = u (302 + 8 * m' + j)
    rw [h _ (by omega), unm, if_neg (by omega), if_neg (by omega)]
  have e6 : ∀ m', m' < 13 → m' ≠ m → nmc u' m' = nmc u m' := fun m' hm' hne => by
    rw [nmc, nmc, e4 m' hm' hne]
    exact wc_congr _ (e5 m' hm' hne)
  refine ⟨fun m' hm' => ?_, fun m1 m2 h1 h2 hz he => ?_, e3, e1, fun m' hm' hne => ⟨e6 m' hm' hne, e4 m' hm' hne⟩⟩
  · by_cases z : m' = m
    · subst z
      rw [e1]
      exact ⟨hN.2, fun j hj => by rw [e2 j hj]; exact hL j hj⟩
    · rw [e4 m' hm' z]
      exact ⟨(n1 m' hm').1, fun j hj => by rw [e5 m' hm' z j hj]; exact (n1 m' hm').2 j hj⟩
  · by_cases z1 : m1 = m
    · by_cases z2 : m2 = m
      · rw [z1, z2]
      · rw [z1, e3, e6 m2 h2 z2] at he
        exact absurd he.symm (hx m2 h2)
    · by_cases z2 : m2 = m
      · rw [z2, e3, e6 m1 h1 z1] at he
        exact absurd he (hx m1 h1)
      · rw [e6 m1 h1 z1, e6 m2 h2 z2] at he
        rw [e4 m1 h1 z1] at hz
        exact n4 m1 m2 h1 h2 hz he
theorem fcd {a N : Nat} (h : a < N) (hN : N < 2 ^ 31) : (nI a < 0 ∨ N ≤ a) = False := eq_false (fun z => z.elim (nI_pos (by omega)) (by omega))
theorem l_bench {c : Nat} {σ0 μ0 : bSto} {tx : Nat → Nat} {n k : Nat} {u : Nat → Nat} {bel : Nat → Int32} {σ μ : bSto} (S : ST c u bel σ μ) (g : GD c σ0 μ0 tx n k σ μ) (h36 : u 3 < 6) (hu0 : u 0 ≠ 0) : PW c σ0 μ0 tx n (f_X9_readBench σ) (f_X12_benchLine μ) (LN c k) := by
  have S0 := S
  obtain ⟨⟨hk, hc, hK⟩, hM, G1', G2', G3', G4', G5', G6', G7', G8'⟩ := S0
  have hk' : c = 7 ∨ c = 69 := hk
  obtain ⟨b, hb⟩ : ∃ b, b = u 3 := ⟨_, rfl⟩
  have h5 : σ.1 (c + 1) 5 = nI b := by rw [hb]; exact G2'.2.1
  have m3 : μ.1 96 3 = nI b := by rw [hb]; exact hM.1 3 (by omega) (by omega)
  have hb6 : b ≤ 6 := by omega
  have ef : (11 : Int32) + (4 : Int32) * nI b = nI (11 + 4 * b) := by rw [show (11 : Int32) = nI 11 from rfl, show (4 : Int32) = nI 4 from rfl, q_mul, q_add]
  have ef1 : nI (11 + 4 * b) + (1 : Int32) = nI (12 + 4 * b) := by rw [show (1 : Int32) = nI 1 from rfl, q_add, show 11 + 4 * b + 1 = 12 + 4 * b by omega]
  have ef2 : nI (11 + 4 * b) + (2 : Int32) = nI (13 + 4 * b) := by rw [show (2 : Int32) = nI 2 from rfl, q_add, show 11 + 4 * b + 2 = 13 + 4 * b by omega]
  have ef3 : nI (11 + 4 * b) + (3 : Int32) = nI (14 + 4 * b) := by rw [show (3 : Int32) = nI 3 from rfl, q_add, show 11 + 4 * b + 3 = 14 + 4 * b by omega]
  rw [f_X9_readBench, f_X12_benchLine, hc, if_pos hk, if_pos (show μ.1 92 13 = 0 from g.2.2.1), h5, m3, ef]
  simp only [blet, fcd (show b < 6 by omega) (by omega), fcd (show 11 + 4 * b < 406 by omega) (by omega), if_false, nI_clamp (show b < 2 ^ 31 by omega), nI_clamp (show 11 + 4 * b < 2 ^ 31 by omega)]
  rw [if_pos (show nI b < (6 : Int32) from nI_lt (b := 6) (by omega) (by omega))]
  refine PW_new S g (m := b) (by omega) rfl (fun σ1 μ1 hT hnm g1 a1 j1 => ?_) (fun μ' hf hA => ?_)
  · rw [if_pos (show μ1.1 92 13 = 0 from g1.2.2.1), g.1.2.2.2.2.2.2 hT]
    have lm1 : ∀ j, j < 289 → μ1.1 96 j = μ.1 96 j := fun j hj => nwm_lo j1 hj
    refine PW_sort g1 (fun q σ2 μ2 q1 f2 g2 a2 b2' => ?_) (fun v μ' hf hA => ?_)
    · rw [f2, f_X12_benchLine_J55]
      have g2' := (g2.setC (o := c + 1 + 1) (j := b) (nI q) (by omega) (by omega)).setM (j := 11 + 4 * b) (nI q)
      have m23 : ∀ μ', AO Bv (bI μ2 96 (11 + 4 * b) (nI q)) μ' → μ'.1 96 3 = nI b := fun μ' hA => by rw [hA.m, bI_ne (by omega), b2'.m, lm1 3 (by omega), m3]
      refine PW_wordF (w := 1) g2' (by decide) (fun σ3 μ3 g3 a3 b3 => ?_) (fun μ' hf hA => ?_)
      · obtain ⟨⟨-, -, -⟩, w6, w7, w8, w9, w10, w20⟩ := G1'.2.2.2 hu0
        have hu9 := G1'.2.1
        have q6 : σ3.1 (c + 1) 6 = nI (u 0) := by rw [a3.k _ _ (by omega), bI_ne (by omega), a2.k _ _ (by omega), a1.k _ _ (by omega), w6]
        have q0 : μ3.1 96 0 = nI (u 0) := by rw [b3.m, bI_ne (by omega), b2'.m, lm1 0 (by omega), hM.1 0 (by omega) (by omega)]
        rw [q6, q0]
        refine PW_numF 0 (u 0 - 1) g3 rfl (pred_nI (by omega)) (by decide) (by omega) (fun x σ4 μ4 x1 x2 f4 g4 a4 b4 => ?_) (fun μ' hf hA => ?_)
        · obtain ⟨⟨y1, y2⟩, -, -, -⟩ := (G1'.2.2.2 hu0).1
          rw [f4, bI_eq]
          have gd := g4.setC (o := c + 1 + 2) (j := b) (nI x) (by omega) (by omega)
          have q1' : μ4.1 96 1 = nI (u 1) := by rw [b4.m, b3.m, bI_ne (by omega), b2'.m, lm1 1 (by omega), hM.1 1 (by omega) (by omega)]
          have q9 : μ4.1 96 9 = nI (u 9) := by rw [b4.m, b3.m, bI_ne (by omega), b2'.m, lm1 9 (by omega), hM.1 9 (by omega) (by omega)]
          have q3 : μ4.1 96 3 = nI b := by rw [b4.m]; exact m23 _ b3
          have kd : ∀ a j, 3 ≤ a → ¬ (a = c + 1 + 2 ∧ j = b) → ¬ (a = c + 1 + 1 ∧ j = b) → (bI σ4 (c + 1 + 2) b (nI x)).1 a j = σ.1 a j := fun a j z z1 z2 => by rw [bI_ne (by omega), a4.k _ _ z, a3.k _ _ z, bI_ne (by omega), a2.k _ _ z, a1.k _ _ z]
          have rd : (bI σ4 (c + 1 + 2) b (nI x)).2.2 1 4 = c := g.ref gd hc
          have hT5 := @CT.t5 tx n (tkE tx n (tkE tx n (tkE tx n k)))
          generalize hk4 : tkE tx n (tkE tx n (tkE tx n (tkE tx n k))) = k4 at gd
          have t1 := tk_b tx g.1.2.1
          have t2 := tk_b tx g1.1.2.1
          have t3 := tk_b tx g2.1.2.1
          have t4 := tk_b tx g3.1.2.1
          have hu1 : nI (u 1) - (1 : Int32) = nI (u 1 - 1) := pred_nI y1
          rw [f_X9_readDown, rd, if_pos hk, kd (c + 1) 7 (by omega) (by omega) (by omega), w7, gd.1.2.2.2.1, q1', hu1]
          have T5 := @CT.t5 tx n k4
          by_cases ok : okN tx n k4 0 (u 1 - 1)
          · obtain ⟨oT, -, oX⟩ := id ok
            have e2 : (nI (tkT tx n k4) = (2 : Int32)) := by rw [oT]; rfl
            rw [if_pos e2, gd.1.2.2.2.2.2.1 oT, if_neg (nI_ge (by omega) (by omega)), c_taken (u := u) (b := b) (x := x) (y := tkX tx n k4) (G1'.cg (fun _ _ => rfl) (fun a k' z => kd _ _ (by omega) (by omega) (by omega))) hu0 hb6 (by omega) (by omega) (by rw [kd _ _ (by omega) (by omega) (by omega), h5]) (fun i hi => by
              obtain ⟨⟨-, c1, -⟩, -, c2, c3, -⟩ := G2'.2.2 i (by omega)
              exact ⟨c1, by rw [kd _ _ (by omega) (by omega) (by omega)]; exact c2, by rw [kd _ _ (by omega) (by omega) (by omega)]; exact c3⟩), show (0 : Int32) = nI 0 from rfl, m_numH gd.2.1 gd.2.2.1 (by decide) (by omega) ok]
            simp only [bbd_s]
            rw [show (10 : Int32) = nI 10 from rfl, q_mul, q_add, q9]
            have eJ : (if nI (10 * tkX tx n k4 + x) = nI (u 9) then f_X12_benchLine_J111 (nI (11 + 4 * b)) (nI (10 * tkX tx n k4 + x)) 1 μ4 else f_X12_benchLine_J111 (nI (11 + 4 * b)) (nI (10 * tkX tx n k4 + x)) (nI 0) μ4) = if tkd u b x (tkX tx n k4) = true then bbv (f_X12_wrong (7 : Int32) (μ4.1 92 4) μ4) (fun s => f_X12_benchLine_J185 (nI (11 + 4 * b)) (nI (10 * tkX tx n k4 + x)) s) else f_X12_benchLine_J185 (nI (11 + 4 * b)) (nI (10 * tkX tx n k4 + x)) μ4 := by
              have e9 : u 9 < 100 := by have := (G1'.2.2.2 hu0).1.2.2.1; omega
              have eb : (if nI (10 * tkX tx n k4 + x) = nI (u 9) then f_X12_benchLine_J111 (nI (11 + 4 * b)) (nI (10 * tkX tx n k4 + x)) 1 μ4 else f_X12_benchLine_J111 (nI (11 + 4 * b)) (nI (10 * tkX tx n k4 + x)) (nI 0) μ4) = f_X12_benchLine_J111 (nI (11 + 4 * b)) (nI (10 * tkX tx n k4 + x)) (b2 (decide (10 * tkX tx n k4 + x = u 9))) μ4 := by
                simp (disch := omega) only [q_lit, q_lt0, q_ge0, q_le, q_lt, q_eq, q_cl, q_add, q_mul, q_div, q_rem]
                by_cases z : 10 * tkX tx n k4 + x = u 9
                · rw [if_pos z, decide_eq_true z]; rfl
                · rw [if_neg z, decide_eq_false z]; rfl
              rw [eb, f_X12_benchLine_J111, show (0 : Int32) = nI 0 from rfl, m_takenL hb6 q3 _ _ b 0 bFU _ (by omega) (by show _ < 100000; omega)]
              simp only [bl3]
              have ea : (decide (10 * tkX tx n k4 + x = u 9) || !allB (fun j => !decide (μ4.1 96 (12 + 4 * j) = nI (10 * tkX tx n k4 + x))) b 0) = tkd u b x (tkX tx n k4) := by
                rw [tkd]
                congr 2
                refine allB_cg _ _ (fun j _ hj => ?_)
                have hcj := (G2'.2.2 j (by omega)).1.2.1
                rw [b4.m, b3.m, bI_ne (by omega), b2'.m, lm1 _ (by omega), hM.1 _ (by omega) (by omega)]
                simp only [q_eq (show u (12 + 4 * j) < 2 ^ 31 by omega) (show 10 * tkX tx n k4 + x < 2 ^ 31 by omega)]
              rw [ea, if_pos (show μ4.1 92 13 = nI 0 from gd.2.2.1)]
              cases tkd u b x (tkX tx n k4) <;> rfl
            simp only [blet]
            rw [eJ]
            cases htk : tkd u b x (tkX tx n k4) with
            | true =>
              rw [if_neg (show ¬ b2 true = nI 0 by decide), if_pos rfl]
              obtain ⟨σ', μ', d1, d2, d3, d4, d5, d6⟩ := bad_pair gd.1 gd.2.1 gd.2.2.1 (x := 7) 7 rfl
              rw [d1, d2]
              simp only [bbd_s, bbv_s]
              rw [J185_f d6]
              exact PW_bad (gd.bad d3 d4 d5) (by rw [if_pos (show ((0 : Int32) = nI 0 ∨ (0 : Int32) = 1) from Or.inl rfl)]; rfl) (ff_id μ')
            | false =>
              obtain ⟨σ5, s5, a5, c5, f5⟩ := c_whole gd.1 (by decide) (by omega) ok
              obtain ⟨μ5, m5, n5, b5⟩ := gd.2.1.next
              have g5 := gd.step a5 (b5.mono Bq_Bv) c5 n5 (by rw [b5.1 92 13 (by unfold Bq; omega)]; exact gd.2.2.1)
              have k5 := a5.k
              have km5 := (b5.mono Bq_Bv).m
              rw [if_pos (show b2 false = nI 0 from rfl), if_neg (by decide), f_X9_readDown_J55, kd (c + 1) 7 (by omega) (by omega) (by omega), w7, hu1, show (0 : Int32) = nI 0 from rfl, s5, f_X12_benchLine_J185, if_pos (show μ4.1 92 13 = 0 from gd.2.2.1), m5, ef1, ef2, ef3]
              simp only [bbd_s, bbv_s, blet, fcd (show 12 + 4 * b < 406 by omega) (by omega), fcd (show 13 + 4 * b < 406 by omega) (by omega), fcd (show 14 + 4 * b < 406 by omega) (by omega), if_false, nI_clamp (show 12 + 4 * b < 2 ^ 31 by omega), nI_clamp (show 13 + 4 * b < 2 ^ 31 by omega), nI_clamp (show 14 + 4 * b < 2 ^ 31 by omega)]
              rw [if_pos (show ((1 : Int32) = nI 0 ∨ True) from Or.inr trivial)]
              simp only [bbd_s]
              rw [if_neg (show ¬ (1 : Int32) = nI 0 by decide), f5]
              have g5' := (g5.setC (o := c + 1 + 3) (j := b) (nI (tkX tx n k4)) (by omega) (by omega)).setM (j := 12 + 4 * b) (nI (10 * tkX tx n k4 + x))
              refine PW_aft 1 3 g5' (by decide) rfl rfl (by decide) (by decide) (fun sn k6 σ6 μ6 i1 i2 f6 l6 g6 a6 b6 => ?_) (fun μ' hf => ?_)
              · rw [f6]
                have g6' := (g6.setC (o := c + 1 + 4) (j := b) (nI sn) (by omega) (by omega)).setM (j := 13 + 4 * b) (nI sn)
                refine PW_aft 0 30 g6' (by decide) rfl rfl (by decide) (by decide) (fun rn k7 σ7 μ7 j1' j2' f7 l7 g7 a7 b7 => ?_) (fun μ' hf => ?_)
                · have kk : ∀ a j, 3 ≤ a → ¬ (c + 2 ≤ a ∧ a ≤ c + 6 ∧ j = b) → σ7.1 a j = σ.1 a j := fun a j z z1 => by rw [a7.k _ _ z, bI_ne (by omega), a6.k _ _ z, bI_ne (by omega), k5 _ _ z, kd _ _ z (by omega) (by omega)]
                  have kl : ∀ a j, 3 ≤ a → σ7.2.1 a j = σ.2.1 a j := fun a j z => by
                    rw [a7.kL _ _ z, bI_21, a6.kL _ _ z, bI_21, a5.kL _ _ z, bI_21, a4.kL _ _ z, a3.kL _ _ z, bI_21, a2.kL _ _ z, a1.kL _ _ z]
                  have mm : ∀ j, j ≠ 13 + 4 * b → j ≠ 12 + 4 * b → j ≠ 11 + 4 * b → μ7.1 96 j = μ1.1 96 j := fun j z1 z2 z3 => by rw [b7.m, bI_ne (by omega), b6.m, bI_ne (by omega), km5, b4.m, b3.m, bI_ne (by omega), b2'.m]
                  have c5' : (bJ (bI σ7 (c + 1 + 5) b (nI rn)) 5 b (nL (tkW tx n k))).1 (c + 1) 5 = nI b := by rw [bJ_1, bI_ne (by omega), kk _ _ (by omega) (by omega), h5]
                  have m5' : (bI μ7 96 (14 + 4 * b) (nI rn)).1 96 3 = nI b := by rw [bI_ne (by omega), mm 3 (by omega) (by omega) (by omega), lm1 3 (by omega), m3]
                  rw [f7, c5', m5', set_e, if_pos (show μ7.1 92 13 = 0 from g7.2.2.1), nI_1]
                  have gF := ((((g7.setC (o := c + 1 + 5) (j := b) (nI rn) (by omega) (by omega)).setJ (o := 5) (j := b) (nL (tkW tx n k)) (by omega) (by omega)).setC (o := c + 1) (j := 5) (nI (b + 1)) (by omega) (by omega)).setM (j := 14 + 4 * b) (nI rn)).setM (j := 3) (nI (b + 1))
                  obtain ⟨u', hu'⟩ : ∃ u' : Nat → Nat, u' = fun j => if j = 3 then b + 1 else if j = 11 + 4 * b then q else if j = 12 + 4 * b then 10 * tkX tx n k4 + x else if j = 13 + 4 * b then sn else if j = 14 + 4 * b then rn else unm u b (tkN tx n k) (tkL tx n k) j := ⟨_, rfl⟩
                  have U3 : u' 3 = b + 1 := by rw [hu']; rfl
                  have U11 : u' (11 + 4 * b) = q := by simp only [hu']; rw [if_neg (by omega), if_pos trivial]
                  have U12 : u' (12 + 4 * b) = 10 * tkX tx n k4 + x := by simp only [hu']; rw [if_neg (by omega), if_neg (by omega), if_pos trivial]
                  have U13 : u' (13 + 4 * b) = sn := by simp only [hu']; rw [if_neg (by omega), if_neg (by omega), if_neg (by omega), if_pos trivial]
                  have U14 : u' (14 + 4 * b) = rn := by simp only [hu']; rw [if_neg (by omega), if_neg (by omega), if_neg (by omega), if_neg (by omega), if_pos trivial]
                  have UN : ∀ j, 289 ≤ j → u' j = unm u b (tkN tx n k) (tkL tx n k) j := fun j hj => by simp only [hu']; rw [if_neg (by omega), if_neg (by omega), if_neg (by omega), if_neg (by omega), if_neg (by omega)]
                  have UO : ∀ j, j < 289 → j ≠ 3 → ¬ (11 + 4 * b ≤ j ∧ j ≤ 14 + 4 * b) → u' j = u j := fun j h1 h2 h3 => by simp only [hu', unm]; rw [if_neg (by omega), if_neg (by omega), if_neg (by omega), if_neg (by omega), if_neg (by omega), if_neg (by omega), if_neg (by omega)]
                  have htk1 := tk_1 tx hT
                  have t5 := tk_b tx gd.1.2.1
                  obtain ⟨n1, n2, n3, n4, n5', n6⟩ := G4'
                  obtain ⟨v1, v4, v5, v6, v7⟩ := nm_new (u := u) (u' := u') (m := b) (N := tkN tx n k) (L := tkL tx n k) (by omega) UN n1 n4 htk1.1 htk1.2 hnm
                  refine PW_end gF ⟨by omega, u', bel, ⟨hk, g.ref gF hc, fun i hi => ?_⟩, ⟨fun j h h' => ?_, fun p' hp' => ?_⟩, ?_, ?_, ?_, ?_, ?_, ?_, ?_, ?_⟩
                  · rw [bI_21, bJ_at, if_neg (by omega), bI_21, kl _ _ (by omega)]; exact hK i hi
                  · by_cases e3 : j = 3
                    · rw [e3, bI_eq, U3]
                    · rw [bI_ne (by omega)]
                      by_cases e14 : j = 14 + 4 * b
                      · rw [e14, bI_eq, U14]
                      · rw [bI_ne (by omega)]
                        by_cases e13 : j = 13 + 4 * b
                        · rw [e13, b7.m, bI_eq, U13]
                        · by_cases e12 : j = 12 + 4 * b
                          · rw [e12, b7.m, bI_ne (by omega), b6.m, bI_eq, U12]
                          · by_cases e11 : j = 11 + 4 * b
                            · rw [e11, b7.m, bI_ne (by omega), b6.m, bI_ne (by omega), km5, b4.m, b3.m, bI_eq, U11]
                            · rw [mm j e13 e12 e11]
                              by_cases e289 : 289 ≤ j
                              · rw [UN j e289, j1 j, unm]
                                by_cases z1 : j = 289 + b
                                · rw [if_pos z1, if_pos z1]
                                · rw [if_neg z1, if_neg z1]
                                  by_cases z2 : 302 + 8 * b ≤ j ∧ j < 302 + 8 * b + tkN tx n k
                                  · rw [if_pos z2, if_pos z2]
                                  · rw [if_neg z2, if_neg z2]; exact hM.1 j h h'
                              · rw [lm1 j (by omega), UO j (by omega) e3 (by omega)]; exact hM.1 j h h'
                  · rw [bI_ne (by omega), bI_ne (by omega), mm _ (by omega) (by omega) (by omega), lm1 _ (by omega)]; exact hM.2 p' hp'
                  · have w := G1'
                    unfold G1 at w ⊢
                    rw [UO 0 (by omega) (by omega) (by omega), UO 1 (by omega) (by omega) (by omega), UO 2 (by omega) (by omega) (by omega), UO 9 (by omega) (by omega) (by omega), UO 10 (by omega) (by omega) (by omega), bI_ne (o := c + 1) (k := 5) (a := c) (j := 4) (by omega), bI_ne (o := c + 1) (k := 5) (a := c + 1) (j := 6) (by omega), bI_ne (o := c + 1) (k := 5) (a := c + 1) (j := 7) (by omega), bI_ne (o := c + 1) (k := 5) (a := c + 1) (j := 8) (by omega), bI_ne (o := c + 1) (k := 5) (a := c + 1) (j := 9) (by omega), bI_ne (o := c + 1) (k := 5) (a := c + 1) (j := 10) (by omega), bI_ne (o := c + 1) (k := 5) (a := c + 20) (j := 2) (by omega), bJ_1, bI_ne (o := c + 1 + 5) (k := b) (a := c) (j := 4) (by omega), bI_ne (o := c + 1 + 5) (k := b) (a := c + 1) (j := 6) (by omega), bI_ne (o := c + 1 + 5) (k := b) (a := c + 1) (j := 7) (by omega), bI_ne (o := c + 1 + 5) (k := b) (a := c + 1) (j := 8) (by omega), bI_ne (o := c + 1 + 5) (k := b) (a := c + 1) (j := 9) (by omega), bI_ne (o := c + 1 + 5) (k := b) (a := c + 1) (j := 10) (by omega), bI_ne (o := c + 1 + 5) (k := b) (a := c + 20) (j := 2) (by omega), kk c 4 (by omega) (by omega), kk (c + 1) 6 (by omega) (by omega), kk (c + 1) 7 (by omega) (by omega), kk (c + 1) 8 (by omega) (by omega), kk (c + 1) 9 (by omega) (by omega), kk (c + 1) 10 (by omega) (by omega), kk (c + 20) 2 (by omega) (by omega)]
                    exact ⟨w.1, w.2.1, fun z => absurd z hu0, w.2.2.2⟩
                  · refine ⟨by omega, by rw [bI_eq, U3], fun i hi => ?_⟩
                    by_cases z : i = b
                    · subst z
                      rw [U11, U12, U13, U14]
                      refine ⟨⟨q1, ⟨by omega, by omega⟩, ⟨i1, i2⟩, by omega⟩, ?_, ?_, ?_, ?_, ?_⟩
                      · rw [bI_ne (by omega), bJ_1, bI_ne (by omega), a7.k _ _ (by omega), bI_ne (by omega), a6.k _ _ (by omega), bI_ne (by omega), k5 _ _ (by omega), bI_ne (by omega), a4.k _ _ (by omega), a3.k _ _ (by omega), bI_eq]
                      · rw [bI_ne (by omega), bJ_1, bI_ne (by omega), a7.k _ _ (by omega), bI_ne (by omega), a6.k _ _ (by omega), bI_ne (by omega), k5 _ _ (by omega), bI_eq, show (10 * tkX tx n k4 + x) % 10 = x by omega]
                      · rw [bI_ne (by omega), bJ_1, bI_ne (by omega), a7.k _ _ (by omega), bI_ne (by omega), a6.k _ _ (by omega), bI_eq, show (10 * tkX tx n k4 + x) / 10 = tkX tx n k4 by omega]
                      · rw [bI_ne (by omega), bJ_1, bI_ne (by omega), a7.k _ _ (by omega), bI_eq]
                      · rw [bI_ne (by omega), bJ_1, bI_eq]
                    · rw [UO (11 + 4 * i) (by omega) (by omega) (by omega), UO (12 + 4 * i) (by omega) (by omega) (by omega), UO (13 + 4 * i) (by omega) (by omega) (by omega), UO (14 + 4 * i) (by omega) (by omega) (by omega)]
                      have w := G2'.2.2 i (by omega)
                      have kf : ∀ a, c + 2 ≤ a → a ≤ c + 6 → (bI (bJ (bI σ7 (c + 1 + 5) b (nI rn)) 5 b (nL (tkW tx n k))) (c + 1) 5 (nI (b + 1))).1 a i = σ.1 a i := fun a z1 z2 => by rw [bI_ne (by omega), bJ_1, bI_ne (by omega), kk _ _ (by omega) (by omega)]
                      rw [kf _ (by omega) (by omega), kf _ (by omega) (by omega), kf _ (by omega) (by omega), kf _ (by omega) (by omega), kf _ (by omega) (by omega)]
                      exact w
                  · exact G3'.cg (fun j z => UO j (by omega) (by omega) (by omega)) (by omega) (fun a k' z => by rw [bI_ne (by omega), bJ_1, bI_ne (by omega), kk _ _ (by omega) (by omega)]) (fun k' => by rw [bI_21, bJ_at, if_neg (by omega), bI_21, kl _ _ (by omega)])
                  · refine ⟨v1, fun m hm => ?_, fun p hp => ?_, v4, fun i hi => ?_, fun p hp => ?_⟩
                    · rw [U3]
                      by_cases z : m = b
                      · rw [z, v6]; omega
                      · rw [(v7 m (by omega) z).2]
                        have := n2 m hm
                        omega
                    · have e := (v7 (6 + p) (by omega) (by omega)).2
                      rw [show 289 + (6 + p) = 295 + p by omega] at e
                      rw [e, UO 4 (by omega) (by omega) (by omega)]; exact n3 p hp
                    · rw [bI_21, bJ_at]
                      by_cases z : i = b
                      · rw [if_pos ⟨rfl, z⟩, z, v5]; rfl
                      · rw [if_neg (fun w => z w.2), bI_21, kl _ _ (by omega), (v7 i (by omega) z).1]; exact n5' i (by omega)
                    · rw [UO 4 (by omega) (by omega) (by omega)] at hp
                      rw [bI_21, bJ_at, if_neg (by omega), bI_21, kl _ _ (by omega), (v7 (6 + p) (by have := G3'.1; omega) (by omega)).1]
                      exact n6 p hp
                  · exact G5'.cg (fun j z => UO j (by omega) (by omega) (by omega)) (fun a k' z => by rw [bI_ne (by omega), bJ_1, bI_ne (by omega), kk _ _ (by omega) (by omega)])
                  · exact G6'.cg (fun j z => UO j (by omega) (by omega) (by omega)) (by rw [UO 4 (by omega) (by omega) (by omega)]; exact Nat.le_refl _) (fun a k' z => by rw [bI_ne (by omega), bJ_1, bI_ne (by omega), kk _ _ (by omega) (by omega)])
                  · exact G7'.cg (fun j z => UO j (by omega) (by omega) (by omega)) (fun k' => by rw [bI_ne (by omega), bJ_1, bI_ne (by omega), kk _ _ (by omega) (by omega)])
                  · exact G8'.cg (fun j z => UO j (by omega) (by omega) (by omega)) (fun a k' z => by rw [bI_ne (by omega), bJ_1, bI_ne (by omega), kk _ _ (by omega) (by omega)])
                · simp only [set_e, hf, n10, if_false]
                  exact ff1 _ _ _
              · simp only [aft_f, set_e, hf, n10, if_false, bbd_s, bbv_s]
                exact ff2 _ _ _ _ _
          · obtain ⟨σ', μ', d1, d2, d3, d4, d5, d6⟩ := bad_pair gd.1 gd.2.1 gd.2.2.1 (x := nI (noN tx n k4)) (noN tx n k4) rfl
            have eJ : f_X9_readDown_J55 (c + 1) (bI σ4 (c + 1 + 2) b (nI x)) = some ((0 : Int32), σ') := by
              rw [f_X9_readDown_J55, kd (c + 1) 7 (by omega) (by omega) (by omega), w7, hu1, show (0 : Int32) = nI 0 from rfl, c_wholeb gd.1 (by decide) (by omega) ok, d1]
              rfl
            rw [eJ, show (0 : Int32) = nI 0 from rfl, m_numHb gd.2.1 gd.2.2.1 (by decide) (by omega) ok d2 d6]
            simp only [bbd_s, blet]
            have ec := cell_f hb6 (μ := μ') (by rw [d4.m, q3]) d6 (nI (11 + 4 * b)) (10 * nI 0 + nI x)
            rw [show (0 : Int32) = nI 0 from rfl] at ec
            rw [ec]
            refine PW_bad (gd.bad d3 d4 d5) ?_ (ff_id μ')
            have eC : (if nI (tkT tx n k4) = (2 : Int32) then if nI (u 1) ≤ (bI σ4 (c + 1 + 2) b (nI x)).1 2 6 then some ((nI 0 : Int32), σ') else bbd (f_X3_isTaken (c + 1) (nI x) ((bI σ4 (c + 1 + 2) b (nI x)).1 2 6) (bI σ4 (c + 1 + 2) b (nI x))) (fun v6 σ5 => if v6 = nI 0 then f_X9_readDown_J55 (c + 1) σ5 else bbd (f_X9_blame 7 σ5) (fun v10 σ9 => if v10 = nI 0 ∨ v10 = 1 then some (v10, σ9) else none)) else some ((nI 0 : Int32), σ')) = some ((0 : Int32), σ') := by
              by_cases hT2 : tkT tx n k4 = 2
              · have hX := tk_2 tx hT2
                rw [hT2, if_pos (show (nI 2 : Int32) = 2 from rfl), gd.1.2.2.2.2.2.1 hT2, if_pos (nI_le (by
                  by_cases w : u 1 ≤ tkX tx n k4
                  · exact w
                  · exact absurd ⟨hT2, by omega, by omega⟩ ok) (by omega))]
                rfl
              · rw [if_neg (fun z => hT2 (by
                  have : nI (tkT tx n k4) = nI 2 := z
                  rwa [q_eq (by omega) (by omega)] at this))]
                rfl
            rw [eC]
            rfl
        · rw [numH_f hf]
          simp only [bbd_s, blet]
          rw [cell_f hb6 (by rw [hA.m]; exact m23 _ b3) hf]
          exact ff_id μ'
      · rw [num_f hf]
        simp only [bbd_s]
        rw [numH_f hf]
        simp only [bbd_s, blet]
        rw [cell_f hb6 (m23 _ hA) hf]
        exact ff_id μ'
    · rw [J55_f hb6 (by rw [bI_ne (by omega), hA.m, lm1 3 (by omega), m3]) (set_f hf)]
      exact ff1 _ _ _
  · rw [if_neg (f0 hf), J55_f hb6 (by rw [hA.m, m3]) hf]
    exact ff_id μ'
