/-! ===== calls that ask of a person (own work) ===== -/
theorem b0 : b2 false = 0 := rfl
theorem b1 : ¬ b2 true = 0 := by decide
theorem hasP_N {σ : bSto} (h : NR (σ.2.2 0 7) σ) {x : Int32} : f_X2_has (σ.2.2 0 7 + 7) x σ = some ((0 : Int32), σ) := by
  rw [s_has2 (n := 0) h.2.2.1.1 (by decide), decide_eq_false (by rintro ⟨j, hj, -⟩; omega)]
  rfl
theorem hasB_N {σ : bSto} (h : NR (σ.2.2 0 7) σ) {x : Int32} : f_X3_has (σ.2.2 0 7 + 1) x σ = some ((0 : Int32), σ) := by
  rw [s_has3 (n := 0) h.2.1.1 (by decide), decide_eq_false (by rintro ⟨j, hj, -⟩; omega)]
  rfl
theorem hasP_V {c : Nat} {v s : Nat → Nat} {bel : Nat → Int32} {S D : Nat} {σ : bSto} (h : VW c v s bel S D σ) (x : Int32) : f_X2_has (c + 7) x σ = some (b2 (decide (∃ p, p < v 4 ∧ x = nI p)), σ) := s_has2 h.2.2.2.1.2.1.1 h.2.1.1.2.2.2.2.1 x
theorem hasB_V {c : Nat} {v s : Nat → Nat} {bel : Nat → Int32} {S D : Nat} {σ : bSto} (h : VW c v s bel S D σ) (x : Int32) : f_X3_has (c + 1) x σ = some (b2 (decide (∃ p, p < v 3 ∧ x = nI p)), σ) := s_has3 h.2.2.2.1.1.1 h.2.1.1.2.2.2.1.2 x
theorem isP_N {c : Nat} {σ : bSto} (h : NR c σ) {x : Int32} : f_X12_isPerson x σ = some ((0 : Int32), σ) := by
  rw [f_X12_isPerson, h.1.2, if_pos n0]
  rfl
theorem isB_N {c : Nat} {σ : bSto} (h : NR c σ) {x : Int32} : f_X12_isBench x σ = some ((0 : Int32), σ) := by
  rw [f_X12_isBench, h.1.2, if_pos n0]
  rfl
theorem isP_V {c : Nat} {v s : Nat → Nat} {bel : Nat → Int32} {S D : Nat} {σ : bSto} (h : VW c v s bel S D σ) (x : Int32) : f_X12_isPerson x σ = some (b2 (decide (∃ p, p < v 4 ∧ x = nI p)), σ) := by
  rw [f_X12_isPerson, h.1.2, if_neg n1, h.2.2.1.at 4 (by decide) (by decide), in_has h.2.1.1.2.2.2.2.1, bbd_s]
  cases decide (∃ p, p < v 4 ∧ x = nI p) <;> rfl
theorem isB_V {c : Nat} {v s : Nat → Nat} {bel : Nat → Int32} {S D : Nat} {σ : bSto} (h : VW c v s bel S D σ) (x : Int32) : f_X12_isBench x σ = some (b2 (decide (∃ p, p < v 3 ∧ x = nI p)), σ) := by
  rw [f_X12_isBench, h.1.2, if_neg n1, h.2.2.1.at 3 (by decide) (by decide), in_has (by have := h.2.1.1.2.2.2.1.2; omega), bbd_s]
  cases decide (∃ p, p < v 3 ∧ x = nI p) <;> rfl
theorem pkf_le (K : PK) : ∀ j A s cur, (∀ i, cur i ≤ K.nb) → ∀ i, pkf K j A s cur i ≤ K.nb := by
  intro j
  induction j with
  | zero => intro A s cur h i; exact h i
  | succ j ih =>
    intro A s cur h i
    have hp : ∀ p x, x ≤ K.nb → ∀ i, put cur p x i ≤ K.nb := fun p x hx i => by
      unfold put
      split
      · exact hx
      · exact h i
    rw [pkf]
    split
    · split
      · rename_i h2
        exact ih _ _ _ (hp _ _ (by omega)) i
      · exact ih _ _ _ (hp _ _ (by omega)) i
    · exact ih _ _ _ (hp _ _ (by omega)) i
theorem seat_sv {k : Nat} (hk : k ≤ 6) (σ : bSto) : (if nI k = (0 : Int32) then some ((-2 : Int32), σ) else some (nI k - (1 : Int32), σ)) = some (sv k, σ) := by
  by_cases z : k = 0
  · rw [z, if_pos (show (nI 0 : Int32) = 0 from rfl)]; rfl
  · rw [if_neg (nI_ne0 (by omega) (by omega)), pred_nI (by omega), sv, if_neg z]
theorem o_warmest {σ : bSto} (hI : INV σ) (x : Int32) : ∃ r σ1 σ2, f_X11_warmest x σ = some (r, σ1) ∧ f_X12_warmest x σ1 = some (r, σ2) ∧ INV σ2 := by
  simp only [f_X12_warmest]
  have hk := hI.2.2.1.1
  rcases hI.2.2.2.2 with hN | ⟨v, s, bel, S, D, hV, -⟩
  · refine OP_no hI (-1) 1 (by decide) ?_ (fun τ hA => ?_)
    · rw [f_X11_warmest, if_pos hk, hasP_N hN, bbd_s, if_pos rfl, ref_eq, bbd_s]; rfl
    · rw [isP_N (hN.ao hk hA), bbd_s, if_pos rfl, no_eq, bbd_s]; rfl
  · by_cases hx : ∃ p, p < v 4 ∧ x = nI p
    · obtain ⟨p, hp, rfl⟩ := hx
      refine OP_yes hI (sv (wst v s p)) ?_ (fun τ hA => ?_)
      · have hP := hasP_V hV (nI p)
        rw [decide_eq_true ⟨p, hp, rfl⟩] at hP
        obtain ⟨⟨hi, hm⟩, ⟨w, wt, we, wr⟩, mv, ⟨ch', cf, ct, ce, cr', ft⟩, ⟨hs, h0, cn', mn⟩, ⟨cb, mb⟩, ⟨hS, hS1, hS2⟩, hD, hD1, hD2⟩ := hV
        rw [f_X11_warmest, if_pos hk, hP, bbd_s, if_neg b1]
        rw [if_pos hk, s_warmestFor w ch' cf cn' hs hp, bbd_s, ans_eq, bbd_s]; rfl
      · have hP := isP_V (hV.ao hk hA) (nI p)
        rw [decide_eq_true ⟨p, hp, rfl⟩] at hP
        obtain ⟨⟨hi, hm⟩, ⟨w, wt, we, wr⟩, mv, ⟨ch', cf, ct, ce, cr', ft⟩, ⟨hs, h0, cn', mn⟩, ⟨cb, mb⟩, ⟨hS, hS1, hS2⟩, hD, hD1, hD2⟩ := hV.ao hk hA
        rw [hP, bbd_s, if_neg b1]
        rw [show (-2 : Int32) = sv 0 from rfl, show (0 : Int32) = nI 0 from rfl, s_warmestM w mv mn hs h0 hp]
        rfl
    · refine OP_no hI (-1) 1 (by decide) ?_ (fun τ hA => ?_)
      · rw [f_X11_warmest, if_pos hk, hasP_V hV, decide_eq_false hx, bbd_s, if_pos b0, ref_eq, bbd_s]; rfl
      · rw [isP_V (hV.ao hk hA), decide_eq_false hx, bbd_s, if_pos b0, no_eq, bbd_s]; rfl
theorem o_mayMarry {σ : bSto} (hI : INV σ) (x : Int32) : ∃ r σ1 σ2, f_X11_mayMarry x σ = some (r, σ1) ∧ f_X12_mayMarry x σ1 = some (r, σ2) ∧ INV σ2 := by
  simp only [f_X12_mayMarry]
  have hk := hI.2.2.1.1
  rcases hI.2.2.2.2 with hN | ⟨v, s, bel, S, D, hV, -⟩
  · refine OP_no hI (-1) 1 (by decide) ?_ (fun τ hA => ?_)
    · rw [f_X11_mayMarry, if_pos hk, hasP_N hN, bbd_s, if_pos rfl, ref_eq, bbd_s]; rfl
    · rw [isP_N (hN.ao hk hA), bbd_s, if_pos rfl, no_eq, bbd_s]; rfl
  · by_cases hx : ∃ p, p < v 4 ∧ x = nI p
    · obtain ⟨p, hp, rfl⟩ := hx
      refine OP_yes hI (nI (mmk v p)) ?_ (fun τ hA => ?_)
      · have hP := hasP_V hV (nI p)
        rw [decide_eq_true ⟨p, hp, rfl⟩] at hP
        obtain ⟨⟨hi, hm⟩, ⟨w, wt, we, wr⟩, mv, ⟨ch', cf, ct, ce, cr', ft⟩, ⟨hs, h0, cn', mn⟩, ⟨cb, mb⟩, ⟨hS, hS1, hS2⟩, hD, hD1, hD2⟩ := hV
        rw [f_X11_mayMarry, if_pos hk, hP, bbd_s, if_neg b1]
        rw [if_pos hk, s_marriable w wt cf ct hp, bbd_s, ans_eq, bbd_s]; rfl
      · have hP := isP_V (hV.ao hk hA) (nI p)
        rw [decide_eq_true ⟨p, hp, rfl⟩] at hP
        obtain ⟨⟨hi, hm⟩, ⟨w, wt, we, wr⟩, mv, ⟨ch', cf, ct, ce, cr', ft⟩, ⟨hs, h0, cn', mn⟩, ⟨cb, mb⟩, ⟨hS, hS1, hS2⟩, hD, hD1, hD2⟩ := hV.ao hk hA
        rw [hP, bbd_s, if_neg b1]
        rw [show (0 : Int32) = nI 0 from rfl, s_mayMarryM w wt mv hp]
        rfl
    · refine OP_no hI (-1) 1 (by decide) ?_ (fun τ hA => ?_)
      · rw [f_X11_mayMarry, if_pos hk, hasP_V hV, decide_eq_false hx, bbd_s, if_pos b0, ref_eq, bbd_s]; rfl
      · rw [isP_V (hV.ao hk hA), decide_eq_false hx, bbd_s, if_pos b0, no_eq, bbd_s]; rfl
theorem o_packedAt {σ : bSto} (hI : INV σ) (x : Int32) : ∃ r σ1 σ2, f_X11_packedAt x σ = some (r, σ1) ∧ f_X12_packedAt x σ1 = some (r, σ2) ∧ INV σ2 := by
  simp only [f_X12_packedAt]
  have hk := hI.2.2.1.1
  rcases hI.2.2.2.2 with hN | ⟨v, s, bel, S, D, hV, -⟩
  · refine OP_no hI (-1) 1 (by decide) ?_ (fun τ hA => ?_)
    · rw [f_X11_packedAt, if_pos hk, hasP_N hN, bbd_s, if_pos rfl, ref_eq, bbd_s]; rfl
    · rw [isP_N (hN.ao hk hA), bbd_s, if_pos rfl, no_eq, bbd_s]; rfl
  · by_cases hx : ∃ p, p < v 4 ∧ x = nI p
    · obtain ⟨p, hp, rfl⟩ := hx
      refine OP hI (sv (row1 v p)) 0 (by decide) ?_ (fun τ hA hz => ?_)
      · have hP := hasP_V hV (nI p)
        rw [decide_eq_true ⟨p, hp, rfl⟩] at hP
        obtain ⟨⟨hi, hm⟩, ⟨w, wt, we, wr⟩, mv, ⟨ch', cf, ct, ce, cr', ft⟩, ⟨hs, h0, cn', mn⟩, ⟨cb, mb⟩, ⟨hS, hS1, hS2⟩, hD, hD1, hD2⟩ := hV
        obtain ⟨τ2, d1, d2⟩ := s_firstRowAt w hk ch' cf hp
        refine ⟨τ2, ?_, d2.mono Bp_Bx⟩
        rw [f_X11_packedAt, if_pos hk, hP, bbd_s, if_neg b1, if_pos hk, d1, bbd_s, ans_eq, bbd_s]
        rfl
      · have hP := isP_V (hV.ao hk hA) (nI p)
        rw [decide_eq_true ⟨p, hp, rfl⟩] at hP
        obtain ⟨⟨hi, hm⟩, ⟨w, wt, we, wr⟩, mv, ⟨ch', cf, ct, ce, cr', ft⟩, ⟨hs, h0, cn', mn⟩, ⟨cb, mb⟩, ⟨hS, hS1, hS2⟩, hD, hD1, hD2⟩ := hV.ao hk hA
        obtain ⟨τ2, d1, d2, d3, -⟩ := s_seekS (wo := 0) (mo := 0) w mv (by decide) (by decide)
        have h7 := w.2.2.2.2.1
        have hr : row1 v p ≤ 6 := Nat.le_trans (pkf_le (Kv v) (v 4) _ _ _ (fun _ => Nat.zero_le _) p) w.2.2.2.1.2
        have e3 := d3 p hp
        rw [but_0, sts_0] at e3
        have e4 : τ2.1 101 p = nI (row1 v p) := e3
        refine ⟨τ2, ?_, d2.mono BS_Bn2, by rw [d2.1 92 11 (by unfold BS; omega)]; exact hz⟩
        rw [hP, bbd_s, if_neg b1, show (-1 : Int32) = bv 0 from rfl, d1, bbd_s]
        simp only [nI_clamp (show p < 2 ^ 31 by omega), fcd (show p < 7 by omega) (by omega), if_false]
        rw [e4]
        exact seat_sv hr τ2
    · refine OP_no hI (-1) 1 (by decide) ?_ (fun τ hA => ?_)
      · rw [f_X11_packedAt, if_pos hk, hasP_V hV, decide_eq_false hx, bbd_s, if_pos b0, ref_eq, bbd_s]; rfl
      · rw [isP_V (hV.ao hk hA), decide_eq_false hx, bbd_s, if_pos b0, no_eq, bbd_s]; rfl
theorem o_packedWithout {σ : bSto} (hI : INV σ) (x : Int32) : ∃ r σ1 σ2, f_X11_packedWithout x σ = some (r, σ1) ∧ f_X12_packedWithout x σ1 = some (r, σ2) ∧ INV σ2 := by
  simp only [f_X12_packedWithout]
  have hk := hI.2.2.1.1
  rcases hI.2.2.2.2 with hN | ⟨v, s, bel, S, D, hV, -⟩
  · refine OP_no hI (-1) 1 (by decide) ?_ (fun τ hA => ?_)
    · rw [f_X11_packedWithout, if_pos hk, hasP_N hN, bbd_s, if_pos rfl, ref_eq, bbd_s]; rfl
    · rw [isP_N (hN.ao hk hA), bbd_s, if_pos rfl, no_eq, bbd_s]; rfl
  · by_cases hx : ∃ p, p < v 4 ∧ x = nI p
    · obtain ⟨p, hp, rfl⟩ := hx
      refine OP hI (nI (PM (Kv v) (but (p + 1)) (st0 v))) 0 (by decide) ?_ (fun τ hA hz => ?_)
      · have hP := hasP_V hV (nI p)
        rw [decide_eq_true ⟨p, hp, rfl⟩] at hP
        obtain ⟨⟨hi, hm⟩, ⟨w, wt, we, wr⟩, mv, ⟨ch', cf, ct, ce, cr', ft⟩, ⟨hs, h0, cn', mn⟩, ⟨cb, mb⟩, ⟨hS, hS1, hS2⟩, hD, hD1, hD2⟩ := hV
        obtain ⟨τ1, d1, d2, d3⟩ := s_begin w hk ch' cf
        obtain ⟨τ2, e1, e2⟩ := s_most (W := rmv (2 ^ v 4 - 1) p) w (fun b hb => by have := st0_le w b hb; omega) d3 (rmv_lt (n := 7) (all_lt w.2.2.2.2.1))
        have h7 := w.2.2.2.2.1
        refine ⟨τ2, ?_, (d2.mono Bp_Bx).trans ((e2.mono Bk_Bp).mono Bp_Bx)⟩
        have er := rmv_nI (S := 2 ^ v 4 - 1) (q := p) (by omega)
        have er' : nI (2 ^ v 4 - 1) &&& (((1 : Int32) <<< (nI p &&& 31)) ^^^ (-1 : Int32)) = nI (rmv (2 ^ v 4 - 1) p) := er
        rw [f_X11_packedWithout, if_pos hk, hP, bbd_s, if_neg b1, if_pos hk, d1, bbv_s, rf d2, if_pos hk, s_everybody w (cf.ao d2 (fun a k z => by have := kR_Bp hk a k z; omega)), bbd_s, er', e1, bbd_s, ans_eq, bbd_s, PM_congr (Kv v) (E := but (p + 1)) (z := st0 v) (fun i hi => by
          rw [tb_rmv, del, all_tb (show i < v 4 from hi), Bool.true_and, but]
          by_cases z : i = p
          · rw [z]; simp
          · simp [z]) (fun b _ => rfl)]
        rfl
      · have hP := isP_V (hV.ao hk hA) (nI p)
        rw [decide_eq_true ⟨p, hp, rfl⟩] at hP
        obtain ⟨⟨hi, hm⟩, ⟨w, wt, we, wr⟩, mv, ⟨ch', cf, ct, ce, cr', ft⟩, ⟨hs, h0, cn', mn⟩, ⟨cb, mb⟩, ⟨hS, hS1, hS2⟩, hD, hD1, hD2⟩ := hV.ao hk hA
        have h7 := w.2.2.2.2.1
        obtain ⟨τ2, d1, d2, -, -⟩ := s_seekS (wo := p + 1) (mo := 0) w mv (by omega) (by decide)
        refine ⟨τ2, ?_, d2.mono BS_Bn2, by rw [d2.1 92 11 (by unfold BS; omega)]; exact hz⟩
        have d1' : f_X12_seekSits (nI p) (-1 : Int32) τ = some (nI (PM (Kv v) (but (p + 1)) (sts v 0)), τ2) := by
          rw [← d1, bv, if_neg (by omega), Nat.add_sub_cancel]
          rfl
        rw [hP, bbd_s, if_neg b1, d1', bbd_s, sts_0]
    · refine OP_no hI (-1) 1 (by decide) ?_ (fun τ hA => ?_)
      · rw [f_X11_packedWithout, if_pos hk, hasP_V hV, decide_eq_false hx, bbd_s, if_pos b0, ref_eq, bbd_s]; rfl
      · rw [isP_V (hV.ao hk hA), decide_eq_false hx, bbd_s, if_pos b0, no_eq, bbd_s]; rfl
theorem o_spouse {σ : bSto} (hI : INV σ) (x : Int32) : ∃ r σ1 σ2, f_X11_spouse x σ = some (r, σ1) ∧ f_X12_spouse x σ1 = some (r, σ2) ∧ INV σ2 := by
  simp only [f_X12_spouse]
  have hk := hI.2.2.1.1
  rcases hI.2.2.2.2 with hN | ⟨v, s, bel, S, D, hV, -⟩
  · refine OP_no hI (-1) 1 (by decide) ?_ (fun τ hA => ?_)
    · rw [f_X11_spouse, if_pos hk, hasP_N hN, bbd_s, if_pos rfl, ref_eq, bbd_s]; rfl
    · rw [isP_N (hN.ao hk hA), bbd_s, if_pos rfl, no_eq, bbd_s]; rfl
  · by_cases hx : ∃ p, p < v 4 ∧ x = nI p
    · obtain ⟨p, hp, rfl⟩ := hx
      refine OP hI (sv (cpf (cmr v) (v 4) (v 4) (everyone (v 4)) (fun _ => 0) p)) 0 (by decide) ?_ (fun τ hA hz => ?_)
      · have hP := hasP_V hV (nI p)
        rw [decide_eq_true ⟨p, hp, rfl⟩] at hP
        obtain ⟨⟨hi, hm⟩, ⟨w, wt, we, wr⟩, mv, ⟨ch', cf, ct, ce, cr', ft⟩, ⟨hs, h0, cn', mn⟩, ⟨cb, mb⟩, ⟨hS, hS1, hS2⟩, hD, hD1, hD2⟩ := hV
        obtain ⟨τ2, d1, d2, d3⟩ := s_pair w wt hk cf ct
        have h7 := w.2.2.2.2.1
        refine ⟨τ2, ?_, d2.mono B64_Bx⟩
        rw [f_X11_spouse, if_pos hk, hP, bbd_s, if_neg b1, if_pos hk, d1, bbd_s]
        simp only [nI_clamp (show p < 2 ^ 31 by omega), fcd (show p < 7 by omega) (by omega), if_false]
        rw [d3 p (by omega), ans_eq, bbd_s]
        rfl
      · have hP := isP_V (hV.ao hk hA) (nI p)
        rw [decide_eq_true ⟨p, hp, rfl⟩] at hP
        obtain ⟨⟨hi, hm⟩, ⟨w, wt, we, wr⟩, mv, ⟨ch', cf, ct, ce, cr', ft⟩, ⟨hs, h0, cn', mn⟩, ⟨cb, mb⟩, ⟨hS, hS1, hS2⟩, hD, hD1, hD2⟩ := hV.ao hk hA
        obtain ⟨τ2, d1, d2, d3⟩ := s_seekCouples w wt mv
        have h7 := w.2.2.2.2.1
        refine ⟨τ2, ?_, d2.mono BC_Bn2, by rw [d2.1 92 11 (by unfold BC; omega)]; exact hz⟩
        rw [hP, bbd_s, if_neg b1, d1, bbd_s]
        simp only [nI_clamp (show p < 2 ^ 31 by omega), fcd (show p < 7 by omega) (by omega), if_false]
        rw [d3 p (by omega)]
    · refine OP_no hI (-1) 1 (by decide) ?_ (fun τ hA => ?_)
      · rw [f_X11_spouse, if_pos hk, hasP_V hV, decide_eq_false hx, bbd_s, if_pos b0, ref_eq, bbd_s]; rfl
      · rw [isP_V (hV.ao hk hA), decide_eq_false hx, bbd_s, if_pos b0, no_eq, bbd_s]; rfl
theorem o_drawn {σ : bSto} (hI : INV σ) (x : Int32) : ∃ r σ1 σ2, f_X11_drawn x σ = some (r, σ1) ∧ f_X12_drawn x σ1 = some (r, σ2) ∧ INV σ2 := by
  simp only [f_X12_drawn]
  have hk := hI.2.2.1.1
  rcases hI.2.2.2.2 with hN | ⟨v, s, bel, S, D, hV, -⟩
  · refine OP_no hI (-1000) 1 (by decide) ?_ (fun τ hA => ?_)
    · rw [f_X11_drawn, if_pos hk, hasP_N hN, bbd_s, if_pos rfl, refW_eq, bbd_s]; rfl
    · rw [isP_N (hN.ao hk hA), bbd_s, if_pos rfl, less_eq, bbd_s]; rfl
  · by_cases hx : ∃ p, p < v 4 ∧ x = nI p
    · obtain ⟨p, hp, rfl⟩ := hx
      refine OP hI (drw v bel p) 0 (by decide) ?_ (fun τ hA hz => ?_)
      · have hP := hasP_V hV (nI p)
        rw [decide_eq_true ⟨p, hp, rfl⟩] at hP
        obtain ⟨⟨hi, hm⟩, ⟨w, wt, we, wr⟩, mv, ⟨ch', cf, ct, ce, cr', ft⟩, ⟨hs, h0, cn', mn⟩, ⟨cb, mb⟩, ⟨hS, hS1, hS2⟩, hD, hD1, hD2⟩ := hV
        obtain ⟨τ1, d1, d2, d3⟩ := c_begin σ
        have h7 := w.2.2.2.2.1
        obtain ⟨τ2, e1, e2, e3⟩ := s_pull (bel := bel) w hk (cf.ao d2 (fun a k z => by have := Bc_far hk a k z; omega)) (ce.ao d2 (fun a k z => by have := Bc_far hk a k z; omega)) (fun q hq => by rw [d3 q hq, cb q hq])
        refine ⟨τ2, ?_, (d2.mono Bc_Bx).trans (e2.mono (fun a k z => by have : a = 68 := z; unfold Bx; omega))⟩
        rw [f_X11_drawn, if_pos hk, hP, bbd_s, if_neg b1, d1, bbv_s, rf d2, if_pos hk, e1, bbv_s]
        simp only [nI_clamp (show p < 2 ^ 31 by omega), fcd (show p < 7 by omega) (by omega), if_false]
        rw [e3 p (by omega), ans_eq, bbd_s]
        rfl
      · have hP := isP_V (hV.ao hk hA) (nI p)
        rw [decide_eq_true ⟨p, hp, rfl⟩] at hP
        obtain ⟨⟨hi, hm⟩, ⟨w, wt, we, wr⟩, mv, ⟨ch', cf, ct, ce, cr', ft⟩, ⟨hs, h0, cn', mn⟩, ⟨cb, mb⟩, ⟨hS, hS1, hS2⟩, hD, hD1, hD2⟩ := hV.ao hk hA
        have h7 := w.2.2.2.2.1
        refine ⟨τ, ?_, AO.refl _ _, hz⟩
        rw [hP, bbd_s, if_neg b1, show (7 : Int32) = nI 7 from rfl, s_drawnBy w we mv (by decide) (by decide) (by omega), bbd_s, drw_congr (b' := bel) mb p]
    · refine OP_no hI (-1000) 1 (by decide) ?_ (fun τ hA => ?_)
      · rw [f_X11_drawn, if_pos hk, hasP_V hV, decide_eq_false hx, bbd_s, if_pos b0, refW_eq, bbd_s]; rfl
      · rw [isP_V (hV.ao hk hA), decide_eq_false hx, bbd_s, if_pos b0, less_eq, bbd_s]; rfl
