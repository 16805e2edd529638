/-! ===== calls that ask and use rows of their own (own work) ===== -/
theorem Bp_Bx : ∀ a k, Bp a k → Bx a k := fun a k h => by unfold Bp at h; unfold Bx; omega
theorem BS_Bn2 : ∀ a k, BS a k → Bn2 a k := fun a k h => by unfold BS at h; unfold Bn2; omega
theorem Bc_Bx : ∀ a k, Bc a k → Bx a k := fun a k h => by unfold Bc at h; unfold Bx; omega
theorem Bm_Bn2 : ∀ a k, Bm a k → Bn2 a k := fun a k h => by unfold Bm at h; unfold Bn2; omega
theorem B64_Bx : ∀ a k, B64 a k → Bx a k := fun a k h => by unfold B64 at h; unfold Bx; omega
theorem BC_Bn2 : ∀ a k, BC a k → Bn2 a k := fun a k h => by unfold BC at h; unfold Bn2; omega
theorem Bx_Bs : ∀ a k, Bx a k → Bs a k := fun a k h => by unfold Bx at h; unfold Bs; omega
theorem Bn2_Bs : ∀ a k, Bn2 a k → Bs a k := fun a k h => by unfold Bn2 at h; unfold Bs; omega
theorem but_0 : but 0 = fun _ => true := by funext i; simp [but]
theorem sts_0 (v : Nat → Nat) : sts v 0 = st0 v := by funext b; simp [sts, st0]
theorem bv_0 : bv 0 = -1 := rfl
theorem sv_0 : sv 0 = -2 := rfl
theorem rf {σ τ : bSto} {B : Nat → Nat → Prop} (h : AO B σ τ) : τ.2.2 0 7 = σ.2.2 0 7 := by rw [h.2]
theorem c_begin (σ : bSto) : ∃ τ, f_X1_begin 30 σ = some τ ∧ AO Bc σ τ ∧ ∀ q, q < 7 → τ.1 67 q = σ.1 32 q := by
  refine ⟨bA σ 67 (va_cpy (σ.1 (30 + 2)) (σ.1 67) 0 0 7), rfl, AO.setA σ _ (fun k => Or.inr (Or.inl rfl)), fun q hq => ?_⟩
  rw [bA_eq, va_cpy, if_pos (by omega), show 0 + (q - 0) = q by omega]
theorem o_packed {σ : bSto} (hI : INV σ) : ∃ r σ1 σ2, f_X11_packed σ = some (r, σ1) ∧ f_X12_packed σ1 = some (r, σ2) ∧ INV σ2 := by
  simp only [f_X12_packed]
  have hk := hI.2.2.1.1
  rcases hI.2.2.2.2 with hN | ⟨v, s, bel, S, D, hV, -⟩
  · refine OP_no hI (-1) 1 (by decide) ?_ (fun τ hA => ?_)
    · rw [f_X11_packed, if_pos hk, hN.1.1, if_pos n0, ref_eq, bbd_s]; rfl
    · rw [(hN.ao hk hA).1.2, if_pos n0, no_eq, bbd_s]; rfl
  · refine OP hI (nI (PM (Kv v) (fun _ => true) (st0 v))) 0 (by decide) ?_ (fun τ hA hz => ?_)
    · obtain ⟨⟨hi, hm⟩, ⟨w, wt, we, wr⟩, mv, ⟨ch', cf, ct, ce, cr', ft⟩, ⟨hs, h0, cn', mn⟩, ⟨cb, mb⟩, ⟨hS, hS1, hS2⟩, hD, hD1, hD2⟩ := hV
      obtain ⟨τ1, b1, b2', b3⟩ := s_begin w hk ch' cf
      obtain ⟨τ2, d1, d2⟩ := s_most (W := 2 ^ v 4 - 1) w (fun b hb => by have := st0_le w b hb; omega) b3 (all_lt w.2.2.2.2.1)
      have hA2 : AO Bx σ τ2 := (b2'.mono Bp_Bx).trans ((d2.mono Bk_Bp).mono Bp_Bx)
      refine ⟨τ2, ?_, hA2⟩
      rw [f_X11_packed, if_pos hk, hi, if_neg n1, if_pos hk, b1, bbv_s, rf b2', if_pos hk, s_everybody w (cf.ao b2' (fun a k z => by have := kR_Bp hk a k z; omega)), bbd_s, d1, bbd_s, ans_eq, bbd_s, PMall]
      rfl
    · obtain ⟨⟨hi, hm⟩, ⟨w, wt, we, wr⟩, mv, ⟨ch', cf, ct, ce, cr', ft⟩, ⟨hs, h0, cn', mn⟩, ⟨cb, mb⟩, ⟨hS, hS1, hS2⟩, hD, hD1, hD2⟩ := hV.ao hk hA
      obtain ⟨τ2, d1, d2, -, -⟩ := s_seekS (wo := 0) (mo := 0) w mv (by decide) (by decide)
      refine ⟨τ2, ?_, d2.mono BS_Bn2, by rw [d2.1 92 11 (by unfold BS; omega)]; exact hz⟩
      rw [hm, if_neg n1, show (-1 : Int32) = bv 0 from rfl, d1, bbd_s, but_0, sts_0]
theorem o_cheapest {σ : bSto} (hI : INV σ) : ∃ r σ1 σ2, f_X11_cheapest σ = some (r, σ1) ∧ f_X12_cheapest σ1 = some (r, σ2) ∧ INV σ2 := by
  simp only [f_X12_cheapest]
  have hk := hI.2.2.1.1
  rcases hI.2.2.2.2 with hN | ⟨v, s, bel, S, D, hV, -⟩
  · refine OP_no hI (-1) 1 (by decide) ?_ (fun τ hA => ?_)
    · rw [f_X11_cheapest, if_pos hk, hN.1.1, if_pos n0, ref_eq, bbd_s]; rfl
    · rw [(hN.ao hk hA).1.2, if_pos n0, no_eq, bbd_s]; rfl
  · refine OP hI (nI (pk (Kv v) (v 4) (fun _ => true) (st0 v)).2) 0 (by decide) ?_ (fun τ hA hz => ?_)
    · obtain ⟨⟨hi, hm⟩, ⟨w, wt, we, wr⟩, mv, ⟨ch', cf, ct, ce, cr', ft⟩, ⟨hs, h0, cn', mn⟩, ⟨cb, mb⟩, ⟨hS, hS1, hS2⟩, hD, hD1, hD2⟩ := hV
      obtain ⟨τ2, d1, d2⟩ := s_leastRent w hk ch' cf
      refine ⟨τ2, ?_, d2.mono Bp_Bx⟩
      rw [f_X11_cheapest, if_pos hk, hi, if_neg n1, if_pos hk, d1, bbd_s, ans_eq, bbd_s]
      rfl
    · obtain ⟨⟨hi, hm⟩, ⟨w, wt, we, wr⟩, mv, ⟨ch', cf, ct, ce, cr', ft⟩, ⟨hs, h0, cn', mn⟩, ⟨cb, mb⟩, ⟨hS, hS1, hS2⟩, hD, hD1, hD2⟩ := hV.ao hk hA
      obtain ⟨τ2, d1, d2, -, d4⟩ := s_seekS (wo := 0) (mo := 0) w mv (by decide) (by decide)
      refine ⟨τ2, ?_, d2.mono BS_Bn2, by rw [d2.1 92 11 (by unfold BS; omega)]; exact hz⟩
      rw [hm, if_neg n1, show (-1 : Int32) = bv 0 from rfl, d1, bbd_s, d4, but_0, sts_0]
theorem o_bestSeat {σ : bSto} (hI : INV σ) : ∃ r σ1 σ2, f_X11_bestSeat σ = some (r, σ1) ∧ f_X12_bestSeat σ1 = some (r, σ2) ∧ INV σ2 := by
  simp only [f_X12_bestSeat]
  have hk := hI.2.2.1.1
  rcases hI.2.2.2.2 with hN | ⟨v, s, bel, S, D, hV, -⟩
  · refine OP_no hI (-1) 1 (by decide) ?_ (fun τ hA => ?_)
    · rw [f_X11_bestSeat, if_pos hk, hN.1.1, if_pos n0, ref_eq, bbd_s]; rfl
    · rw [(hN.ao hk hA).1.2, if_pos n0, no_eq, bbd_s]; rfl
  · refine OP hI (sv (bst v)) 0 (by decide) ?_ (fun τ hA hz => ?_)
    · obtain ⟨⟨hi, hm⟩, ⟨w, wt, we, wr⟩, mv, ⟨ch', cf, ct, ce, cr', ft⟩, ⟨hs, h0, cn', mn⟩, ⟨cb, mb⟩, ⟨hS, hS1, hS2⟩, hD, hD1, hD2⟩ := hV
      obtain ⟨τ2, d1, d2⟩ := s_seatMore w hk ch' cf
      refine ⟨τ2, ?_, d2.mono Bp_Bx⟩
      rw [f_X11_bestSeat, if_pos hk, hi, if_neg n1, if_pos hk, d1, bbd_s, ans_eq, bbd_s]
      rfl
    · obtain ⟨⟨hi, hm⟩, ⟨w, wt, we, wr⟩, mv, ⟨ch', cf, ct, ce, cr', ft⟩, ⟨hs, h0, cn', mn⟩, ⟨cb, mb⟩, ⟨hS, hS1, hS2⟩, hD, hD1, hD2⟩ := hV.ao hk hA
      obtain ⟨τ2, d1, d2, -, -⟩ := s_seekS (wo := 0) (mo := 0) w mv (by decide) (by decide)
      obtain ⟨τ3, e1, e2⟩ := s_bestSeatM w (mv.ao d2 (fun k => by unfold BS; omega))
      refine ⟨τ3, ?_, (d2.trans e2).mono BS_Bn2, by rw [(d2.trans e2).1 92 11 (by unfold BS; omega)]; exact hz⟩
      rw [hm, if_neg n1, show (-1 : Int32) = bv 0 from rfl, d1, bbd_s, but_0, sts_0, show (0 : Int32) = nI 0 from rfl, e1]
      rfl
theorem o_couples {σ : bSto} (hI : INV σ) : ∃ r σ1 σ2, f_X11_couples σ = some (r, σ1) ∧ f_X12_couples σ1 = some (r, σ2) ∧ INV σ2 := by
  simp only [f_X12_couples]
  have hk := hI.2.2.1.1
  rcases hI.2.2.2.2 with hN | ⟨v, s, bel, S, D, hV, -⟩
  · refine OP_no hI (-1) 1 (by decide) ?_ (fun τ hA => ?_)
    · rw [f_X11_couples, if_pos hk, hN.1.1, if_pos n0, ref_eq, bbd_s]; rfl
    · rw [(hN.ao hk hA).1.2, if_pos n0, no_eq, bbd_s]; rfl
  · refine OP hI (nI (cpl (cmr v) (v 4) (v 4) (everyone (v 4)))) 0 (by decide) ?_ (fun τ hA hz => ?_)
    · obtain ⟨⟨hi, hm⟩, ⟨w, wt, we, wr⟩, mv, ⟨ch', cf, ct, ce, cr', ft⟩, ⟨hs, h0, cn', mn⟩, ⟨cb, mb⟩, ⟨hS, hS1, hS2⟩, hD, hD1, hD2⟩ := hV
      obtain ⟨τ2, d1, d2, -⟩ := s_pair w wt hk cf ct
      refine ⟨τ2, ?_, d2.mono B64_Bx⟩
      rw [f_X11_couples, if_pos hk, hi, if_neg n1, if_pos hk, d1, bbd_s, ans_eq, bbd_s]
      rfl
    · obtain ⟨⟨hi, hm⟩, ⟨w, wt, we, wr⟩, mv, ⟨ch', cf, ct, ce, cr', ft⟩, ⟨hs, h0, cn', mn⟩, ⟨cb, mb⟩, ⟨hS, hS1, hS2⟩, hD, hD1, hD2⟩ := hV.ao hk hA
      obtain ⟨τ2, d1, d2, -⟩ := s_seekCouples w wt mv
      refine ⟨τ2, ?_, d2.mono BC_Bn2, by rw [d2.1 92 11 (by unfold BC; omega)]; exact hz⟩
      rw [hm, if_neg n1, d1, bbd_s]
theorem o_settled {σ : bSto} (hI : INV σ) : ∃ r σ1 σ2, f_X11_settled σ = some (r, σ1) ∧ f_X12_settled σ1 = some (r, σ2) ∧ INV σ2 := by
  simp only [f_X12_settled]
  have hk := hI.2.2.1.1
  rcases hI.2.2.2.2 with hN | ⟨v, s, bel, S, D, hV, -⟩
  · refine OP_no hI (-1) 1 (by decide) ?_ (fun τ hA => ?_)
    · rw [f_X11_settled, if_pos hk, hN.1.1, if_pos n0, ref_eq, bbd_s]; rfl
    · rw [(hN.ao hk hA).1.2, if_pos n0, no_eq, bbd_s]; rfl
  · refine OP hI (stl v 21 0 bel) 0 (by decide) ?_ (fun τ hA hz => ?_)
    · obtain ⟨⟨hi, hm⟩, ⟨w, wt, we, wr⟩, mv, ⟨ch', cf, ct, ce, cr', ft⟩, ⟨hs, h0, cn', mn⟩, ⟨cb, mb⟩, ⟨hS, hS1, hS2⟩, hD, hD1, hD2⟩ := hV
      obtain ⟨τ1, b1, b2', b3⟩ := c_begin σ
      obtain ⟨τ2, d1, d2⟩ := s_restL w hk 21 0 bFU bel τ1 (by decide) (by show 21 < 100000; decide) (cf.ao b2' (fun a k z => by have := Bc_far hk a k z; omega)) (ce.ao b2' (fun a k z => by have := Bc_far hk a k z; omega)) (fun q hq => by rw [b3 q hq, cb q hq])
      refine ⟨τ2, ?_, (b2'.trans d2).mono Bc_Bx⟩
      have d1' : f_X1_roundsToRest (σ.2.2 0 7 + 7) τ1 = some (stl v 21 0 bel, τ2) := d1
      rw [f_X11_settled, if_pos hk, hi, if_neg n1, b1, bbv_s, rf b2', if_pos hk, d1', bbd_s, ans_eq, bbd_s]
      rfl
    · obtain ⟨⟨hi, hm⟩, ⟨w, wt, we, wr⟩, mv, ⟨ch', cf, ct, ce, cr', ft⟩, ⟨hs, h0, cn', mn⟩, ⟨cb, mb⟩, ⟨hS, hS1, hS2⟩, hD, hD1, hD2⟩ := hV.ao hk hA
      have hA : AO Bm τ (bA τ 106 (fun k => if 0 ≤ k ∧ k < 0 + 7 then τ.1 97 (7 + (k - 0)) else τ.1 106 k)) := AO.setA τ _ (fun k => Or.inr (Or.inl rfl))
      obtain ⟨τ2, d1, d2⟩ := s_settledM w we 21 0 bFU bel (bA τ 106 (fun k => if 0 ≤ k ∧ k < 0 + 7 then τ.1 97 (7 + (k - 0)) else τ.1 106 k)) (by decide) (by show 21 < 100000; decide) (mv.ao hA Bm95) (fun q hq => by rw [bA_eq]; show (if 0 ≤ q ∧ q < 0 + 7 then τ.1 97 (7 + (q - 0)) else τ.1 106 q) = _; rw [if_pos (by omega), Nat.sub_zero]; exact mb q hq)
      refine ⟨τ2, ?_, (hA.trans d2).mono Bm_Bn2, by rw [(hA.trans d2).1 92 11 (by unfold Bm; omega)]; exact hz⟩
      rw [hm, if_neg n1, show (7 : Int32) = nI 7 from rfl, show (0 : Int32) = nI 0 from rfl, s_copy (by decide) (by decide) (by decide) (by decide) (by decide), bbv_s]
      exact d1
theorem o_won {σ : bSto} (hI : INV σ) : ∃ r σ1 σ2, f_X11_won σ = some (r, σ1) ∧ f_X12_won σ1 = some (r, σ2) ∧ INV σ2 := by
  simp only [f_X12_won]
  have hk := hI.2.2.1.1
  rcases hI.2.2.2.2 with hN | ⟨v, s, bel, S, D, hV, -⟩
  · refine OP_no hI (-1) 1 (by decide) ?_ (fun τ hA => ?_)
    · rw [f_X11_won, if_pos hk, hN.1.1, if_pos n0, ref_eq, bbd_s]; rfl
    · rw [(hN.ao hk hA).1.2, if_pos n0, no_eq, bbd_s]; rfl
  · refine OP hI (sv (won v bel)) 0 (by decide) ?_ (fun τ hA hz => ?_)
    · obtain ⟨⟨hi, hm⟩, ⟨w, wt, we, wr⟩, mv, ⟨ch', cf, ct, ce, cr', ft⟩, ⟨hs, h0, cn', mn⟩, ⟨cb, mb⟩, ⟨hS, hS1, hS2⟩, hD, hD1, hD2⟩ := hV
      obtain ⟨τ2, d1, d2⟩ := s_wonC (bel := bel) w hk cf ce cb
      refine ⟨τ2, ?_, d2.mono Bc_Bx⟩
      rw [f_X11_won, if_pos hk, hi, if_neg n1, if_pos hk, d1, bbd_s, ans_eq, bbd_s]
      rfl
    · obtain ⟨⟨hi, hm⟩, ⟨w, wt, we, wr⟩, mv, ⟨ch', cf, ct, ce, cr', ft⟩, ⟨hs, h0, cn', mn⟩, ⟨cb, mb⟩, ⟨hS, hS1, hS2⟩, hD, hD1, hD2⟩ := hV.ao hk hA
      obtain ⟨τ2, d1, d2⟩ := s_wonM w we (2 ^ v 4) 0 bFU 0 τ (by omega) (by have := p2_le7 w.2.2.2.2.1; show _ < 100000; omega) (Nat.le_refl _) mv mb
      refine ⟨τ2, ?_, d2.mono Bm_Bn2, by rw [d2.1 92 11 (by unfold Bm; omega)]; exact hz⟩
      have h7 := w.2.2.2.2.1
      rw [hm, if_neg n1, blet, mv.at 4 (by decide) (by decide), low_all ⟨v 4, by omega⟩, show (-2 : Int32) = sv 0 from rfl, show (0 : Int32) = nI 0 from rfl, d1]
      rfl
theorem o_prophet {σ : bSto} (hI : INV σ) : ∃ r σ1 σ2, f_X11_prophet σ = some (r, σ1) ∧ f_X12_prophet σ1 = some (r, σ2) ∧ INV σ2 := by
  simp only [f_X12_prophet]
  have hk := hI.2.2.1.1
  rcases hI.2.2.2.2 with hN | ⟨v, s, bel, S, D, hV, -⟩
  · refine OP_no hI (-1) 1 (by decide) ?_ (fun τ hA => ?_)
    · rw [f_X11_prophet, if_pos hk, hN.1.1, if_pos n0, ref_eq, bbd_s]; rfl
    · rw [(hN.ao hk hA).1.2, if_pos n0, no_eq, bbd_s]; rfl
  · refine OP hI (sv (prp v bel)) 0 (by decide) ?_ (fun τ hA hz => ?_)
    · obtain ⟨⟨hi, hm⟩, ⟨w, wt, we, wr⟩, mv, ⟨ch', cf, ct, ce, cr', ft⟩, ⟨hs, h0, cn', mn⟩, ⟨cb, mb⟩, ⟨hS, hS1, hS2⟩, hD, hD1, hD2⟩ := hV
      obtain ⟨τ2, d1, d2⟩ := s_preacher (bel := bel) w hk cf ce cb
      refine ⟨τ2, ?_, d2.mono Bc_Bx⟩
      rw [f_X11_prophet, if_pos hk, hi, if_neg n1, if_pos hk, d1, bbd_s, ans_eq, bbd_s]
      rfl
    · obtain ⟨⟨hi, hm⟩, ⟨w, wt, we, wr⟩, mv, ⟨ch', cf, ct, ce, cr', ft⟩, ⟨hs, h0, cn', mn⟩, ⟨cb, mb⟩, ⟨hS, hS1, hS2⟩, hD, hD1, hD2⟩ := hV.ao hk hA
      obtain ⟨τ2, d1, d2⟩ := s_prophetM w we (v 4) 0 bFU 0 τ (by omega) (by have := w.2.2.2.2.1; show _ < 100000; omega) mv mb
      refine ⟨τ2, ?_, d2.mono Bm_Bn2, by rw [d2.1 92 11 (by unfold Bm; omega)]; exact hz⟩
      have d1' : f_X12_prophet_L24 bFU (-2 : Int32) (-1 : Int32) (0 : Int32) τ = some (sv (prp v bel), τ2) := d1
      rw [hm, if_neg n1, d1']
      rfl
