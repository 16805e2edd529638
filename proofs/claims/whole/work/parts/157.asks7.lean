/-! ===== calls that ask: coal, sandwiches, years (own work) ===== -/
theorem o_coal {σ : bSto} (hI : INV σ) (x y : Int32) : ∃ r σ1 σ2, f_X11_coal x y σ = some (r, σ1) ∧ f_X12_coal x y σ1 = some (r, σ2) ∧ INV σ2 := by
  simp only [f_X12_coal]
  have hk := hI.2.2.1.1
  rcases hI.2.2.2.2 with hN | ⟨v, s, bel, S, D, hV, -⟩
  · refine OP_no hI (-1) 1 (by decide) ?_ (fun τ hA => ?_)
    · rw [f_X11_coal, if_pos hk, hasB_N hN, bbd_s, if_pos rfl, ref_eq, bbd_s]; rfl
    · rw [isB_N (hN.ao hk hA), bbd_s, if_pos rfl, no_eq, bbd_s]; rfl
  · by_cases hx : ∃ b, b < v 3 ∧ x = nI b
    · have hx' := hx
      obtain ⟨b, hb, rfl⟩ := hx
      by_cases hy : ∃ d, d ≤ 999 ∧ y = nI d
      · obtain ⟨m, hm', rfl⟩ := hy
        refine OP hI (nI (coa v s m b)) 0 (by decide) ⟨σ, ?_, AO.refl _ _⟩ (fun τ hA hz => ?_)
        · rw [f_X11_coal, if_pos hk, hasB_V hV, decide_eq_true hx', bbd_s, if_neg b1, rg_y (N := 999) (y := 999) hm' (by omega) rfl, if_pos hk]
          obtain ⟨⟨hi, hm⟩, ⟨w, wt, we, wr⟩, mv, ⟨ch', cf, ct, ce, cr', ft⟩, ⟨hs, h0, cn', mn⟩, ⟨cb, mb⟩, ⟨hS, hS1, hS2⟩, hD, hD1, hD2⟩ := hV
          rw [s_coalOf w ch' cn' hs hb hm', bbd_s, ans_eq, bbd_s]; rfl
        · rw [isB_V (hV.ao hk hA), decide_eq_true hx', bbd_s, if_neg b1, in_y (N := 999) (y := 999) hm' (by omega) rfl, bbd_s, if_neg (show ¬ (1 : Int32) = 0 by decide)]
          obtain ⟨⟨hi, hm⟩, ⟨w, wt, we, wr⟩, mv, ⟨ch', cf, ct, ce, cr', ft⟩, ⟨hs, h0, cn', mn⟩, ⟨cb, mb⟩, ⟨hS, hS1, hS2⟩, hD, hD1, hD2⟩ := hV.ao hk hA
          have hb6 := w.2.2.2.1.2
          have hw := wall_lt w s (v 3) hb6
          have hw' : wall v s ≤ 2520 := hw
          rw [show (0 : Int32) = nI 0 from rfl, s_coalAllM w mv mn hs h0, bl3]
          (try dsimp only)
          by_cases z : wall v s = 0
          · refine ⟨τ, ?_, AO.refl _ _, hz⟩
            rw [z, if_pos rfl, coa, if_pos z]
          · obtain ⟨τ1, p1, p2, p3⟩ := s_coalPartsM w hs h0 (nI b) hm' (by omega) (v 3) 0 bFU τ (by omega) (by show _ < 100000; omega) mv mn (fun j hj => by omega)
            have hcl := clf_lt v s m (by omega) (by omega)
            obtain ⟨τ2, q1, q2, q3⟩ := s_coalGive w hs h0 (nI b) hm' (by omega) (clf v s m) bFU (fun _ => false) τ1 (by show _ < 100000; omega) (by rw [show (fun i => ((fun _ => false : Nat → Bool) i).toNat) = fun _ => 0 from rfl, sm_zero]; omega) (fun i j _ _ z => by cases z) (mv.ao p2 (fun k => by unfold B103; omega)) (mn.ao p2 (fun k => by unfold B103; omega)) (fun j hj => by rw [p3 j hj]; rfl)
            refine ⟨τ2, ?_, (p2.trans q2).mono (fun a k z => by unfold B103 at z; unfold Bn2; omega), by rw [(p2.trans q2).1 92 11 (by unfold B103; omega)]; exact hz⟩
            have em : msk (fun _ => false) (v 3) = 0 := by
              have h := msk_ext (c := fun _ => false) (n := 0) (v 3) (Nat.zero_le _) (fun _ _ _ => rfl)
              exact h
            rw [em] at q1
            have p1' : f_X12_coal_L78 bFU (nI b) (nI m) (nI (wall v s)) (nI m) (nI 0) τ = some (nI b, nI m, nI (wall v s), nI (clf v s m), τ1) := p1
            rw [if_neg (show ¬ nI (wall v s) = nI 0 from nI_ne0 (by omega) (by omega)), p1', bl4]
            (try dsimp only)
            rw [q1, bl1]
            (try dsimp only)
            rw [if_neg (show ¬ (nI b < nI 0 ∨ 6 ≤ (nI b).toNatClampNeg) from nI_in (by omega) (by omega)), nI_clamp (by omega), q3 b hb]
      · refine OP_no hI (-1) 2 (by decide) ?_ (fun τ hA => ?_)
        · rw [f_X11_coal, if_pos hk, hasB_V hV, decide_eq_true hx', bbd_s, if_neg b1, rg_n (N := 999) (y := 999) hy (by omega) rfl, f_X11_coal_J31, ref_eq, bbd_s]; rfl
        · rw [isB_V (hV.ao hk hA), decide_eq_true hx', bbd_s, if_neg b1, in_n (N := 999) (y := 999) hy (by omega) rfl, bbd_s, if_pos rfl, no_eq, bbd_s]; rfl
    · refine OP_no hI (-1) 1 (by decide) ?_ (fun τ hA => ?_)
      · rw [f_X11_coal, if_pos hk, hasB_V hV, decide_eq_false hx, bbd_s, if_pos b0, ref_eq, bbd_s]; rfl
      · rw [isB_V (hV.ao hk hA), decide_eq_false hx, bbd_s, if_pos b0, no_eq, bbd_s]; rfl
theorem o_eats {σ : bSto} (hI : INV σ) (x y : Int32) : ∃ r σ1 σ2, f_X11_eats x y σ = some (r, σ1) ∧ f_X12_eats x y σ1 = some (r, σ2) ∧ INV σ2 := by
  simp only [f_X12_eats]
  have hk := hI.2.2.1.1
  rcases hI.2.2.2.2 with hN | ⟨v, s, bel, S, D, hV, -⟩
  · refine OP_no hI (-1) 1 (by decide) ?_ (fun τ hA => ?_)
    · rw [f_X11_eats, if_pos hk, hasP_N hN, bbd_s, if_pos rfl, ref_eq, bbd_s]; rfl
    · rw [isP_N (hN.ao hk hA), bbd_s, if_pos rfl, no_eq, bbd_s]; rfl
  · by_cases hx : ∃ b, b < v 4 ∧ x = nI b
    · have hx' := hx
      obtain ⟨p, hp, rfl⟩ := hx
      by_cases hy : ∃ d, d ≤ 99 ∧ y = nI d
      · obtain ⟨d, hd, rfl⟩ := hy
        refine OP_yes hI (nI (etn v S p d)) ?_ (fun τ hA => ?_)
        · rw [f_X11_eats, if_pos hk, hasP_V hV, decide_eq_true hx', bbd_s, if_neg b1, rg_y (N := 99) (y := 99) hd (by omega) rfl, if_pos hk]
          obtain ⟨⟨hi, hm⟩, ⟨w, wt, we, wr⟩, mv, ⟨ch', cf, ct, ce, cr', ft⟩, ⟨hs, h0, cn', mn⟩, ⟨cb, mb⟩, ⟨hS, hS1, hS2⟩, hD, hD1, hD2⟩ := hV
          rw [s_eatersAhead w cf hp, bbd_s, show (0 : Int32) = nI 0 from rfl, s_eatsC w rfl hk cf hS1 hS hd hp]
          rfl
        · rw [isP_V (hV.ao hk hA), decide_eq_true hx', bbd_s, if_neg b1, in_y (N := 99) (y := 99) hd (by omega) rfl, bbd_s, if_neg (show ¬ (1 : Int32) = 0 by decide)]
          obtain ⟨⟨hi, hm⟩, ⟨w, wt, we, wr⟩, mv, ⟨ch', cf, ct, ce, cr', ft⟩, ⟨hs, h0, cn', mn⟩, ⟨cb, mb⟩, ⟨hS, hS1, hS2⟩, hD, hD1, hD2⟩ := hV.ao hk hA
          rw [blet, hS2, show (0 : Int32) = nI 0 from rfl, s_eatsM w mv hS hd hp]
          rfl
      · refine OP_no hI (-1) 2 (by decide) ?_ (fun τ hA => ?_)
        · rw [f_X11_eats, if_pos hk, hasP_V hV, decide_eq_true hx', bbd_s, if_neg b1, rg_n (N := 99) (y := 99) hy (by omega) rfl, f_X11_eats_J30, ref_eq, bbd_s]; rfl
        · rw [isP_V (hV.ao hk hA), decide_eq_true hx', bbd_s, if_neg b1, in_n (N := 99) (y := 99) hy (by omega) rfl, bbd_s, if_pos rfl, no_eq, bbd_s]; rfl
    · refine OP_no hI (-1) 1 (by decide) ?_ (fun τ hA => ?_)
      · rw [f_X11_eats, if_pos hk, hasP_V hV, decide_eq_false hx, bbd_s, if_pos b0, ref_eq, bbd_s]; rfl
      · rw [isP_V (hV.ao hk hA), decide_eq_false hx, bbd_s, if_pos b0, no_eq, bbd_s]; rfl
theorem ay_y {x n : Nat} (hx : x ≤ 65536) (hn : n ≤ 90) (σ : bSto) : f_X11_areYears (nI x) (nI n) σ = some ((1 : Int32), σ) := by
  rw [f_X11_areYears, if_neg (nI_pos (by omega)), if_neg (show ¬ (65537 : Int32) ≤ nI x from nI_ge (a := x) (b := 65537) (by omega) (by omega)), if_neg (nI_pos (by omega)), if_neg (show ¬ (90 : Int32) < nI n from nI_nlt (a := 90) hn (by omega))]
theorem ay_n {x n : Int32} (h : ¬ ((∃ d, d ≤ 65536 ∧ x = nI d) ∧ ∃ d, d ≤ 90 ∧ n = nI d)) (σ : bSto) : f_X11_areYears x n σ = some ((0 : Int32), σ) := by
  rw [f_X11_areYears]
  by_cases h1 : x < 0
  · rw [if_pos h1]; rfl
  · rw [if_neg h1]
    obtain ⟨j, hj, rfl⟩ := nI_of h1
    by_cases h2 : (65537 : Int32) ≤ nI j
    · rw [if_pos h2]; rfl
    · rw [if_neg h2]
      have hj2 : j ≤ 65536 := by
        by_cases z : 65537 ≤ j
        · exact absurd (show (65537 : Int32) ≤ nI j from nI_le (a := 65537) z hj) h2
        · omega
      by_cases h3 : n < 0
      · rw [if_pos h3]; rfl
      · rw [if_neg h3, if_pos (show (90 : Int32) < n from Int32.not_le.mp (fun z => h ⟨⟨j, hj2, rfl⟩, rng_of (N := 90) h3 (by omega) z⟩))]
        rfl
theorem m_years {v s : Nat → Nat} {σ : bSto} (w : WF v) (hv : MV v σ) (mn : MN 97 s σ) (hs : ∀ p, s p ≤ v 3) (h0 : ∀ p, v 4 ≤ p → s p = 0) (h4 : 0 < v 4) {x N : Nat} (hx : x ≤ 65536) (hN : N ≤ 90) {o : Int32} (ho : ¬ o = 0) : ∃ τ, f_X12_yearsWhy o (nI x) (nI N) σ = some ((0 : Int32), τ) ∧ AO B108 σ τ ∧ MN 108 (yr v N x s) τ ∧ ∀ q, q < v 4 → τ.1 109 q = nI (yrc v q N x s) := by
  have h7 := w.2.2.2.2.1
  have hA : AO B108 σ (bA σ 108 (fun k => if 0 ≤ k ∧ k < 0 + 7 then σ.1 97 (0 + (k - 0)) else σ.1 108 k)) := AO.setA σ _ (fun k => Or.inr (Or.inl rfl))
  obtain ⟨τ1, p1, p2, p3⟩ := s_often0 (nI x) (nI N) 7 0 bFU (bA σ 108 (fun k => if 0 ≤ k ∧ k < 0 + 7 then σ.1 97 (0 + (k - 0)) else σ.1 108 k)) (by decide) (by show 7 < 100000; decide) (fun q hq => by omega)
  have p2' : AO B108 σ τ1 := hA.trans (p2.mono (fun a k z => Or.inr z))
  obtain ⟨τ2, q1, q2, q3, q4⟩ := s_yearsL w h4 hN N 0 bFU x s (fun _ => 0) τ1 (by omega) (by show _ < 100000; omega) (by omega) hs h0 (hv.ao p2' (fun k => by unfold B108; omega)) (fun q hq => by
    rw [p2.1 108 q (by show ¬ (108 : Nat) = 109; decide), bA_eq]
    show (if 0 ≤ q ∧ q < 0 + 7 then σ.1 97 (0 + (q - 0)) else σ.1 108 q) = _
    rw [if_pos (by omega), show 0 + (q - 0) = q by omega]
    exact mn q hq) (fun q hq => p3 q (by omega))
  refine ⟨τ2, ?_, p2'.trans q2, q3, fun q hq => by rw [q4 q hq, Nat.zero_add]⟩
  rw [f_X12_yearsWhy, if_neg ho, in_y (N := 65536) (y := 65536) hx (by omega) rfl, bbd_s, if_neg (show ¬ (1 : Int32) = 0 by decide), in_y (N := 90) (y := 90) hN (by omega) rfl, bbd_s, if_neg (show ¬ (1 : Int32) = 0 by decide), show (0 : Int32) = nI 0 from rfl, show (7 : Int32) = nI 7 from rfl, s_copy (by decide) (by decide) (by decide) (by decide) (by decide), bbv_s, p1, bl2]
  (try dsimp only)
  rw [q1]
  rfl
theorem m_yearsN {x n o : Int32} {σ : bSto} (ho : ¬ o = 0) (h : ¬ ((∃ d, d ≤ 65536 ∧ x = nI d) ∧ ∃ d, d ≤ 90 ∧ n = nI d)) : f_X12_yearsWhy o x n σ = some ((2 : Int32), σ) := by
  rw [f_X12_yearsWhy, if_neg ho]
  by_cases hx : ∃ d, d ≤ 65536 ∧ x = nI d
  · obtain ⟨d, hd, rfl⟩ := hx
    rw [in_y (N := 65536) (y := 65536) hd (by omega) rfl, bbd_s, if_neg (show ¬ (1 : Int32) = 0 by decide), in_n (N := 90) (y := 90) (fun z => h ⟨⟨d, hd, rfl⟩, z⟩) (by omega) rfl, bbd_s, if_pos rfl]
  · rw [in_n (N := 65536) (y := 65536) hx (by omega) rfl, bbd_s, if_pos rfl]
theorem yr_hs {v : Nat → Nat} (w : WF v) : ∀ k x (s : Nat → Nat), (∀ p, s p ≤ v 3) → ∀ p, yr v k x s p ≤ v 3
  | 0, _, _, h => h
  | k + 1, x, s, h => by
    rw [yr]
    exact yr_hs w k _ _ (rsd_hs h (Nat.mod_lt _ w.2.2.2.1.1))
theorem B33_Bx : ∀ a k, B33 a k → Bx a k := fun a k h => by unfold B33 at h; unfold Bx; omega
theorem B108_Bn2 : ∀ a k, B108 a k → Bn2 a k := fun a k h => by unfold B108 at h; unfold Bn2; omega
theorem o_happy {σ : bSto} (hI : INV σ) (x y z : Int32) : ∃ r σ1 σ2, f_X11_happy x y z σ = some (r, σ1) ∧ f_X12_happy x y z σ1 = some (r, σ2) ∧ INV σ2 := by
  simp only [f_X12_happy]
  have hk := hI.2.2.1.1
  rcases hI.2.2.2.2 with hN | ⟨v, s, bel, S, D, hV, -⟩
  · refine OP_no hI (-1) 1 (by decide) ?_ (fun τ hA => ?_)
    · rw [f_X11_happy, if_pos hk, hasP_N hN, bbd_s, if_pos rfl, ref_eq, bbd_s]; rfl
    · rw [isP_N (hN.ao hk hA), bbd_s, f_X12_yearsWhy, if_pos rfl, bbd_s, if_neg (show ¬ (1 : Int32) = 0 by decide), no_eq, bbd_s]; rfl
  · by_cases hx : ∃ b, b < v 4 ∧ x = nI b
    · have hx' := hx
      obtain ⟨p, hp, rfl⟩ := hx
      have h7 := hV.2.1.1.2.2.2.2.1
      by_cases hy : (∃ d, d ≤ 65536 ∧ y = nI d) ∧ ∃ d, d ≤ 90 ∧ z = nI d
      · obtain ⟨⟨d, hd, rfl⟩, N, hN, rfl⟩ := hy
        refine OP hI (nI (yrc v p N d s)) 0 (by decide) ?_ (fun τ hA hz => ?_)
        · have e1 := hasP_V hV (nI p)
          rw [decide_eq_true hx'] at e1
          obtain ⟨⟨hi, hm⟩, ⟨w, wt, we, wr⟩, mv, ⟨ch', cf, ct, ce, cr', ft⟩, ⟨hs, h0, cn', mn⟩, ⟨cb, mb⟩, ⟨hS, hS1, hS2⟩, hD, hD1, hD2⟩ := hV
          obtain ⟨τ2, q1, q2, q3⟩ := s_liveYears w hk hp hN (show d < 65537 by omega) rfl ch' cf cn' hs
          refine ⟨τ2, ?_, q2.mono B33_Bx⟩
          rw [f_X11_happy, if_pos hk, e1, bbd_s, if_neg b1, ay_y hd hN, bbd_s, if_neg (show ¬ (1 : Int32) = 0 by decide), q1, bbd_s, ans_eq, bbd_s]
          rfl
        · have e1 := isP_V (hV.ao hk hA) (nI p)
          rw [decide_eq_true hx'] at e1
          obtain ⟨⟨hi, hm⟩, ⟨w, wt, we, wr⟩, mv, ⟨ch', cf, ct, ce, cr', ft⟩, ⟨hs, h0, cn', mn⟩, ⟨cb, mb⟩, ⟨hS, hS1, hS2⟩, hD, hD1, hD2⟩ := hV.ao hk hA
          obtain ⟨τ2, q1, q2, q3, q4⟩ := m_years w mv mn hs h0 (by omega) hd hN b1
          refine ⟨τ2, ?_, q2.mono B108_Bn2, by rw [q2.1 92 11 (by unfold B108; omega)]; exact hz⟩
          rw [e1, bbd_s, q1, bbd_s, if_pos rfl]
          simp only [nI_clamp (show p < 2 ^ 31 by omega), fcd (show p < 7 by omega) (by omega), if_false]
          rw [q4 p hp]
      · refine OP_no hI (-1) 2 (by decide) ?_ (fun τ hA => ?_)
        · rw [f_X11_happy, if_pos hk, hasP_V hV, decide_eq_true hx', bbd_s, if_neg b1, ay_n hy, bbd_s, if_pos rfl, ref_eq, bbd_s]; rfl
        · rw [isP_V (hV.ao hk hA), decide_eq_true hx', bbd_s, m_yearsN b1 hy, bbd_s, if_neg (show ¬ (2 : Int32) = 0 by decide), no_eq, bbd_s]; rfl
    · refine OP_no hI (-1) 1 (by decide) ?_ (fun τ hA => ?_)
      · rw [f_X11_happy, if_pos hk, hasP_V hV, decide_eq_false hx, bbd_s, if_pos b0, ref_eq, bbd_s]; rfl
      · rw [isP_V (hV.ao hk hA), decide_eq_false hx, bbd_s, f_X12_yearsWhy, if_pos b0, bbd_s, if_neg (show ¬ (1 : Int32) = 0 by decide), no_eq, bbd_s]; rfl
theorem o_yearsAt {σ : bSto} (hI : INV σ) (x y z : Int32) : ∃ r σ1 σ2, f_X11_yearsAt x y z σ = some (r, σ1) ∧ f_X12_yearsAt x y z σ1 = some (r, σ2) ∧ INV σ2 := by
  simp only [f_X12_yearsAt]
  have hk := hI.2.2.1.1
  rcases hI.2.2.2.2 with hN | ⟨v, s, bel, S, D, hV, -⟩
  · refine OP_no hI (-1) 1 (by decide) ?_ (fun τ hA => ?_)
    · rw [f_X11_yearsAt, if_pos hk, hasP_N hN, bbd_s, if_pos rfl, ref_eq, bbd_s]; rfl
    · rw [isP_N (hN.ao hk hA), bbd_s, f_X12_yearsWhy, if_pos rfl, bbd_s, if_neg (show ¬ (1 : Int32) = 0 by decide), no_eq, bbd_s]; rfl
  · by_cases hx : ∃ b, b < v 4 ∧ x = nI b
    · have hx' := hx
      obtain ⟨p, hp, rfl⟩ := hx
      have h7 := hV.2.1.1.2.2.2.2.1
      by_cases hy : (∃ d, d ≤ 65536 ∧ y = nI d) ∧ ∃ d, d ≤ 90 ∧ z = nI d
      · obtain ⟨⟨d, hd, rfl⟩, N, hN, rfl⟩ := hy
        refine OP hI (sv (yr v N d s p)) 0 (by decide) ?_ (fun τ hA hz => ?_)
        · have e1 := hasP_V hV (nI p)
          rw [decide_eq_true hx'] at e1
          obtain ⟨⟨hi, hm⟩, ⟨w, wt, we, wr⟩, mv, ⟨ch', cf, ct, ce, cr', ft⟩, ⟨hs, h0, cn', mn⟩, ⟨cb, mb⟩, ⟨hS, hS1, hS2⟩, hD, hD1, hD2⟩ := hV
          obtain ⟨τ2, q1, q2, q3⟩ := s_liveYears w hk hp hN (show d < 65537 by omega) rfl ch' cf cn' hs
          refine ⟨τ2, ?_, q2.mono B33_Bx⟩
          rw [f_X11_yearsAt, if_pos hk, e1, bbd_s, if_neg b1, ay_y hd hN, bbd_s, if_neg (show ¬ (1 : Int32) = 0 by decide), q1, bbd_s]
          simp only [nI_clamp (show p < 2 ^ 31 by omega), fcd (show p < 7 by omega) (by omega), if_false]
          rw [q3 p (by omega), ans_eq, bbd_s]
          rfl
        · have e1 := isP_V (hV.ao hk hA) (nI p)
          rw [decide_eq_true hx'] at e1
          obtain ⟨⟨hi, hm⟩, ⟨w, wt, we, wr⟩, mv, ⟨ch', cf, ct, ce, cr', ft⟩, ⟨hs, h0, cn', mn⟩, ⟨cb, mb⟩, ⟨hS, hS1, hS2⟩, hD, hD1, hD2⟩ := hV.ao hk hA
          obtain ⟨τ2, q1, q2, q3, q4⟩ := m_years w mv mn hs h0 (by omega) hd hN b1
          refine ⟨τ2, ?_, q2.mono B108_Bn2, by rw [q2.1 92 11 (by unfold B108; omega)]; exact hz⟩
          rw [e1, bbd_s, q1, bbd_s, if_pos rfl]
          simp only [nI_clamp (show p < 2 ^ 31 by omega), fcd (show p < 7 by omega) (by omega), if_false]
          rw [q3 p (by omega)]
          exact seat_sv (by have := yr_hs w N d s hs p; have := w.2.2.2.1.2; omega) τ2
      · refine OP_no hI (-1) 2 (by decide) ?_ (fun τ hA => ?_)
        · rw [f_X11_yearsAt, if_pos hk, hasP_V hV, decide_eq_true hx', bbd_s, if_neg b1, ay_n hy, bbd_s, if_pos rfl, ref_eq, bbd_s]; rfl
        · rw [isP_V (hV.ao hk hA), decide_eq_true hx', bbd_s, m_yearsN b1 hy, bbd_s, if_neg (show ¬ (2 : Int32) = 0 by decide), no_eq, bbd_s]; rfl
    · refine OP_no hI (-1) 1 (by decide) ?_ (fun τ hA => ?_)
      · rw [f_X11_yearsAt, if_pos hk, hasP_V hV, decide_eq_false hx, bbd_s, if_pos b0, ref_eq, bbd_s]; rfl
      · rw [isP_V (hV.ao hk hA), decide_eq_false hx, bbd_s, f_X12_yearsWhy, if_pos b0, bbd_s, if_neg (show ¬ (1 : Int32) = 0 by decide), no_eq, bbd_s]; rfl
theorem o_years {σ : bSto} (hI : INV σ) (y z : Int32) : ∃ r σ1 σ2, f_X11_years y z σ = some (r, σ1) ∧ f_X12_years y z σ1 = some (r, σ2) ∧ INV σ2 := by
  simp only [f_X12_years]
  have hk := hI.2.2.1.1
  rcases hI.2.2.2.2 with hN | ⟨v, s, bel, S, D, hV, -⟩
  · refine OP_no hI (-1) 1 (by decide) ?_ (fun τ hA => ?_)
    · rw [f_X11_years, if_pos hk, hasP_N hN, bbd_s, if_pos rfl, ref_eq, bbd_s]; rfl
    · rw [(hN.ao hk hA).1.2, if_pos n0, f_X12_years_J25, f_X12_years_J26, f_X12_yearsWhy, if_pos rfl, bbd_s, if_neg (show ¬ (1 : Int32) = 0 by decide), no_eq, bbd_s]; rfl
  · have h7 := hV.2.1.1.2.2.2.2.1
    by_cases h4 : 0 < v 4
    · have hx' : ∃ p, p < v 4 ∧ (0 : Int32) = nI p := ⟨0, h4, rfl⟩
      by_cases hy : (∃ d, d ≤ 65536 ∧ y = nI d) ∧ ∃ d, d ≤ 90 ∧ z = nI d
      · obtain ⟨⟨d, hd, rfl⟩, N, hN, rfl⟩ := hy
        refine OP hI (nI (pop 8 (cmk v (yr v N d s) (v 2)))) 0 (by decide) ?_ (fun τ hA hz => ?_)
        · have e1 := hasP_V hV 0
          rw [decide_eq_true hx'] at e1
          obtain ⟨⟨hi, hm⟩, ⟨w, wt, we, wr⟩, mv, ⟨ch', cf, ct, ce, cr', ft⟩, ⟨hs, h0, cn', mn⟩, ⟨cb, mb⟩, ⟨hS, hS1, hS2⟩, hD, hD1, hD2⟩ := hV
          obtain ⟨τ2, q1, q2, q3⟩ := s_liveYears w hk h4 hN (show d < 65537 by omega) rfl ch' cf cn' hs
          have q1' : f_X11_liveYears (0 : Int32) (nI d) (nI N) σ = some (nI (yrc v 0 N d s), τ2) := q1
          have hh2 := ch'.ao q2 (fun a k z => by unfold B33 at z; have : σ.2.2 0 7 = 7 ∨ σ.2.2 0 7 = 69 := hk; omega)
          have hf2 := cf.ao q2 (fun a k z => by unfold B33 at z; have : σ.2.2 0 7 = 7 ∨ σ.2.2 0 7 = 69 := hk; omega)
          refine ⟨τ2, ?_, q2.mono B33_Bx⟩
          rw [f_X11_years, if_pos hk, e1, bbd_s, if_neg b1, ay_y hd hN, bbd_s, if_neg (show ¬ (1 : Int32) = 0 by decide), q1', bbd_s, rf q2, if_pos hk, if_pos hk, hh2.2.2.2.2.2.1, s_contentBits w hh2 hf2 q3 (yr_hs w N d s hs) w.2.2.1.2, bbd_s, s_bitc (cmk_lt w _ _), bbd_s, ans_eq, bbd_s]
          rfl
        · obtain ⟨⟨hi, hm⟩, ⟨w, wt, we, wr⟩, mv, ⟨ch', cf, ct, ce, cr', ft⟩, ⟨hs, h0, cn', mn⟩, ⟨cb, mb⟩, ⟨hS, hS1, hS2⟩, hD, hD1, hD2⟩ := hV.ao hk hA
          obtain ⟨τ2, q1, q2, q3, q4⟩ := m_years (o := 1) w mv mn hs h0 h4 hd hN (by decide)
          have mv2 := mv.ao q2 (fun k => by unfold B108; omega)
          refine ⟨τ2, ?_, q2.mono B108_Bn2, by rw [q2.1 92 11 (by unfold B108; omega)]; exact hz⟩
          rw [hm, if_neg n1, mv.at 4 (by decide) (by decide), if_neg (nI_nle h4 (by omega)), f_X12_years_J26, q1, bbd_s, if_pos rfl, mv2.at 2 (by decide) (by decide), s_contentOn w mv2 q3 (by decide) (yr_hs w N d s hs) w.2.2.1.2, bbd_s, s_ones (cmk_lt w _ _), bbd_s]
      · refine OP_no hI (-1) 2 (by decide) ?_ (fun τ hA => ?_)
        · rw [f_X11_years, if_pos hk, hasP_V hV, decide_eq_true hx', bbd_s, if_neg b1, ay_n hy, bbd_s, if_pos rfl, ref_eq, bbd_s]; rfl
        · rw [(hV.ao hk hA).1.2, if_neg n1, (hV.ao hk hA).2.2.1.at 4 (by decide) (by decide), if_neg (nI_nle h4 (by omega)), f_X12_years_J26, m_yearsN (o := 1) (by decide) hy, bbd_s, if_neg (show ¬ (2 : Int32) = 0 by decide), no_eq, bbd_s]; rfl
    · have hx : ¬ ∃ p, p < v 4 ∧ (0 : Int32) = nI p := by rintro ⟨p, hp, -⟩; omega
      refine OP_no hI (-1) 1 (by decide) ?_ (fun τ hA => ?_)
      · rw [f_X11_years, if_pos hk, hasP_V hV, decide_eq_false hx, bbd_s, if_pos b0, ref_eq, bbd_s]; rfl
      · rw [(hV.ao hk hA).1.2, if_neg n1, (hV.ao hk hA).2.2.1.at 4 (by decide) (by decide), show v 4 = 0 by omega, if_pos (show (nI 0 : Int32) ≤ 0 by decide), f_X12_years_J25, f_X12_years_J26, f_X12_yearsWhy, if_pos rfl, bbd_s, if_neg (show ¬ (1 : Int32) = 0 by decide), no_eq, bbd_s]; rfl
