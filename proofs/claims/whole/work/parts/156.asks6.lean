/-! ===== calls that ask of a bench, of a person; coal; sandwiches; years (own work) ===== -/
theorem s_personL {v : Nat → Nat} {σ : bSto} (w : WF v) (t : WFt v) (hv : MV v σ) {p : Nat} (hp : p < v 4) (x : Int32) : f_X12_person_L32 bFU (nI p) x (0 : Int32) (0 : Int32) σ = some (nI p, x, nI (tmk v p), σ) := by
  have hp7 : v 4 ≤ 7 := w.2.2.2.2.1
  have h : f_X12_person_L32 bFU (nI p) x (nI 0) (nI 0) σ = some (nI p, x, itr (fun q acc => if (!(q == p) && tow v p q) then acc ||| ((1 : Int32) <<< (nI q &&& 31)) else acc ||| 0) (v 4) 0 (nI 0), σ) := by
    refine lp_all (fun n i acc => f_X12_person_L32 n (nI p) x acc (nI i) σ) (v 4) (by omega) (fun acc => some (nI p, x, acc, σ)) _ (nI 0) ?_ ?_
    · intro n s
      show f_X12_person_L32 (n + 1) (nI p) x s (nI (v 4)) σ = _
      rw [f_X12_person_L32, hv.at 4 (by decide) (by decide), if_pos (Int32.le_refl _)]
    · intro n i s hi
      show f_X12_person_L32 (n + 1) (nI p) x s (nI i) σ = _
      rw [f_X12_person_L32, hv.at 4 (by decide) (by decide), s_isTownOf w t hv hp hi]
      simp only [bbd_s, blet, f_X12_person_J68_32, f_X12_person_J67_32]
      simp (disch := omega) only [q_lit, q_lt0, q_ge0, q_le, q_lt, q_eq, q_cl, q_add, q_mul, q_div, q_rem, b2_0n]
      rw [if_neg (by omega)]
      by_cases e : i = p
      · rw [if_pos e, show (!(i == p) && tow v p i) = false by rw [e, beq_self_eq_true]; rfl]
        rfl
      · rw [if_neg e, show (!(i == p) && tow v p i) = tow v p i by rw [show (i == p) = false by simp [e]]; rfl]
        cases tow v p i <;> rfl
  have h' := h
  rw [itr_msk (fun q => !(q == p) && tow v p q) _ (v 4) (by omega) (fun q m hq => by
    split
    · rfl
    · exact Int32.or_zero)] at h'
  exact h'
theorem o_bench {σ : bSto} (hI : INV σ) (x y : Int32) : ∃ r σ1 σ2, f_X11_bench x y σ = some (r, σ1) ∧ f_X12_bench x y σ1 = some (r, σ2) ∧ INV σ2 := by
  simp only [f_X12_bench]
  have hk := hI.2.2.1.1
  rcases hI.2.2.2.2 with hN | ⟨v, s, bel, S, D, hV, -⟩
  · refine OP_no hI (-1) 1 (by decide) ?_ (fun τ hA => ?_)
    · rw [f_X11_bench, if_pos hk, hasB_N hN, bbd_s, if_pos rfl, f_X11_bench_J26, ref_eq, bbd_s]; rfl
    · rw [isB_N (hN.ao hk hA), bbd_s, if_pos rfl, f_X12_bench_J22, no_eq, bbd_s]; rfl
  · by_cases hx : ∃ b, b < v 3 ∧ x = nI b
    · have hx' := hx
      obtain ⟨b, hb, rfl⟩ := hx
      have hb6 := hV.2.1.1.2.2.2.1.2
      by_cases hy : ∃ d, d ≤ 6 ∧ y = nI d
      · obtain ⟨d, hd, rfl⟩ := hy
        have hh := hV.2.2.2.1.1.2.2.2.2.2.2 b hb
        rcases (by omega : d = 0 ∨ d = 1 ∨ d = 2 ∨ d = 3 ∨ d = 4 ∨ d = 5 ∨ d = 6) with rfl | rfl | rfl | rfl | rfl | rfl | rfl
        · refine OP_yes hI (nI (v (11 + 4 * b))) ?_ (fun τ hA => ?_)
          · rw [f_X11_bench, if_pos hk, hasB_V hV, decide_eq_true hx', bbd_s, if_neg b1, if_neg (nI_pos (by omega)), if_pos (show (nI 0 : Int32) ≤ 6 by decide), if_pos (show (nI 0 : Int32) = 0 from rfl)]
            simp only [nI_clamp (show b < 2 ^ 31 by omega), fcd (show b < 6 by omega) (by omega), if_false]
            rw [hh.1, ans_eq, bbd_s]; rfl
          · rw [isB_V (hV.ao hk hA), decide_eq_true hx', bbd_s, if_neg b1, in_y (N := 6) (y := 6) hd (by omega) rfl, bbd_s, if_neg (show ¬ (1 : Int32) = 0 by decide)]
            obtain ⟨⟨hi, hm⟩, ⟨w, wt, we, wr⟩, mv, ⟨ch', cf, ct, ce, cr', ft⟩, ⟨hs, h0, cn', mn⟩, ⟨cb, mb⟩, ⟨hS, hS1, hS2⟩, hD, hD1, hD2⟩ := hV.ao hk hA
            have ei : (11 : Int32) + (4 : Int32) * nI b + nI 0 = nI (11 + 4 * b) := by rw [show (11 : Int32) = nI 11 from rfl, show (4 : Int32) = nI 4 from rfl, q_mul, q_add, q_add, show 11 + 4 * b + 0 = 11 + 4 * b by omega]
            rw [if_neg (show ¬ (4 : Int32) ≤ nI 0 by decide), ei]
            simp only [nI_clamp (show 11 + 4 * b < 2 ^ 31 by omega), fcd (show 11 + 4 * b < 406 by omega) (by omega), if_false]
            rw [mv.at (11 + 4 * b) (by omega) (by omega)]
        · refine OP_yes hI (nI (v (12 + 4 * b))) ?_ (fun τ hA => ?_)
          · rw [f_X11_bench, if_pos hk, hasB_V hV, decide_eq_true hx', bbd_s, if_neg b1, if_neg (nI_pos (by omega)), if_pos (show (nI 1 : Int32) ≤ 6 by decide), if_neg (show ¬ (nI 1 : Int32) = 0 by decide), if_pos (show (nI 1 : Int32) = 1 from rfl)]
            simp only [nI_clamp (show b < 2 ^ 31 by omega), fcd (show b < 6 by omega) (by omega), if_false]
            rw [hh.2.1, hh.2.2.1, show (10 : Int32) = nI 10 from rfl, q_mul, q_add, show 10 * (v (12 + 4 * b) / 10) + v (12 + 4 * b) % 10 = v (12 + 4 * b) by omega, ans_eq, bbd_s]; rfl
          · rw [isB_V (hV.ao hk hA), decide_eq_true hx', bbd_s, if_neg b1, in_y (N := 6) (y := 6) hd (by omega) rfl, bbd_s, if_neg (show ¬ (1 : Int32) = 0 by decide)]
            obtain ⟨⟨hi, hm⟩, ⟨w, wt, we, wr⟩, mv, ⟨ch', cf, ct, ce, cr', ft⟩, ⟨hs, h0, cn', mn⟩, ⟨cb, mb⟩, ⟨hS, hS1, hS2⟩, hD, hD1, hD2⟩ := hV.ao hk hA
            have ei : (11 : Int32) + (4 : Int32) * nI b + nI 1 = nI (12 + 4 * b) := by rw [show (11 : Int32) = nI 11 from rfl, show (4 : Int32) = nI 4 from rfl, q_mul, q_add, q_add, show 11 + 4 * b + 1 = 12 + 4 * b by omega]
            rw [if_neg (show ¬ (4 : Int32) ≤ nI 1 by decide), ei]
            simp only [nI_clamp (show 12 + 4 * b < 2 ^ 31 by omega), fcd (show 12 + 4 * b < 406 by omega) (by omega), if_false]
            rw [mv.at (12 + 4 * b) (by omega) (by omega)]
        · refine OP_yes hI (nI (v (13 + 4 * b))) ?_ (fun τ hA => ?_)
          · rw [f_X11_bench, if_pos hk, hasB_V hV, decide_eq_true hx', bbd_s, if_neg b1, if_neg (nI_pos (by omega)), if_pos (show (nI 2 : Int32) ≤ 6 by decide), if_neg (show ¬ (nI 2 : Int32) = 0 by decide), if_neg (show ¬ (nI 2 : Int32) = 1 by decide), if_pos (show (nI 2 : Int32) = 2 from rfl)]
            simp only [nI_clamp (show b < 2 ^ 31 by omega), fcd (show b < 6 by omega) (by omega), if_false]
            rw [hh.2.2.2.1, ans_eq, bbd_s]; rfl
          · rw [isB_V (hV.ao hk hA), decide_eq_true hx', bbd_s, if_neg b1, in_y (N := 6) (y := 6) hd (by omega) rfl, bbd_s, if_neg (show ¬ (1 : Int32) = 0 by decide)]
            obtain ⟨⟨hi, hm⟩, ⟨w, wt, we, wr⟩, mv, ⟨ch', cf, ct, ce, cr', ft⟩, ⟨hs, h0, cn', mn⟩, ⟨cb, mb⟩, ⟨hS, hS1, hS2⟩, hD, hD1, hD2⟩ := hV.ao hk hA
            have ei : (11 : Int32) + (4 : Int32) * nI b + nI 2 = nI (13 + 4 * b) := by rw [show (11 : Int32) = nI 11 from rfl, show (4 : Int32) = nI 4 from rfl, q_mul, q_add, q_add, show 11 + 4 * b + 2 = 13 + 4 * b by omega]
            rw [if_neg (show ¬ (4 : Int32) ≤ nI 2 by decide), ei]
            simp only [nI_clamp (show 13 + 4 * b < 2 ^ 31 by omega), fcd (show 13 + 4 * b < 406 by omega) (by omega), if_false]
            rw [mv.at (13 + 4 * b) (by omega) (by omega)]
        · refine OP_yes hI (nI (v (14 + 4 * b))) ?_ (fun τ hA => ?_)
          · rw [f_X11_bench, if_pos hk, hasB_V hV, decide_eq_true hx', bbd_s, if_neg b1, if_neg (nI_pos (by omega)), if_pos (show (nI 3 : Int32) ≤ 6 by decide), if_neg (show ¬ (nI 3 : Int32) = 0 by decide), if_neg (show ¬ (nI 3 : Int32) = 1 by decide), if_neg (show ¬ (nI 3 : Int32) = 2 by decide), if_pos (show (nI 3 : Int32) = 3 from rfl)]
            simp only [nI_clamp (show b < 2 ^ 31 by omega), fcd (show b < 6 by omega) (by omega), if_false]
            rw [hh.2.2.2.2, ans_eq, bbd_s]; rfl
          · rw [isB_V (hV.ao hk hA), decide_eq_true hx', bbd_s, if_neg b1, in_y (N := 6) (y := 6) hd (by omega) rfl, bbd_s, if_neg (show ¬ (1 : Int32) = 0 by decide)]
            obtain ⟨⟨hi, hm⟩, ⟨w, wt, we, wr⟩, mv, ⟨ch', cf, ct, ce, cr', ft⟩, ⟨hs, h0, cn', mn⟩, ⟨cb, mb⟩, ⟨hS, hS1, hS2⟩, hD, hD1, hD2⟩ := hV.ao hk hA
            have ei : (11 : Int32) + (4 : Int32) * nI b + nI 3 = nI (14 + 4 * b) := by rw [show (11 : Int32) = nI 11 from rfl, show (4 : Int32) = nI 4 from rfl, q_mul, q_add, q_add, show 11 + 4 * b + 3 = 14 + 4 * b by omega]
            rw [if_neg (show ¬ (4 : Int32) ≤ nI 3 by decide), ei]
            simp only [nI_clamp (show 14 + 4 * b < 2 ^ 31 by omega), fcd (show 14 + 4 * b < 406 by omega) (by omega), if_false]
            rw [mv.at (14 + 4 * b) (by omega) (by omega)]
        · refine OP_yes hI (nI (htv v b (v 2))) ?_ (fun τ hA => ?_)
          · rw [f_X11_bench, if_pos hk, hasB_V hV, decide_eq_true hx', bbd_s, if_neg b1, if_neg (nI_pos (by omega)), if_pos (show (nI 4 : Int32) ≤ 6 by decide), if_neg (show ¬ (nI 4 : Int32) = 0 by decide), if_neg (show ¬ (nI 4 : Int32) = 1 by decide), if_neg (show ¬ (nI 4 : Int32) = 2 by decide), if_neg (show ¬ (nI 4 : Int32) = 3 by decide), if_pos (show (nI 4 : Int32) = 4 from rfl)]
            obtain ⟨⟨hi, hm⟩, ⟨w, wt, we, wr⟩, mv, ⟨ch', cf, ct, ce, cr', ft⟩, ⟨hs, h0, cn', mn⟩, ⟨cb, mb⟩, ⟨hS, hS1, hS2⟩, hD, hD1, hD2⟩ := hV
            rw [ch'.2.2.2.2.2.1, s_heatAlone w ch' hb w.2.2.1.2, bbd_s, ans_eq, bbd_s]; rfl
          · rw [isB_V (hV.ao hk hA), decide_eq_true hx', bbd_s, if_neg b1, in_y (N := 6) (y := 6) hd (by omega) rfl, bbd_s, if_neg (show ¬ (1 : Int32) = 0 by decide)]
            obtain ⟨⟨hi, hm⟩, ⟨w, wt, we, wr⟩, mv, ⟨ch', cf, ct, ce, cr', ft⟩, ⟨hs, h0, cn', mn⟩, ⟨cb, mb⟩, ⟨hS, hS1, hS2⟩, hD, hD1, hD2⟩ := hV.ao hk hA
            rw [if_pos (show (4 : Int32) ≤ nI 4 by decide), if_pos (show (nI 4 : Int32) = 4 from rfl), s_heatOf w mv hb, bbd_s]
        · refine OP_yes hI (nI (wrm v s b)) ?_ (fun τ hA => ?_)
          · rw [f_X11_bench, if_pos hk, hasB_V hV, decide_eq_true hx', bbd_s, if_neg b1, if_neg (nI_pos (by omega)), if_pos (show (nI 5 : Int32) ≤ 6 by decide), if_neg (show ¬ (nI 5 : Int32) = 0 by decide), if_neg (show ¬ (nI 5 : Int32) = 1 by decide), if_neg (show ¬ (nI 5 : Int32) = 2 by decide), if_neg (show ¬ (nI 5 : Int32) = 3 by decide), if_neg (show ¬ (nI 5 : Int32) = 4 by decide), if_pos (show (nI 5 : Int32) = 5 from rfl)]
            obtain ⟨⟨hi, hm⟩, ⟨w, wt, we, wr⟩, mv, ⟨ch', cf, ct, ce, cr', ft⟩, ⟨hs, h0, cn', mn⟩, ⟨cb, mb⟩, ⟨hS, hS1, hS2⟩, hD, hD1, hD2⟩ := hV
            rw [if_pos hk, s_warmth w ch' cn' hs hb, bbd_s, ans_eq, bbd_s]; rfl
          · rw [isB_V (hV.ao hk hA), decide_eq_true hx', bbd_s, if_neg b1, in_y (N := 6) (y := 6) hd (by omega) rfl, bbd_s, if_neg (show ¬ (1 : Int32) = 0 by decide)]
            obtain ⟨⟨hi, hm⟩, ⟨w, wt, we, wr⟩, mv, ⟨ch', cf, ct, ce, cr', ft⟩, ⟨hs, h0, cn', mn⟩, ⟨cb, mb⟩, ⟨hS, hS1, hS2⟩, hD, hD1, hD2⟩ := hV.ao hk hA
            rw [if_pos (show (4 : Int32) ≤ nI 5 by decide), if_neg (show ¬ (nI 5 : Int32) = 4 by decide), if_pos (show (nI 5 : Int32) = 5 from rfl), s_warmthOf w mv mn hs h0 hb, bbd_s]
        · refine OP_yes hI (nI (smk s b)) ?_ (fun τ hA => ?_)
          · rw [f_X11_bench, if_pos hk, hasB_V hV, decide_eq_true hx', bbd_s, if_neg b1, if_neg (nI_pos (by omega)), if_pos (show (nI 6 : Int32) ≤ 6 by decide), if_neg (show ¬ (nI 6 : Int32) = 0 by decide), if_neg (show ¬ (nI 6 : Int32) = 1 by decide), if_neg (show ¬ (nI 6 : Int32) = 2 by decide), if_neg (show ¬ (nI 6 : Int32) = 3 by decide), if_neg (show ¬ (nI 6 : Int32) = 4 by decide), if_neg (show ¬ (nI 6 : Int32) = 5 by decide)]
            obtain ⟨⟨hi, hm⟩, ⟨w, wt, we, wr⟩, mv, ⟨ch', cf, ct, ce, cr', ft⟩, ⟨hs, h0, cn', mn⟩, ⟨cb, mb⟩, ⟨hS, hS1, hS2⟩, hD, hD1, hD2⟩ := hV
            rw [s_sitters cn' (seat7 w hs) (by omega), bbd_s, ans_eq, bbd_s]; rfl
          · rw [isB_V (hV.ao hk hA), decide_eq_true hx', bbd_s, if_neg b1, in_y (N := 6) (y := 6) hd (by omega) rfl, bbd_s, if_neg (show ¬ (1 : Int32) = 0 by decide)]
            obtain ⟨⟨hi, hm⟩, ⟨w, wt, we, wr⟩, mv, ⟨ch', cf, ct, ce, cr', ft⟩, ⟨hs, h0, cn', mn⟩, ⟨cb, mb⟩, ⟨hS, hS1, hS2⟩, hD, hD1, hD2⟩ := hV.ao hk hA
            rw [if_pos (show (4 : Int32) ≤ nI 6 by decide), if_neg (show ¬ (nI 6 : Int32) = 4 by decide), if_neg (show ¬ (nI 6 : Int32) = 5 by decide), s_onBench mn (by decide) (seat7 w hs) (mv.at 4 (by decide) (by decide)) w.2.2.2.2.1 h0 (by omega), bbd_s]
      · refine OP_no hI (-1) 1 (by decide) ?_ (fun τ hA => ?_)
        · rw [f_X11_bench, if_pos hk, hasB_V hV, decide_eq_true hx', bbd_s, if_neg b1, rg_n (N := 6) (y := 6) hy (by omega) rfl, f_X11_bench_J26, ref_eq, bbd_s]; rfl
        · rw [isB_V (hV.ao hk hA), decide_eq_true hx', bbd_s, if_neg b1, in_n (N := 6) (y := 6) hy (by omega) rfl, bbd_s, if_pos rfl, f_X12_bench_J22, no_eq, bbd_s]; rfl
    · refine OP_no hI (-1) 1 (by decide) ?_ (fun τ hA => ?_)
      · rw [f_X11_bench, if_pos hk, hasB_V hV, decide_eq_false hx, bbd_s, if_pos b0, f_X11_bench_J26, ref_eq, bbd_s]; rfl
      · rw [isB_V (hV.ao hk hA), decide_eq_false hx, bbd_s, if_pos b0, f_X12_bench_J22, no_eq, bbd_s]; rfl
theorem o_person {σ : bSto} (hI : INV σ) (x y : Int32) : ∃ r σ1 σ2, f_X11_person x y σ = some (r, σ1) ∧ f_X12_person x y σ1 = some (r, σ2) ∧ INV σ2 := by
  simp only [f_X12_person]
  have hk := hI.2.2.1.1
  rcases hI.2.2.2.2 with hN | ⟨v, s, bel, S, D, hV, -⟩
  · refine OP_no hI (-1000) 1 (by decide) ?_ (fun τ hA => ?_)
    · rw [f_X11_person, if_pos hk, hasP_N hN, bbd_s, if_pos rfl, f_X11_person_J25, refW_eq, bbd_s]; rfl
    · rw [isP_N (hN.ao hk hA), bbd_s, if_pos rfl, f_X12_person_J21, less_eq, bbd_s]; rfl
  · by_cases hx : ∃ p, p < v 4 ∧ x = nI p
    · have hx' := hx
      obtain ⟨p, hp, rfl⟩ := hx
      have h7 := hV.2.1.1.2.2.2.2.1
      by_cases hy : ∃ d, d ≤ 5 ∧ y = nI d
      · obtain ⟨d, hd, rfl⟩ := hy
        rcases (by omega : d = 0 ∨ d = 1 ∨ d = 2 ∨ d = 3 ∨ d = 4 ∨ d = 5) with rfl | rfl | rfl | rfl | rfl | rfl
        · refine OP_yes hI (nI (v (35 + 4 * p))) ?_ (fun τ hA => ?_)
          · rw [f_X11_person, if_pos hk, hasP_V hV, decide_eq_true hx', bbd_s, if_neg b1, if_neg (nI_pos (by omega)), if_pos (show (nI 0 : Int32) ≤ 5 by decide), if_pos (show (nI 0 : Int32) = 0 from rfl)]
            simp only [nI_clamp (show p < 2 ^ 31 by omega), fcd (show p < 7 by omega) (by omega), if_false]
            obtain ⟨⟨hi, hm⟩, ⟨w, wt, we, wr⟩, mv, ⟨ch', cf, ct, ce, cr', ft⟩, ⟨hs, h0, cn', mn⟩, ⟨cb, mb⟩, ⟨hS, hS1, hS2⟩, hD, hD1, hD2⟩ := hV
            rw [(cf.2.2.2 p hp).1, ans_eq, bbd_s]; rfl
          · rw [isP_V (hV.ao hk hA), decide_eq_true hx', bbd_s, if_neg b1, in_y (N := 5) (y := 5) hd (by omega) rfl, bbd_s, if_neg (show ¬ (1 : Int32) = 0 by decide)]
            obtain ⟨⟨hi, hm⟩, ⟨w, wt, we, wr⟩, mv, ⟨ch', cf, ct, ce, cr', ft⟩, ⟨hs, h0, cn', mn⟩, ⟨cb, mb⟩, ⟨hS, hS1, hS2⟩, hD, hD1, hD2⟩ := hV.ao hk hA
            rw [s_personL w wt mv hp, bl3]
            (try dsimp only)
            rw [if_pos (show (nI 0 : Int32) = 0 from rfl)]
            rw [s_kindOf mv (by omega), bbd_s]
        · refine OP_yes hI (nI (v (36 + 4 * p))) ?_ (fun τ hA => ?_)
          · rw [f_X11_person, if_pos hk, hasP_V hV, decide_eq_true hx', bbd_s, if_neg b1, if_neg (nI_pos (by omega)), if_pos (show (nI 1 : Int32) ≤ 5 by decide), if_neg (show ¬ (nI 1 : Int32) = 0 by decide), if_pos (show (nI 1 : Int32) = 1 from rfl)]
            simp only [nI_clamp (show p < 2 ^ 31 by omega), fcd (show p < 7 by omega) (by omega), if_false]
            obtain ⟨⟨hi, hm⟩, ⟨w, wt, we, wr⟩, mv, ⟨ch', cf, ct, ce, cr', ft⟩, ⟨hs, h0, cn', mn⟩, ⟨cb, mb⟩, ⟨hS, hS1, hS2⟩, hD, hD1, hD2⟩ := hV
            rw [(cf.2.2.2 p hp).2.1, ans_eq, bbd_s]; rfl
          · rw [isP_V (hV.ao hk hA), decide_eq_true hx', bbd_s, if_neg b1, in_y (N := 5) (y := 5) hd (by omega) rfl, bbd_s, if_neg (show ¬ (1 : Int32) = 0 by decide)]
            obtain ⟨⟨hi, hm⟩, ⟨w, wt, we, wr⟩, mv, ⟨ch', cf, ct, ce, cr', ft⟩, ⟨hs, h0, cn', mn⟩, ⟨cb, mb⟩, ⟨hS, hS1, hS2⟩, hD, hD1, hD2⟩ := hV.ao hk hA
            rw [s_personL w wt mv hp, bl3]
            (try dsimp only)
            rw [if_neg (show ¬ (nI 1 : Int32) = 0 by decide), if_pos (show (nI 1 : Int32) = 1 from rfl)]
            rw [s_coldOf mv (by omega), bbd_s]
        · refine OP_yes hI (sv (s p)) ?_ (fun τ hA => ?_)
          · rw [f_X11_person, if_pos hk, hasP_V hV, decide_eq_true hx', bbd_s, if_neg b1, if_neg (nI_pos (by omega)), if_pos (show (nI 2 : Int32) ≤ 5 by decide), if_neg (show ¬ (nI 2 : Int32) = 0 by decide), if_neg (show ¬ (nI 2 : Int32) = 1 by decide), if_pos (show (nI 2 : Int32) = 2 from rfl)]
            simp only [nI_clamp (show p < 2 ^ 31 by omega), fcd (show p < 7 by omega) (by omega), if_false]
            obtain ⟨⟨hi, hm⟩, ⟨w, wt, we, wr⟩, mv, ⟨ch', cf, ct, ce, cr', ft⟩, ⟨hs, h0, cn', mn⟩, ⟨cb, mb⟩, ⟨hS, hS1, hS2⟩, hD, hD1, hD2⟩ := hV
            rw [cn' p (by omega), ans_eq, bbd_s]; rfl
          · rw [isP_V (hV.ao hk hA), decide_eq_true hx', bbd_s, if_neg b1, in_y (N := 5) (y := 5) hd (by omega) rfl, bbd_s, if_neg (show ¬ (1 : Int32) = 0 by decide)]
            obtain ⟨⟨hi, hm⟩, ⟨w, wt, we, wr⟩, mv, ⟨ch', cf, ct, ce, cr', ft⟩, ⟨hs, h0, cn', mn⟩, ⟨cb, mb⟩, ⟨hS, hS1, hS2⟩, hD, hD1, hD2⟩ := hV.ao hk hA
            rw [s_personL w wt mv hp, bl3]
            (try dsimp only)
            rw [if_neg (show ¬ (nI 2 : Int32) = 0 by decide), if_neg (show ¬ (nI 2 : Int32) = 1 by decide), if_pos (show (nI 2 : Int32) = 2 from rfl)]
            simp only [nI_clamp (show p < 2 ^ 31 by omega), fcd (show p < 16 by omega) (by omega), if_false]
            rw [mn p (by omega)]
            exact seat_sv (by have := hs p; have := w.2.2.2.1.2; omega) τ
        · refine OP_yes hI (b2 (cnt v s p (v 2))) ?_ (fun τ hA => ?_)
          · rw [f_X11_person, if_pos hk, hasP_V hV, decide_eq_true hx', bbd_s, if_neg b1, if_neg (nI_pos (by omega)), if_pos (show (nI 3 : Int32) ≤ 5 by decide), if_neg (show ¬ (nI 3 : Int32) = 0 by decide), if_neg (show ¬ (nI 3 : Int32) = 1 by decide), if_neg (show ¬ (nI 3 : Int32) = 2 by decide), if_pos (show (nI 3 : Int32) = 3 from rfl)]
            obtain ⟨⟨hi, hm⟩, ⟨w, wt, we, wr⟩, mv, ⟨ch', cf, ct, ce, cr', ft⟩, ⟨hs, h0, cn', mn⟩, ⟨cb, mb⟩, ⟨hS, hS1, hS2⟩, hD, hD1, hD2⟩ := hV
            rw [if_pos hk, if_pos hk, ch'.2.2.2.2.2.1, s_isContent w ch' cf cn' hs hp w.2.2.1.2, bbd_s, ans_eq, ans_eq, bbd_s, bbd_s]
            cases cnt v s p (v 2) <;> rfl
          · rw [isP_V (hV.ao hk hA), decide_eq_true hx', bbd_s, if_neg b1, in_y (N := 5) (y := 5) hd (by omega) rfl, bbd_s, if_neg (show ¬ (1 : Int32) = 0 by decide)]
            obtain ⟨⟨hi, hm⟩, ⟨w, wt, we, wr⟩, mv, ⟨ch', cf, ct, ce, cr', ft⟩, ⟨hs, h0, cn', mn⟩, ⟨cb, mb⟩, ⟨hS, hS1, hS2⟩, hD, hD1, hD2⟩ := hV.ao hk hA
            rw [s_personL w wt mv hp, bl3]
            (try dsimp only)
            rw [if_neg (show ¬ (nI 3 : Int32) = 0 by decide), if_neg (show ¬ (nI 3 : Int32) = 1 by decide), if_neg (show ¬ (nI 3 : Int32) = 2 by decide), if_pos (show (nI 3 : Int32) = 3 from rfl)]
            rw [mv.at 2 (by decide) (by decide), s_isContentM w mv mn (by decide) hs hp w.2.2.1.2, bbd_s]
            cases cnt v s p (v 2) <;> rfl
        · refine OP_yes hI (bel p) ?_ (fun τ hA => ?_)
          · rw [f_X11_person, if_pos hk, hasP_V hV, decide_eq_true hx', bbd_s, if_neg b1, if_neg (nI_pos (by omega)), if_pos (show (nI 4 : Int32) ≤ 5 by decide), if_neg (show ¬ (nI 4 : Int32) = 0 by decide), if_neg (show ¬ (nI 4 : Int32) = 1 by decide), if_neg (show ¬ (nI 4 : Int32) = 2 by decide), if_neg (show ¬ (nI 4 : Int32) = 3 by decide), if_pos (show (nI 4 : Int32) = 4 from rfl)]
            simp only [nI_clamp (show p < 2 ^ 31 by omega), fcd (show p < 7 by omega) (by omega), if_false]
            obtain ⟨⟨hi, hm⟩, ⟨w, wt, we, wr⟩, mv, ⟨ch', cf, ct, ce, cr', ft⟩, ⟨hs, h0, cn', mn⟩, ⟨cb, mb⟩, ⟨hS, hS1, hS2⟩, hD, hD1, hD2⟩ := hV
            rw [cb p (by omega), ans_eq, bbd_s]; rfl
          · rw [isP_V (hV.ao hk hA), decide_eq_true hx', bbd_s, if_neg b1, in_y (N := 5) (y := 5) hd (by omega) rfl, bbd_s, if_neg (show ¬ (1 : Int32) = 0 by decide)]
            obtain ⟨⟨hi, hm⟩, ⟨w, wt, we, wr⟩, mv, ⟨ch', cf, ct, ce, cr', ft⟩, ⟨hs, h0, cn', mn⟩, ⟨cb, mb⟩, ⟨hS, hS1, hS2⟩, hD, hD1, hD2⟩ := hV.ao hk hA
            rw [s_personL w wt mv hp, bl3]
            (try dsimp only)
            rw [if_neg (show ¬ (nI 4 : Int32) = 0 by decide), if_neg (show ¬ (nI 4 : Int32) = 1 by decide), if_neg (show ¬ (nI 4 : Int32) = 2 by decide), if_neg (show ¬ (nI 4 : Int32) = 3 by decide), if_pos (show (nI 4 : Int32) = 4 from rfl)]
            rw [show (7 : Int32) + nI p = nI (7 + p) by rw [show (7 : Int32) = nI 7 from rfl, q_add]]
            simp only [nI_clamp (show 7 + p < 2 ^ 31 by omega), fcd (show 7 + p < 16 by omega) (by omega), if_false]
            rw [mb p (by omega)]
        · refine OP_yes hI (nI (tmk v p)) ?_ (fun τ hA => ?_)
          · rw [f_X11_person, if_pos hk, hasP_V hV, decide_eq_true hx', bbd_s, if_neg b1, if_neg (nI_pos (by omega)), if_pos (show (nI 5 : Int32) ≤ 5 by decide), if_neg (show ¬ (nI 5 : Int32) = 0 by decide), if_neg (show ¬ (nI 5 : Int32) = 1 by decide), if_neg (show ¬ (nI 5 : Int32) = 2 by decide), if_neg (show ¬ (nI 5 : Int32) = 3 by decide), if_neg (show ¬ (nI 5 : Int32) = 4 by decide)]
            obtain ⟨⟨hi, hm⟩, ⟨w, wt, we, wr⟩, mv, ⟨ch', cf, ct, ce, cr', ft⟩, ⟨hs, h0, cn', mn⟩, ⟨cb, mb⟩, ⟨hS, hS1, hS2⟩, hD, hD1, hD2⟩ := hV
            rw [s_sameTown w wt cf ct hp, bbd_s, ans_eq, bbd_s]; rfl
          · rw [isP_V (hV.ao hk hA), decide_eq_true hx', bbd_s, if_neg b1, in_y (N := 5) (y := 5) hd (by omega) rfl, bbd_s, if_neg (show ¬ (1 : Int32) = 0 by decide)]
            obtain ⟨⟨hi, hm⟩, ⟨w, wt, we, wr⟩, mv, ⟨ch', cf, ct, ce, cr', ft⟩, ⟨hs, h0, cn', mn⟩, ⟨cb, mb⟩, ⟨hS, hS1, hS2⟩, hD, hD1, hD2⟩ := hV.ao hk hA
            rw [s_personL w wt mv hp, bl3]
            (try dsimp only)
            rw [if_neg (show ¬ (nI 5 : Int32) = 0 by decide), if_neg (show ¬ (nI 5 : Int32) = 1 by decide), if_neg (show ¬ (nI 5 : Int32) = 2 by decide), if_neg (show ¬ (nI 5 : Int32) = 3 by decide), if_neg (show ¬ (nI 5 : Int32) = 4 by decide)]
      · refine OP_no hI (-1000) 1 (by decide) ?_ (fun τ hA => ?_)
        · rw [f_X11_person, if_pos hk, hasP_V hV, decide_eq_true hx', bbd_s, if_neg b1, rg_n (N := 5) (y := 5) hy (by omega) rfl, f_X11_person_J25, refW_eq, bbd_s]; rfl
        · rw [isP_V (hV.ao hk hA), decide_eq_true hx', bbd_s, if_neg b1, in_n (N := 5) (y := 5) hy (by omega) rfl, bbd_s, if_pos rfl, f_X12_person_J21, less_eq, bbd_s]; rfl
    · refine OP_no hI (-1000) 1 (by decide) ?_ (fun τ hA => ?_)
      · rw [f_X11_person, if_pos hk, hasP_V hV, decide_eq_false hx, bbd_s, if_pos b0, f_X11_person_J25, refW_eq, bbd_s]; rfl
      · rw [isP_V (hV.ao hk hA), decide_eq_false hx, bbd_s, if_pos b0, f_X12_person_J21, less_eq, bbd_s]; rfl
