/-! ===== calls that ask: priests, trains by number, who may sit (own work) ===== -/
theorem mw_N {c : Nat} {σ : bSto} (h : NR c σ) (x : Int32) : f_X12_manyWhy x σ = some ((1 : Int32), σ) := by rw [f_X12_manyWhy, h.1.2, if_pos n0]
theorem mw_y {c : Nat} {v s : Nat → Nat} {bel : Nat → Int32} {S D : Nat} {σ : bSto} (h : VW c v s bel S D σ) {d : Nat} (hd : d ≤ 99) : f_X12_manyWhy (nI d) σ = some ((0 : Int32), σ) := by
  rw [f_X12_manyWhy, h.1.2, if_neg n1, in_y (N := 99) (y := 99) hd (by omega) rfl, bbd_s, if_neg (show ¬ (1 : Int32) = 0 by decide)]
theorem mw_n {c : Nat} {v s : Nat → Nat} {bel : Nat → Int32} {S D : Nat} {σ : bSto} (h : VW c v s bel S D σ) {x : Int32} (hx : ¬ ∃ d, d ≤ 99 ∧ x = nI d) : f_X12_manyWhy x σ = some ((2 : Int32), σ) := by
  rw [f_X12_manyWhy, h.1.2, if_neg n1, in_n (N := 99) (y := 99) hx (by omega) rfl, bbd_s, if_pos rfl]
theorem o_rests {σ : bSto} (hI : INV σ) (x : Int32) : ∃ r σ1 σ2, f_X11_rests x σ = some (r, σ1) ∧ f_X12_rests x σ1 = some (r, σ2) ∧ INV σ2 := by
  simp only [f_X12_rests]
  have hk := hI.2.2.1.1
  rcases hI.2.2.2.2 with hN | ⟨v, s, bel, S, D, hV, -⟩
  · refine OP_no hI (-1) 1 (by decide) ?_ (fun τ hA => ?_)
    · rw [f_X11_rests, if_pos hk, hN.1.1, if_pos n0, ref_eq, bbd_s]; rfl
    · rw [mw_N (hN.ao hk hA), bbd_s, if_neg (show ¬ (1 : Int32) = 0 by decide), no_eq, bbd_s]; rfl
  · by_cases hx : ∃ d, d ≤ 99 ∧ x = nI d
    · obtain ⟨d, hd, rfl⟩ := hx
      refine OP hI (nI (rsN d 49)) 0 (by decide) ⟨σ, ?_, AO.refl _ _⟩ (fun τ hA hz => ⟨bI τ 92 33 (rsF d 49), ?_, AO.set _ _ (by unfold Bn2; omega), by rw [bI_ne (by omega)]; exact hz⟩)
      · rw [f_X11_rests, if_pos hk, hV.1.1, if_neg n1, crowd_y hd, bbd_s, if_neg (show ¬ (1 : Int32) = 0 by decide), show (0 : Int32) = nI 0 from rfl, s_restsC hd]
        rfl
      · rw [mw_y (hV.ao hk hA) hd, bbd_s, if_pos rfl, s_seekRests hd, bbd_s]
    · refine OP_no hI (-1) 2 (by decide) ?_ (fun τ hA => ?_)
      · rw [f_X11_rests, if_pos hk, hV.1.1, if_neg n1, crowd_n hx, bbd_s, if_pos rfl, ref_eq, bbd_s]; rfl
      · rw [mw_n (hV.ao hk hA) hx, bbd_s, if_neg (show ¬ (2 : Int32) = 0 by decide), no_eq, bbd_s]; rfl
theorem o_rest {σ : bSto} (hI : INV σ) (x : Int32) : ∃ r σ1 σ2, f_X11_rest x σ = some (r, σ1) ∧ f_X12_rest x σ1 = some (r, σ2) ∧ INV σ2 := by
  simp only [f_X12_rest]
  have hk := hI.2.2.1.1
  rcases hI.2.2.2.2 with hN | ⟨v, s, bel, S, D, hV, -⟩
  · refine OP_no hI (-1) 1 (by decide) ?_ (fun τ hA => ?_)
    · rw [f_X11_rest, if_pos hk, hN.1.1, if_pos n0, ref_eq, bbd_s]; rfl
    · rw [mw_N (hN.ao hk hA), bbd_s, if_neg (show ¬ (1 : Int32) = 0 by decide), no_eq, bbd_s]; rfl
  · by_cases hx : ∃ d, d ≤ 99 ∧ x = nI d
    · obtain ⟨d, hd, rfl⟩ := hx
      refine OP hI (rsF d 49) 0 (by decide) ⟨σ, ?_, AO.refl _ _⟩ (fun τ hA hz => ⟨bI τ 92 33 (rsF d 49), ?_, AO.set _ _ (by unfold Bn2; omega), by rw [bI_ne (by omega)]; exact hz⟩)
      · rw [f_X11_rest, if_pos hk, hV.1.1, if_neg n1, crowd_y hd, bbd_s, if_neg (show ¬ (1 : Int32) = 0 by decide)]
        exact s_restC hd σ
      · rw [mw_y (hV.ao hk hA) hd, bbd_s, if_pos rfl, s_seekRests hd, bbd_s, bI_eq]
    · refine OP_no hI (-1) 2 (by decide) ?_ (fun τ hA => ?_)
      · rw [f_X11_rest, if_pos hk, hV.1.1, if_neg n1, crowd_n hx, bbd_s, if_pos rfl, ref_eq, bbd_s]; rfl
      · rw [mw_n (hV.ao hk hA) hx, bbd_s, if_neg (show ¬ (2 : Int32) = 0 by decide), no_eq, bbd_s]; rfl
theorem o_shout {σ : bSto} (hI : INV σ) (x y z o : Int32) : ∃ r σ1 σ2, f_X11_shout x y z o σ = some (r, σ1) ∧ f_X12_shout x y z o σ1 = some (r, σ2) ∧ INV σ2 := by
  simp only [f_X12_shout]
  have hk := hI.2.2.1.1
  rcases hI.2.2.2.2 with hN | ⟨v, s, bel, S, D, hV, -⟩
  · refine OP_no hI (-100) 1 (by decide) ?_ (fun τ hA => ?_)
    · rw [f_X11_shout, if_pos hk, hN.1.1, if_pos n0, refW_eq, bbd_s]; rfl
    · rw [mw_N (hN.ao hk hA), bbd_s, if_neg (show ¬ (1 : Int32) = 0 by decide), f_X12_shout_J39, if_neg (show ¬ (1 : Int32) = 0 by decide), blet]; rfl
  · by_cases hx : ∃ d, d ≤ 99 ∧ x = nI d
    · obtain ⟨d, hd, rfl⟩ := hx
      by_cases hy : ∃ a, a ≤ 6 ∧ y = nI a
      · obtain ⟨a, ha, rfl⟩ := hy
        by_cases hz : ∃ b, b ≤ 6 ∧ z = nI b
        · obtain ⟨b, hb, rfl⟩ := hz
          refine OP_yes hI (if o = 0 then shr d a b else shr d b a) ?_ (fun τ hA => ?_)
          · rw [f_X11_shout, if_pos hk, hV.1.1, if_neg n1, crowd_y hd, bbd_s, if_neg (show ¬ (1 : Int32) = 0 by decide), loud_y ha, bbd_s, if_neg (show ¬ (1 : Int32) = 0 by decide), loud_y hb, bbd_s, if_neg (show ¬ (1 : Int32) = 0 by decide), s_share hd ha hb, s_share hd hb ha, bbd_s, bbd_s, ans_eq, ans_eq, bbd_s, bbd_s]
            split <;> rfl
          · rw [mw_y (hV.ao hk hA) hd, bbd_s, if_pos rfl, in_y (N := 6) (y := 6) ha (by omega) rfl, bbd_s, if_neg (show ¬ (1 : Int32) = 0 by decide), in_y (N := 6) (y := 6) hb (by omega) rfl, bbd_s, if_neg (show ¬ (1 : Int32) = 0 by decide), f_X12_shout_J39, if_pos rfl, s_shoutOf hd ha hb, s_shoutOf hd hb ha, bbd_s, bbd_s]
            split <;> rfl
        · refine OP_no hI (-100) 2 (by decide) ?_ (fun τ hA => ?_)
          · rw [f_X11_shout, if_pos hk, hV.1.1, if_neg n1, crowd_y hd, bbd_s, if_neg (show ¬ (1 : Int32) = 0 by decide), loud_y ha, bbd_s, if_neg (show ¬ (1 : Int32) = 0 by decide), loud_n hz, bbd_s, if_pos rfl, f_X11_shout_J39, refW_eq, bbd_s]; rfl
          · rw [mw_y (hV.ao hk hA) hd, bbd_s, if_pos rfl, in_y (N := 6) (y := 6) ha (by omega) rfl, bbd_s, if_neg (show ¬ (1 : Int32) = 0 by decide), in_n (N := 6) (y := 6) hz (by omega) rfl, bbd_s, if_pos rfl, f_X12_shout_J36, f_X12_shout_J39, if_neg (show ¬ (2 : Int32) = 0 by decide), blet]; rfl
      · refine OP_no hI (-100) 2 (by decide) ?_ (fun τ hA => ?_)
        · rw [f_X11_shout, if_pos hk, hV.1.1, if_neg n1, crowd_y hd, bbd_s, if_neg (show ¬ (1 : Int32) = 0 by decide), loud_n hy, bbd_s, if_pos rfl, f_X11_shout_J39, refW_eq, bbd_s]; rfl
        · rw [mw_y (hV.ao hk hA) hd, bbd_s, if_pos rfl, in_n (N := 6) (y := 6) hy (by omega) rfl, bbd_s, if_pos rfl, f_X12_shout_J36, f_X12_shout_J39, if_neg (show ¬ (2 : Int32) = 0 by decide), blet]; rfl
    · refine OP_no hI (-100) 2 (by decide) ?_ (fun τ hA => ?_)
      · rw [f_X11_shout, if_pos hk, hV.1.1, if_neg n1, crowd_n hx, bbd_s, if_pos rfl, f_X11_shout_J39, refW_eq, bbd_s]; rfl
      · rw [mw_n (hV.ao hk hA) hx, bbd_s, if_neg (show ¬ (2 : Int32) = 0 by decide), f_X12_shout_J39, if_neg (show ¬ (2 : Int32) = 0 by decide), blet]; rfl
theorem tr_lt {v : Nat → Nat} {d n : Nat} (hd : d < n) (hf : fitE v d = true) : trN v d < trN v n := by
  have h1 : trN v (d + 1) = trN v d + 1 := by
    show sm (fun i => (fitE v i).toNat) (d + 1) = _
    rw [sm, hf]
    rfl
  have h2 := trN_mono v (show d + 1 ≤ n by omega)
  omega
theorem o_trainAt {σ : bSto} (hI : INV σ) (x : Int32) : ∃ r σ1 σ2, f_X11_trainAt x σ = some (r, σ1) ∧ f_X12_trainAt x σ1 = some (r, σ2) ∧ INV σ2 := by
  simp only [f_X12_trainAt]
  have hk := hI.2.2.1.1
  rcases hI.2.2.2.2 with hN | ⟨v, s, bel, S, D, hV, -⟩
  · refine OP_no hI (-1) 1 (by decide) ?_ (fun τ hA => ?_)
    · rw [f_X11_trainAt, if_pos hk, if_pos hk, hN.1.1, if_pos n0, f_X11_trainAt_J30, ref_eq, bbd_s]; rfl
    · rw [(hN.ao hk hA).1.2, if_pos n0, no_eq, bbd_s]; rfl
  · have h77 := trN_le v 77
    by_cases hx : ∃ i, i < trN v 77 ∧ x = nI i
    · obtain ⟨i, hi', rfl⟩ := hx
      obtain ⟨e, he, hfe, hte⟩ := tr_nth v i 77 hi'
      refine OP_yes hI (nI (100 * trE e + trF e)) ?_ (fun τ hA => ?_)
      · obtain ⟨⟨hi, hm⟩, ⟨w, wt, we, wr⟩, mv, ⟨ch', cf, ct, ce, cr', ft⟩, ⟨hs, h0, cn', mn⟩, ⟨cb, mb⟩, ⟨hS, hS1, hS2⟩, hD, hD1, hD2⟩ := hV
        have f2 := ft.2.1 e he hfe
        rw [hte] at f2
        rw [f_X11_trainAt, if_pos hk, if_pos hk, hi, if_neg n1, if_neg (nI_pos (by omega)), ft.1, if_pos (nI_lt hi' (by omega))]
        simp only [nI_clamp (show i < 2 ^ 31 by omega), fcd (show i < 77 by omega) (by omega), if_false]
        rw [f2, ans_eq, bbd_s]; rfl
      · obtain ⟨⟨hi, hm⟩, ⟨w, wt, we, wr⟩, mv, ⟨ch', cf, ct, ce, cr', ft⟩, ⟨hs, h0, cn', mn⟩, ⟨cb, mb⟩, ⟨hS, hS1, hS2⟩, hD, hD1, hD2⟩ := hV.ao hk hA
        have hq := s_trainAtM wr mv (nI i) 11 0 bFU (by decide) (by show 11 < 100000; decide) (fun d hd => absurd hd (by show ¬ d < 0; omega))
        rw [hm, if_neg n1]
        rcases hq with ⟨q1, -⟩ | ⟨d, hd, hfd, htd, q1⟩
        · exact absurd (by rw [hte]) (q1 e he hfe)
        · have hde : trN v d = i := by
            have := trN_mono v (show d ≤ 77 by omega)
            rwa [q_eq (by omega) (by omega)] at htd
          have : d = e := by
            rcases Nat.lt_trichotomy d e with z | z | z
            · have := tr_lt z hfd
              omega
            · exact z
            · have := tr_lt z hfe
              omega
          subst this
          have q1' : f_X12_trainAt_L21 bFU (nI i) (0 : Int32) (2 : Int32) τ = some (.inl (nI (100 * trE d + trF d), τ)) := q1
          rw [q1']
          rfl
    · refine OP_no hI (-1) 1 (by decide) ?_ (fun τ hA => ?_)
      · obtain ⟨⟨hi, hm⟩, ⟨w, wt, we, wr⟩, mv, ⟨ch', cf, ct, ce, cr', ft⟩, ⟨hs, h0, cn', mn⟩, ⟨cb, mb⟩, ⟨hS, hS1, hS2⟩, hD, hD1, hD2⟩ := hV
        rw [f_X11_trainAt, if_pos hk, if_pos hk, hi, if_neg n1, ft.1]
        by_cases hz : x < 0
        · rw [if_pos hz, f_X11_trainAt_J30, ref_eq, bbd_s]; rfl
        · obtain ⟨j, hj, rfl⟩ := nI_of hz
          rw [if_neg hz, if_neg (fun z => hx ⟨j, by rwa [q_lt hj (by omega)] at z, rfl⟩), f_X11_trainAt_J30, ref_eq, bbd_s]; rfl
      · obtain ⟨⟨hi, hm⟩, ⟨w, wt, we, wr⟩, mv, ⟨ch', cf, ct, ce, cr', ft⟩, ⟨hs, h0, cn', mn⟩, ⟨cb, mb⟩, ⟨hS, hS1, hS2⟩, hD, hD1, hD2⟩ := hV.ao hk hA
        have hq := s_trainAtM wr mv x 11 0 bFU (by decide) (by show 11 < 100000; decide) (fun d hd => absurd hd (by show ¬ d < 0; omega))
        rw [hm, if_neg n1]
        rcases hq with ⟨-, q1⟩ | ⟨d, hd, hfd, htd, -⟩
        · have q1' : f_X12_trainAt_L21 bFU x (0 : Int32) (2 : Int32) τ = some (.inr τ) := q1
          rw [q1']
          rfl
        · exact absurd ⟨trN v d, tr_lt hd hfd, htd.symm⟩ hx
theorem o_may {σ : bSto} (hI : INV σ) (x y : Int32) : ∃ r σ1 σ2, f_X11_may x y σ = some (r, σ1) ∧ f_X12_may x y σ1 = some (r, σ2) ∧ INV σ2 := by
  simp only [f_X12_may]
  have hk := hI.2.2.1.1
  rcases hI.2.2.2.2 with hN | ⟨v, s, bel, S, D, hV, -⟩
  · refine OP_no hI (-1) 1 (by decide) ?_ (fun τ hA => ?_)
    · rw [f_X11_may, if_pos hk, hasP_N hN, bbd_s, if_pos rfl, f_X11_may_J28, ref_eq, bbd_s]; rfl
    · rw [isP_N (hN.ao hk hA), bbd_s, if_pos rfl, f_X12_may_J20, no_eq, bbd_s]; rfl
  · by_cases hx : ∃ p, p < v 4 ∧ x = nI p
    · by_cases hy : ∃ b, b < v 3 ∧ y = nI b
      · have hx' := hx
        have hy' := hy
        obtain ⟨p, hp, rfl⟩ := hx
        obtain ⟨b, hb, rfl⟩ := hy
        refine OP_yes hI (b2 (mayK (v (35 + 4 * p)) (v (11 + 4 * b)))) ?_ (fun τ hA => ?_)
        · rw [f_X11_may, if_pos hk, hasP_V hV, decide_eq_true hx', bbd_s, if_neg b1, if_pos hk, hasB_V hV, decide_eq_true hy', bbd_s, if_neg b1, if_pos hk]
          obtain ⟨⟨hi, hm⟩, ⟨w, wt, we, wr⟩, mv, ⟨ch', cf, ct, ce, cr', ft⟩, ⟨hs, h0, cn', mn⟩, ⟨cb, mb⟩, ⟨hS, hS1, hS2⟩, hD, hD1, hD2⟩ := hV
          rw [s_allows w ch' cf hp hb, bbd_s, ans_eq, ans_eq, bbd_s, bbd_s]
          cases mayK (v (35 + 4 * p)) (v (11 + 4 * b)) <;> rfl
        · rw [isP_V (hV.ao hk hA), decide_eq_true hx', bbd_s, if_neg b1, isB_V (hV.ao hk hA), decide_eq_true hy', bbd_s, if_neg b1]
          obtain ⟨⟨hi, hm⟩, ⟨w, wt, we, wr⟩, mv, ⟨ch', cf, ct, ce, cr', ft⟩, ⟨hs, h0, cn', mn⟩, ⟨cb, mb⟩, ⟨hS, hS1, hS2⟩, hD, hD1, hD2⟩ := hV.ao hk hA
          rw [s_mayOn w mv hp hb, bbd_s]
          cases mayK (v (35 + 4 * p)) (v (11 + 4 * b)) <;> rfl
      · refine OP_no hI (-1) 1 (by decide) ?_ (fun τ hA => ?_)
        · rw [f_X11_may, if_pos hk, hasP_V hV, decide_eq_true hx, bbd_s, if_neg b1, if_pos hk, hasB_V hV, decide_eq_false hy, bbd_s, if_pos b0, f_X11_may_J28, ref_eq, bbd_s]; rfl
        · rw [isP_V (hV.ao hk hA), decide_eq_true hx, bbd_s, if_neg b1, isB_V (hV.ao hk hA), decide_eq_false hy, bbd_s, if_pos b0, f_X12_may_J20, no_eq, bbd_s]; rfl
    · refine OP_no hI (-1) 1 (by decide) ?_ (fun τ hA => ?_)
      · rw [f_X11_may, if_pos hk, hasP_V hV, decide_eq_false hx, bbd_s, if_pos b0, f_X11_may_J28, ref_eq, bbd_s]; rfl
      · rw [isP_V (hV.ao hk hA), decide_eq_false hx, bbd_s, if_pos b0, f_X12_may_J20, no_eq, bbd_s]; rfl
