/-! ===== stand, preach, round, day (own work) ===== -/
theorem o_stand {σ : bSto} (hI : INV σ) (x : Int32) : ∃ r σ1 σ2, f_X11_stand x σ = some (r, σ1) ∧ f_X12_stand x σ1 = some (r, σ2) ∧ INV σ2 := by
  simp only [f_X12_stand]
  have hk := hI.2.2.1.1
  rcases hI.2.2.2.2 with hN | ⟨v, s, bel, S, D, hV, n, xx, m, hP⟩
  · refine OP_no hI 0 1 (by decide) ?_ (fun τ hA => ?_)
    · rw [f_X11_stand, if_pos hk, hasP_N hN, bbd_s, if_pos rfl, notD_eq, bbd_s, wr0]; rfl
    · rw [isP_N (hN.ao hk hA), bbd_s, if_pos rfl, isNot_eq, bbd_s, wr0]; rfl
  · by_cases hx : ∃ p, p < v 4 ∧ x = nI p
    · have hx' := hx
      obtain ⟨p, hp, rfl⟩ := hx
      have hV0 := hV
      obtain ⟨⟨hi, hm⟩, ⟨w, wt, we, wr⟩, mv, ⟨ch', cf, ct, ce, cr', ft⟩, ⟨hs, h0, cn', mn⟩, ⟨cb, mb⟩, ⟨hS, hS1, hS2⟩, hD, hD1, hD2⟩ := hV0
      have h7 := w.2.2.2.2.1
      have hsp := seat7 w hs p
      by_cases z : s p = 0
      · refine OP_no hI 0 5 (by decide) ?_ (fun τ hA => ?_)
        · rw [f_X11_stand, if_pos hk, hasP_V hV, decide_eq_true hx', bbd_s, if_neg b1]
          simp only [nI_clamp (show p < 2 ^ 31 by omega), fcd (show p < 7 by omega) (by omega), if_false]
          rw [cn' p (by omega), z, if_pos (show sv 0 = -2 from rfl), notD_eq, bbd_s, wr0]; rfl
        · have hV2 := hV.ao hk hA
          rw [isP_V hV2, decide_eq_true hx', bbd_s, if_neg b1]
          simp only [nI_clamp (show p < 2 ^ 31 by omega), fcd (show p < 16 by omega) (by omega), if_false]
          rw [hV2.2.2.2.2.1.2.2.2 p (by omega), z, if_pos (show (nI 0 : Int32) = 0 from rfl), isNot_eq, bbd_s, wr0]; rfl
      · refine ACT (s' := put s p 0) (bel' := bel) (S' := S) (D' := D) hI hV hP 1 ⟨put_hs hs, put_h0 h0⟩ ⟨hS, hD⟩ (fun σa k1 k2 => ⟨bI σa 31 p (-2), ?_, AO.set _ _ (Or.inl rfl), ?_, ?_, ?_, ?_⟩) (fun τ τn t1 t2 t3 t4 t5 t6 t7 t8 => ⟨bI τn 97 p (nI 0), ?_, AO.set _ _ (Or.inl rfl), ?_, ?_, ?_, ?_⟩)
        · rw [f_X11_stand, if_pos hk, hasP_V hV, decide_eq_true hx', bbd_s, if_neg b1]
          simp only [nI_clamp (show p < 2 ^ 31 by omega), fcd (show p < 7 by omega) (by omega), if_false]
          rw [cn' p (by omega), if_neg (fun e => z (by rwa [sv_m2 hsp] at e)), k1, bbv_s, blet, done_eq, bbd_s, wr1]
        · exact (cn'.ao k2 (fun k => by unfold Bk2; omega)).put' p 0
        · intro q hq
          rw [bI_ne (by omega), k2.1 32 q (by unfold Bk2; omega)]; exact cb q hq
        · rw [bI_ne (by omega), k2.1 30 2 (by unfold Bk2; omega)]; exact hS1
        · rw [bI_ne (by omega), k2.1 30 3 (by unfold Bk2; omega)]; exact hD1
        · rw [isP_m w t3 t4, decide_eq_true hx', bbd_s, if_neg b1]
          simp only [nI_clamp (show p < 2 ^ 31 by omega), fcd (show p < 16 by omega) (by omega), if_false]
          rw [t5 p (by omega), if_neg (nI_ne0 (by omega) (by omega)), t1, bbv_s, blet]
          rfl
        · exact (t5.ao t2 (fun k => by unfold B98; omega)).put' p 0
        · intro q hq
          rw [bI_ne (by omega), t2.1 97 _ (by unfold B98; omega)]; exact t6 q hq
        · rw [bI_ne (by omega), t2.1 97 _ (by unfold B98; omega)]; exact t7
        · rw [bI_ne (by omega), t2.1 97 _ (by unfold B98; omega)]; exact t8
    · refine OP_no hI 0 1 (by decide) ?_ (fun τ hA => ?_)
      · rw [f_X11_stand, if_pos hk, hasP_V hV, decide_eq_false hx, bbd_s, if_pos b0, notD_eq, bbd_s, wr0]; rfl
      · rw [isP_V (hV.ao hk hA), decide_eq_false hx, bbd_s, if_pos b0, isNot_eq, bbd_s, wr0]; rfl
theorem in_b (y : Int32) (σ : bSto) : f_X12_in y (-1 : Int32) (1 : Int32) σ = some (b2 (decide (¬ y < -1 ∧ y ≤ 1)), σ) := by
  rw [f_X12_in]
  by_cases h1 : y < -1
  · rw [if_pos h1, decide_eq_false (fun z => z.1 h1)]; rfl
  · rw [if_neg h1]
    by_cases h2 : y ≤ 1
    · rw [if_neg (Int32.not_lt.mpr h2), decide_eq_true ⟨h1, h2⟩]; rfl
    · rw [if_pos (Int32.not_le.mp h2), decide_eq_false (fun z => h2 z.2)]; rfl
theorem rg_b {α : Type} {y : Int32} (A B : α) : (if y < (-1 : Int32) then A else if y ≤ (1 : Int32) then B else A) = if (¬ y < -1 ∧ y ≤ 1) then B else A := by
  by_cases h1 : y < -1
  · rw [if_pos h1, if_neg (fun z => z.1 h1)]
  · rw [if_neg h1]
    by_cases h2 : y ≤ 1
    · rw [if_pos h2, if_pos ⟨h1, h2⟩]
    · rw [if_neg h2, if_neg (fun z => h2 z.2)]
theorem o_preach {σ : bSto} (hI : INV σ) (x y : Int32) : ∃ r σ1 σ2, f_X11_preach x y σ = some (r, σ1) ∧ f_X12_preach x y σ1 = some (r, σ2) ∧ INV σ2 := by
  simp only [f_X12_preach]
  have hk := hI.2.2.1.1
  rcases hI.2.2.2.2 with hN | ⟨v, s, bel, S, D, hV, n, xx, m, hP⟩
  · refine OP_no hI 0 1 (by decide) ?_ (fun τ hA => ?_)
    · rw [f_X11_preach, if_pos hk, hasP_N hN, bbd_s, if_pos rfl, notD_eq, bbd_s, wr0]; rfl
    · rw [isP_N (hN.ao hk hA), bbd_s, if_pos rfl, isNot_eq, bbd_s, wr0]; rfl
  · by_cases hx : ∃ p, p < v 4 ∧ x = nI p
    · have hx' := hx
      obtain ⟨p, hp, rfl⟩ := hx
      have hV0 := hV
      obtain ⟨⟨hi, hm⟩, ⟨w, wt, we, wr⟩, mv, ⟨ch', cf, ct, ce, cr', ft⟩, ⟨hs, h0, cn', mn⟩, ⟨cb, mb⟩, ⟨hS, hS1, hS2⟩, hD, hD1, hD2⟩ := hV0
      have h7 := w.2.2.2.2.1
      have e7 : (7 : Int32) + nI p = nI (7 + p) := by rw [show (7 : Int32) = nI 7 from rfl, q_add]
      by_cases hy : ¬ y < -1 ∧ y ≤ 1
      · by_cases z : bel p = y
        · refine OP_no hI 0 5 (by decide) ?_ (fun τ hA => ?_)
          · rw [f_X11_preach, if_pos hk, hasP_V hV, decide_eq_true hx', bbd_s, if_neg b1, rg_b, if_pos hy]
            simp only [nI_clamp (show p < 2 ^ 31 by omega), fcd (show p < 7 by omega) (by omega), if_false]
            rw [cb p (by omega), if_pos z, notD_eq, bbd_s, wr0]; rfl
          · have hV2 := hV.ao hk hA
            rw [isP_V hV2, decide_eq_true hx', bbd_s, if_neg b1, in_b, decide_eq_true hy, bbd_s, if_neg b1, e7]
            simp only [nI_clamp (show 7 + p < 2 ^ 31 by omega), fcd (show 7 + p < 16 by omega) (by omega), if_false]
            rw [hV2.2.2.2.2.2.1.2 p (by omega), if_pos z, isNot_eq, bbd_s, wr0]; rfl
        · refine ACT (s' := s) (bel' := fun q => if q = p then y else bel q) (S' := S) (D' := D) hI hV hP 1 ⟨hs, h0⟩ ⟨hS, hD⟩ (fun σa k1 k2 => ⟨bI σa 32 p y, ?_, AO.set _ _ (Or.inr (Or.inl rfl)), ?_, ?_, ?_, ?_⟩) (fun τ τn t1 t2 t3 t4 t5 t6 t7 t8 => ⟨bI τn 97 (7 + p) y, ?_, AO.set _ _ (Or.inl rfl), ?_, ?_, ?_, ?_⟩)
          · rw [f_X11_preach, if_pos hk, hasP_V hV, decide_eq_true hx', bbd_s, if_neg b1, rg_b, if_pos hy]
            simp only [nI_clamp (show p < 2 ^ 31 by omega), fcd (show p < 7 by omega) (by omega), if_false]
            rw [cb p (by omega), if_neg z, k1, bbv_s, blet, done_eq, bbd_s, wr1]
          · intro q hq
            rw [bI_ne (by omega), k2.1 _ q (by unfold Bk2; omega)]; exact cn' q hq
          · intro q hq
            (try dsimp only)
            by_cases zq : q = p
            · rw [if_pos zq, zq, bI_eq]
            · rw [if_neg zq, bI_ne (by omega), k2.1 32 q (by unfold Bk2; omega)]; exact cb q hq
          · rw [bI_ne (by omega), k2.1 30 2 (by unfold Bk2; omega)]; exact hS1
          · rw [bI_ne (by omega), k2.1 30 3 (by unfold Bk2; omega)]; exact hD1
          · rw [isP_m w t3 t4, decide_eq_true hx', bbd_s, if_neg b1, in_b, decide_eq_true hy, bbd_s, if_neg b1, e7]
            simp only [nI_clamp (show 7 + p < 2 ^ 31 by omega), fcd (show 7 + p < 16 by omega) (by omega), if_false]
            rw [t6 p (by omega), if_neg z, t1, bbv_s, blet]
          · intro q hq
            rw [bI_ne (by omega), t2.1 97 _ (by unfold B98; omega)]; exact t5 q hq
          · intro q hq
            (try dsimp only)
            by_cases zq : q = p
            · rw [if_pos zq, zq, bI_eq]
            · rw [if_neg zq, bI_ne (by omega), t2.1 97 _ (by unfold B98; omega)]; exact t6 q hq
          · rw [bI_ne (by omega), t2.1 97 _ (by unfold B98; omega)]; exact t7
          · rw [bI_ne (by omega), t2.1 97 _ (by unfold B98; omega)]; exact t8
      · refine OP_no hI 0 2 (by decide) ?_ (fun τ hA => ?_)
        · rw [f_X11_preach, if_pos hk, hasP_V hV, decide_eq_true hx', bbd_s, if_neg b1, rg_b, if_neg hy, f_X11_preach_J30, notD_eq, bbd_s, wr0]; rfl
        · rw [isP_V (hV.ao hk hA), decide_eq_true hx', bbd_s, if_neg b1, in_b, decide_eq_false hy, bbd_s, if_pos b0, isNot_eq, bbd_s, wr0]; rfl
    · refine OP_no hI 0 1 (by decide) ?_ (fun τ hA => ?_)
      · rw [f_X11_preach, if_pos hk, hasP_V hV, decide_eq_false hx, bbd_s, if_pos b0, notD_eq, bbd_s, wr0]; rfl
      · rw [isP_V (hV.ao hk hA), decide_eq_false hx, bbd_s, if_pos b0, isNot_eq, bbd_s, wr0]; rfl
theorem o_round {σ : bSto} (hI : INV σ) : ∃ r σ1 σ2, f_X11_round σ = some (r, σ1) ∧ f_X12_round σ1 = some (r, σ2) ∧ INV σ2 := by
  simp only [f_X12_round]
  have hk := hI.2.2.1.1
  have hk' : σ.2.2 0 7 = 7 ∨ σ.2.2 0 7 = 69 := hk
  rcases hI.2.2.2.2 with hN | ⟨v, s, bel, S, D, hV, n, xx, m, hP⟩
  · refine OP_no hI (-1) 1 (by decide) ?_ (fun τ hA => ?_)
    · rw [f_X11_round, if_pos hk, hN.1.1, if_pos n0, ref_eq, bbd_s]; rfl
    · rw [(hN.ao hk hA).1.2, if_pos n0, no_eq, bbd_s]; rfl
  · have hV0 := hV
    obtain ⟨⟨hi, hm⟩, ⟨w, wt, we, wr⟩, mv, ⟨ch', cf, ct, ce, cr', ft⟩, ⟨hs, h0, cn', mn⟩, ⟨cb, mb⟩, ⟨hS, hS1, hS2⟩, hD, hD1, hD2⟩ := hV0
    refine ACT (s' := s) (bel' := stp v bel) (S' := S) (D' := D) hI hV hP (nI (msk (ch v bel) (v 4))) ⟨hs, h0⟩ ⟨hS, hD⟩ (fun σa k1 k2 => ?_) (fun τ τn t1 t2 t3 t4 t5 t6 t7 t8 => ?_)
    · obtain ⟨τ1, d1, d2, d3⟩ := c_begin σa
      have hx16 := hP.1.2.1
      have ca : ∀ a k, Bk2 xx a k → a < σ.2.2 0 7 + 7 ∨ σ.2.2 0 7 + 15 ≤ a := fun a k z => by unfold Bk2 at z; omega
      have fa1 := (cf.ao k2 (fun a k z => by have := ca a k z; omega)).ao d2 (fun a k z => by have := Bc_far hk a k z; omega)
      have ea1 := (ce.ao k2 (fun a k z => by have := ca a k z; omega)).ao d2 (fun a k z => by have := Bc_far hk a k z; omega)
      obtain ⟨τ2, e1, e2, e3⟩ := s_step (bel := bel) w hk fa1 ea1 (fun q hq => by rw [d3 q hq, k2.1 32 q (by unfold Bk2; omega)]; exact cb q hq)
      have hr : τ1.2.2 0 7 = σ.2.2 0 7 := by rw [d2.2, k2.2]
      refine ⟨bA τ2 32 (va_cpy (τ2.1 67) (τ2.1 32) 0 0 7), ?_, ?_, ?_, ?_, ?_, ?_⟩
      · rw [f_X11_round, if_pos hk, hi, if_neg n1, k1, bbv_s, d1, bbv_s, hr, if_pos hk, e1, bbd_s, show f_X1_tellTo 30 τ2 = some (bA τ2 32 (va_cpy (τ2.1 67) (τ2.1 32) 0 0 7)) from rfl, bbv_s, ans_eq, bbd_s]
      · exact ((d2.trans e2).mono (fun a k z => by unfold Bc at z; unfold Bnow; omega)).trans (AO.setA _ _ (fun k => Or.inr (Or.inr (Or.inl rfl))))
      · intro q hq
        rw [bA_ne (by omega), (d2.trans e2).1 _ q (by unfold Bc; omega), k2.1 _ q (by unfold Bk2; omega)]; exact cn' q hq
      · intro q hq
        rw [bA_eq, va_cpy, if_pos (by omega), show 0 + (q - 0) = q by omega]; exact e3 q hq
      · rw [bA_ne (by omega), (d2.trans e2).1 _ _ (by unfold Bc; omega), k2.1 30 2 (by unfold Bk2; omega)]; exact hS1
      · rw [bA_ne (by omega), (d2.trans e2).1 _ _ (by unfold Bc; omega), k2.1 30 3 (by unfold Bk2; omega)]; exact hD1
    · obtain ⟨τ2, e1, e2, e3⟩ := s_roundOf (bel := bel) (a := 97) (o := 7) w we (t4.ao t2 (fun k => by unfold B98; omega)) (by decide) (by decide) (by decide) (fun q hq => by rw [t2.1 97 _ (by unfold B98; omega)]; exact t6 q hq)
      refine ⟨τ2, ?_, e2.mono (fun a k z => by unfold Br at z; omega), ?_, e3, ?_, ?_⟩
      · rw [t3, if_neg n1, t1, bbv_s, show (7 : Int32) = nI 7 from rfl, e1, bbd_s]
      · intro q hq
        rw [e2.1 97 q (by unfold Br; omega), t2.1 97 _ (by unfold B98; omega)]; exact t5 q hq
      · rw [e2.1 97 14 (by unfold Br; omega), t2.1 97 _ (by unfold B98; omega)]; exact t7
      · rw [e2.1 97 15 (by unfold Br; omega), t2.1 97 _ (by unfold B98; omega)]; exact t8
theorem o_day {σ : bSto} (hI : INV σ) : ∃ r σ1 σ2, f_X11_day σ = some (r, σ1) ∧ f_X12_day σ1 = some (r, σ2) ∧ INV σ2 := by
  simp only [f_X12_day]
  have hk := hI.2.2.1.1
  have hk' : σ.2.2 0 7 = 7 ∨ σ.2.2 0 7 = 69 := hk
  rcases hI.2.2.2.2 with hN | ⟨v, s, bel, S, D, hV, n, xx, m, hP⟩
  · refine OP_no hI (-1) 1 (by decide) ?_ (fun τ hA => ?_)
    · rw [f_X11_day, if_pos hk, hN.1.1, if_pos n0, ref_eq, bbd_s]; rfl
    · rw [(hN.ao hk hA).1.2, if_pos n0, no_eq, bbd_s]; rfl
  · have hV0 := hV
    obtain ⟨⟨hi, hm⟩, ⟨w, wt, we, wr⟩, mv, ⟨ch', cf, ct, ce, cr', ft⟩, ⟨hs, h0, cn', mn⟩, ⟨cb, mb⟩, ⟨hS, hS1, hS2⟩, hD, hD1, hD2⟩ := hV0
    by_cases z : D = 99
    · refine OP_no hI (-1) 3 (by decide) ?_ (fun τ hA => ?_)
      · rw [f_X11_day, if_pos hk, hi, if_neg n1, hD1, z, if_neg (show ¬ (nI 99 : Int32) < 99 by decide), ref_eq, bbd_s]; rfl
      · have hV2 := hV.ao hk hA
        rw [hV2.1.2, if_neg n1, hV2.2.2.2.2.2.2.2.2.2, z, if_pos (show (nI 99 : Int32) = 99 from rfl), no_eq, bbd_s]; rfl
    · have hpe := pop_eat w S
      refine ACT (s' := s) (bel' := bel) (S' := S - min S (v 4)) (D' := D + 1) hI hV hP (nI (eat v S)) ⟨hs, h0⟩ ⟨by omega, by omega⟩ (fun σa k1 k2 => ⟨bI (bI σa 30 2 (nI (S - min S (v 4)))) 30 3 (nI (D + 1)), ?_, ?_, ?_, ?_, ?_, ?_⟩) (fun τ τn t1 t2 t3 t4 t5 t6 t7 t8 => ⟨bI (bI τn 97 14 (nI (S - min S (v 4)))) 97 15 (nI (D + 1)), ?_, ?_, ?_, ?_, ?_, ?_⟩)
      · have hx16 := hP.1.2.1
        have hr : σa.2.2 0 7 = σ.2.2 0 7 := by rw [k2.2]
        have s2 : σa.1 30 2 = nI S := by rw [k2.1 30 2 (by unfold Bk2; omega)]; exact hS1
        have s3 : σa.1 30 3 = nI D := by rw [k2.1 30 3 (by unfold Bk2; omega)]; exact hD1
        rw [f_X11_day, if_pos hk, hi, if_neg n1, hD1, if_pos (show nI D < (99 : Int32) from nI_lt (b := 99) (by omega) (by omega)), k1, bbv_s, hr, if_pos hk, s2, s_firstEaters w (cf.ao k2 (fun a k z => by unfold Bk2 at z; omega)) hS, bbd_s, s_bitc (eat_lt w S), bbd_s, hpe, s2, q_sub (by omega), blet, bI_ne (o := 30) (k := 2) (a := 30) (j := 3) (by omega), s3, nI_1, blet, ans_eq, bbd_s]
      · exact (AO.set _ _ (Or.inr (Or.inr (Or.inl ⟨rfl, Or.inl rfl⟩)))).trans (AO.set _ _ (Or.inr (Or.inr (Or.inl ⟨rfl, Or.inr rfl⟩))))
      · intro q hq
        rw [bI_ne (by omega), bI_ne (by omega), k2.1 _ q (by unfold Bk2; have := hP.1.2.1; omega)]; exact cn' q hq
      · intro q hq
        rw [bI_ne (by omega), bI_ne (by omega), k2.1 32 q (by unfold Bk2; omega)]; exact cb q hq
      · rw [bI_ne (by omega), bI_eq]
      · rw [bI_eq]
      · have s2 : τn.1 97 14 = nI S := by rw [t2.1 97 _ (by unfold B98; omega)]; exact t7
        have s3 : τn.1 97 15 = nI D := by rw [t2.1 97 _ (by unfold B98; omega)]; exact t8
        rw [t3, if_neg n1, t8, if_neg (show ¬ nI D = (99 : Int32) from fun e => z (by
          have e' : nI D = nI 99 := e
          rwa [q_eq (by omega) (by omega)] at e')), t1, bbv_s, s2, s_whoEats w (t4.ao t2 (fun k => by unfold B98; omega)) hS, bbd_s, s_ones (eat_lt w S), bbd_s, hpe, s2, q_sub (by omega), blet, bI_ne (o := 97) (k := 14) (a := 97) (j := 15) (by omega), s3, nI_1, blet]
      · exact (AO.set (B := fun a _ => a = 97 ∨ a = 106 ∨ a = 107) _ (o := 97) (k := 14) _ (Or.inl rfl)).trans (AO.set (B := fun a _ => a = 97 ∨ a = 106 ∨ a = 107) _ (o := 97) (k := 15) _ (Or.inl rfl))
      · intro q hq
        rw [bI_ne (by omega), bI_ne (by omega), t2.1 97 _ (by unfold B98; omega)]; exact t5 q hq
      · intro q hq
        rw [bI_ne (by omega), bI_ne (by omega), t2.1 97 _ (by unfold B98; omega)]; exact t6 q hq
      · rw [bI_ne (by omega), bI_eq]
      · rw [bI_eq]
