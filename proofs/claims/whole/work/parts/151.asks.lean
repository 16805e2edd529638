/-! ===== calls that ask, without numbers (own work) ===== -/
theorem n0 : (nI 0 : Int32) = 0 := rfl
theorem n1 : ¬ (nI 1 : Int32) = 0 := by decide
theorem o_content {σ : bSto} (hI : INV σ) : ∃ r σ1 σ2, f_X11_content σ = some (r, σ1) ∧ f_X12_content σ1 = some (r, σ2) ∧ INV σ2 := by
  simp only [f_X12_content]
  have hk := hI.2.2.1.1
  rcases hI.2.2.2.2 with hN | ⟨v, s, bel, S, D, hV, -⟩
  · refine OP_no hI (-1) 1 (by decide) ?_ (fun τ hA => ?_)
    · rw [f_X11_content, if_pos hk, hN.1.1, if_pos n0, ref_eq, bbd_s]; rfl
    · rw [(hN.ao hk hA).1.2, if_pos n0, no_eq, bbd_s]; rfl
  · refine OP_yes hI (nI (cmk v s (v 2))) ?_ (fun τ hA => ?_)
    · obtain ⟨⟨hi, hm⟩, ⟨w, wt, we, wr⟩, mv, ⟨ch', cf, ct, ce, cr', ft⟩, ⟨hs, h0, cn', mn⟩, ⟨cb, mb⟩, ⟨hS, hS1, hS2⟩, hD, hD1, hD2⟩ := hV
      rw [f_X11_content, if_pos hk, hi, if_neg n1]
      rw [if_pos hk, if_pos hk, ch'.2.2.2.2.2.1, s_contentBits w ch' cf cn' hs w.2.2.1.2, bbd_s, ans_eq, bbd_s]; rfl
    · obtain ⟨⟨hi, hm⟩, ⟨w, wt, we, wr⟩, mv, ⟨ch', cf, ct, ce, cr', ft⟩, ⟨hs, h0, cn', mn⟩, ⟨cb, mb⟩, ⟨hS, hS1, hS2⟩, hD, hD1, hD2⟩ := hV.ao hk hA
      rw [hm, if_neg n1]
      rw [mv.at 2 (by decide) (by decide), s_contentOn w mv mn (by decide) hs w.2.2.1.2, bbd_s]
theorem o_rents {σ : bSto} (hI : INV σ) : ∃ r σ1 σ2, f_X11_rents σ = some (r, σ1) ∧ f_X12_rents σ1 = some (r, σ2) ∧ INV σ2 := by
  simp only [f_X12_rents]
  have hk := hI.2.2.1.1
  rcases hI.2.2.2.2 with hN | ⟨v, s, bel, S, D, hV, -⟩
  · refine OP_no hI (-1) 1 (by decide) ?_ (fun τ hA => ?_)
    · rw [f_X11_rents, if_pos hk, hN.1.1, if_pos n0, ref_eq, bbd_s]; rfl
    · rw [(hN.ao hk hA).1.2, if_pos n0, no_eq, bbd_s]; rfl
  · refine OP_yes hI (nI (rnt v s)) ?_ (fun τ hA => ?_)
    · obtain ⟨⟨hi, hm⟩, ⟨w, wt, we, wr⟩, mv, ⟨ch', cf, ct, ce, cr', ft⟩, ⟨hs, h0, cn', mn⟩, ⟨cb, mb⟩, ⟨hS, hS1, hS2⟩, hD, hD1, hD2⟩ := hV
      rw [f_X11_rents, if_pos hk, hi, if_neg n1]
      rw [if_pos hk, s_rentNow w ch' cn' hs, bbd_s, ans_eq, bbd_s]; rfl
    · obtain ⟨⟨hi, hm⟩, ⟨w, wt, we, wr⟩, mv, ⟨ch', cf, ct, ce, cr', ft⟩, ⟨hs, h0, cn', mn⟩, ⟨cb, mb⟩, ⟨hS, hS1, hS2⟩, hD, hD1, hD2⟩ := hV.ao hk hA
      rw [hm, if_neg n1]
      rw [show (0 : Int32) = nI 0 from rfl, s_rentsM w mv mn hs h0]
      rfl
theorem o_heatFor {σ : bSto} (hI : INV σ) : ∃ r σ1 σ2, f_X11_heatFor σ = some (r, σ1) ∧ f_X12_heatFor σ1 = some (r, σ2) ∧ INV σ2 := by
  simp only [f_X12_heatFor]
  have hk := hI.2.2.1.1
  rcases hI.2.2.2.2 with hN | ⟨v, s, bel, S, D, hV, -⟩
  · refine OP_no hI (-1) 1 (by decide) ?_ (fun τ hA => ?_)
    · rw [f_X11_heatFor, if_pos hk, hN.1.1, if_pos n0, ref_eq, bbd_s]; rfl
    · rw [(hN.ao hk hA).1.2, if_pos n0, no_eq, bbd_s]; rfl
  · refine OP_yes hI (nI (lht v s)) ?_ (fun τ hA => ?_)
    · obtain ⟨⟨hi, hm⟩, ⟨w, wt, we, wr⟩, mv, ⟨ch', cf, ct, ce, cr', ft⟩, ⟨hs, h0, cn', mn⟩, ⟨cb, mb⟩, ⟨hS, hS1, hS2⟩, hD, hD1, hD2⟩ := hV
      rw [f_X11_heatFor, if_pos hk, hi, if_neg n1]
      rw [if_pos hk, s_leastHeat w ch' cf cn' hs, bbd_s, ans_eq, bbd_s]; rfl
    · obtain ⟨⟨hi, hm⟩, ⟨w, wt, we, wr⟩, mv, ⟨ch', cf, ct, ce, cr', ft⟩, ⟨hs, h0, cn', mn⟩, ⟨cb, mb⟩, ⟨hS, hS1, hS2⟩, hD, hD1, hD2⟩ := hV.ao hk hA
      rw [hm, if_neg n1]
      rw [show (60 : Int32) = nI 60 from rfl, s_contentOn w mv mn (by decide) hs (by decide), bbd_s, s_ones (cmk_lt w s 60), bbd_s]
      rw [show (1 : Int32) = nI 1 from rfl, show pop 8 (cmk v s 60) = cn v s 60 from rfl, s_heatForM w mv mn hs]
      rfl
theorem o_trains {σ : bSto} (hI : INV σ) : ∃ r σ1 σ2, f_X11_trains σ = some (r, σ1) ∧ f_X12_trains σ1 = some (r, σ2) ∧ INV σ2 := by
  simp only [f_X12_trains]
  have hk := hI.2.2.1.1
  rcases hI.2.2.2.2 with hN | ⟨v, s, bel, S, D, hV, -⟩
  · refine OP_no hI (-1) 1 (by decide) ?_ (fun τ hA => ?_)
    · rw [f_X11_trains, if_pos hk, hN.1.1, if_pos n0, ref_eq, bbd_s]; rfl
    · rw [(hN.ao hk hA).1.2, if_pos n0, no_eq, bbd_s]; rfl
  · refine OP_yes hI (nI (trN v 77)) ?_ (fun τ hA => ?_)
    · obtain ⟨⟨hi, hm⟩, ⟨w, wt, we, wr⟩, mv, ⟨ch', cf, ct, ce, cr', ft⟩, ⟨hs, h0, cn', mn⟩, ⟨cb, mb⟩, ⟨hS, hS1, hS2⟩, hD, hD1, hD2⟩ := hV
      rw [f_X11_trains, if_pos hk, hi, if_neg n1]
      rw [if_pos hk, ft.1, ans_eq, bbd_s]; rfl
    · obtain ⟨⟨hi, hm⟩, ⟨w, wt, we, wr⟩, mv, ⟨ch', cf, ct, ce, cr', ft⟩, ⟨hs, h0, cn', mn⟩, ⟨cb, mb⟩, ⟨hS, hS1, hS2⟩, hD, hD1, hD2⟩ := hV.ao hk hA
      rw [hm, if_neg n1]
      rw [s_trainsM wr mv, bbd_s]
theorem o_listen {σ : bSto} (hI : INV σ) : ∃ r σ1 σ2, f_X11_listen σ = some (r, σ1) ∧ f_X12_listen σ1 = some (r, σ2) ∧ INV σ2 := by
  simp only [f_X12_listen]
  have hk := hI.2.2.1.1
  rcases hI.2.2.2.2 with hN | ⟨v, s, bel, S, D, hV, -⟩
  · refine OP_no hI (-1) 1 (by decide) ?_ (fun τ hA => ?_)
    · rw [f_X11_listen, if_pos hk, hN.1.1, if_pos n0, ref_eq, bbd_s]; rfl
    · rw [(hN.ao hk hA).1.2, if_pos n0, no_eq, bbd_s]; rfl
  · refine OP_yes hI (if trN v 77 = 0 then -2 else nI (lis v)) ?_ (fun τ hA => ?_)
    · obtain ⟨⟨hi, hm⟩, ⟨w, wt, we, wr⟩, mv, ⟨ch', cf, ct, ce, cr', ft⟩, ⟨hs, h0, cn', mn⟩, ⟨cb, mb⟩, ⟨hS, hS1, hS2⟩, hD, hD1, hD2⟩ := hV
      rw [f_X11_listen, if_pos hk, hi, if_neg n1]
      rw [if_pos hk, s_bestHour ft, bbd_s, ans_eq, bbd_s]; rfl
    · obtain ⟨⟨hi, hm⟩, ⟨w, wt, we, wr⟩, mv, ⟨ch', cf, ct, ce, cr', ft⟩, ⟨hs, h0, cn', mn⟩, ⟨cb, mb⟩, ⟨hS, hS1, hS2⟩, hD, hD1, hD2⟩ := hV.ao hk hA
      rw [hm, if_neg n1]
      rw [s_listenOf wr mv, bbd_s]
