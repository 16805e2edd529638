/-! ===== calls that only tell; sizes (own work) ===== -/
theorem INV.thr {σ : bSto} (h : INV σ) (y : Int32) : INV (bI σ 92 0 y) := by
  refine h.keep (AO.set _ _ (by unfold Bs; omega)) ?_ ?_
  · rw [bI_ne (by omega), bI_ne (by omega)]; exact h.2.2.2.1.1
  · rw [bI_ne (by omega), bI_ne (by omega), bI_ne (by omega)]; exact h.2.2.2.1.2.2
theorem o_fault {σ : bSto} (hI : INV σ) : ∃ r σ1 σ2, f_X11_fault σ = some (r, σ1) ∧ f_X12_fault σ1 = some (r, σ2) ∧ INV σ2 := by
  refine ⟨σ.1 0 9, σ, bI σ 92 0 0, rfl, ?_, hI.thr 0⟩
  rw [f_X12_fault, blet, bI_ne (by omega), hI.2.2.2.1.2.1]
theorem o_trouble {σ : bSto} (hI : INV σ) : ∃ r σ1 σ2, f_X11_trouble σ = some (r, σ1) ∧ f_X12_trouble σ1 = some (r, σ2) ∧ INV σ2 := by
  refine ⟨σ.1 0 8, σ, bI σ 92 0 0, rfl, ?_, hI.thr 0⟩
  rw [f_X12_trouble, blet, bI_ne (by omega), hI.2.2.2.1.1]
theorem o_where {σ : bSto} (hI : INV σ) : ∃ r σ1 σ2, f_X11_where σ = some (r, σ1) ∧ f_X12_where σ1 = some (r, σ2) ∧ INV σ2 := by
  by_cases h : σ.1 92 11 = (4 : Int32)
  · refine ⟨σ.1 0 10, σ, bI σ 92 0 0, ?_, ?_, hI.thr 0⟩
    · rw [f_X11_where, hI.2.2.2.1.1, if_pos h]
    · rw [f_X12_where, blet, bI_ne (by omega), if_pos h, bI_ne (by omega), hI.2.2.2.1.2.2 h]
  · refine ⟨-1, σ, bI σ 92 0 0, ?_, ?_, hI.thr 0⟩
    · rw [f_X11_where, hI.2.2.2.1.1, if_neg h]
    · rw [f_X12_where, blet, bI_ne (by omega), if_neg h]
theorem o_size {σ : bSto} (hI : INV σ) (x : Int32) : ∃ r σ1 σ2, f_X11_size x σ = some (r, σ1) ∧ f_X12_size x σ1 = some (r, σ2) ∧ INV σ2 := by
  have hk := hI.2.2.1.1
  have hk' : σ.2.2 0 7 = 7 ∨ σ.2.2 0 7 = 69 := hk
  obtain ⟨tx, L, t1, ⟨t2, t3⟩, -⟩ := hI.1
  by_cases hx : ∃ d, d ≤ 13 ∧ x = nI d
  · obtain ⟨d, hd, rfl⟩ := hx
    rcases hI.2.2.2.2 with hN | ⟨v, s, bel, S, D, hV, n, x', m, hP⟩
    · rcases (by omega : d = 0 ∨ d = 1 ∨ d = 2 ∨ d = 3 ∨ d = 4 ∨ d = 5 ∨ d = 6 ∨ d = 7 ∨ d = 8 ∨ d = 9 ∨ d = 10 ∨ d = 11 ∨ d = 12 ∨ d = 13) with rfl | rfl | rfl | rfl | rfl | rfl | rfl | rfl | rfl | rfl | rfl | rfl | rfl | rfl
      · refine ⟨nI 0, σ, bI σ 92 0 0, ?_, ?_, hI.thr 0⟩
        · rw [f_X11_size, if_pos (show (nI 0 : Int32) = 0 from rfl), if_pos hk, hN.2.1.2.1]
        · rw [f_X12_size, blet, if_neg (show ¬ (nI 0 : Int32) = 13 by decide), bI_ne (by omega), hN.1.2, if_pos n0, in_y (N := 12) (y := 12) (by omega) (by omega) rfl, bbd_s, if_neg (show ¬ (1 : Int32) = 0 by decide)]; rfl
      · refine ⟨nI 0, σ, bI σ 92 0 0, ?_, ?_, hI.thr 0⟩
        · rw [f_X11_size, if_neg (show ¬ (nI 1 : Int32) = 0 by decide), if_pos (show (nI 1 : Int32) = 1 from rfl), if_pos hk, hN.2.1.2.2.1]
        · rw [f_X12_size, blet, if_neg (show ¬ (nI 1 : Int32) = 13 by decide), bI_ne (by omega), hN.1.2, if_pos n0, in_y (N := 12) (y := 12) (by omega) (by omega) rfl, bbd_s, if_neg (show ¬ (1 : Int32) = 0 by decide)]; rfl
      · refine ⟨nI 0, σ, bI σ 92 0 0, ?_, ?_, hI.thr 0⟩
        · rw [f_X11_size, if_neg (show ¬ (nI 2 : Int32) = 0 by decide), if_neg (show ¬ (nI 2 : Int32) = 1 by decide), if_pos (show (nI 2 : Int32) = 2 from rfl), if_pos hk, hN.2.1.2.2.2]
        · rw [f_X12_size, blet, if_neg (show ¬ (nI 2 : Int32) = 13 by decide), bI_ne (by omega), hN.1.2, if_pos n0, in_y (N := 12) (y := 12) (by omega) (by omega) rfl, bbd_s, if_neg (show ¬ (1 : Int32) = 0 by decide)]; rfl
      · refine ⟨nI 0, σ, bI σ 92 0 0, ?_, ?_, hI.thr 0⟩
        · rw [f_X11_size, if_neg (show ¬ (nI 3 : Int32) = 0 by decide), if_neg (show ¬ (nI 3 : Int32) = 1 by decide), if_neg (show ¬ (nI 3 : Int32) = 2 by decide), if_pos (show (nI 3 : Int32) = 3 from rfl), if_pos hk, hN.2.1.1]
        · rw [f_X12_size, blet, if_neg (show ¬ (nI 3 : Int32) = 13 by decide), bI_ne (by omega), hN.1.2, if_pos n0, in_y (N := 12) (y := 12) (by omega) (by omega) rfl, bbd_s, if_neg (show ¬ (1 : Int32) = 0 by decide)]; rfl
      · refine ⟨nI 0, σ, bI σ 92 0 0, ?_, ?_, hI.thr 0⟩
        · rw [f_X11_size, if_neg (show ¬ (nI 4 : Int32) = 0 by decide), if_neg (show ¬ (nI 4 : Int32) = 1 by decide), if_neg (show ¬ (nI 4 : Int32) = 2 by decide), if_neg (show ¬ (nI 4 : Int32) = 3 by decide), if_pos (show (nI 4 : Int32) = 4 from rfl), if_pos hk, hN.2.2.1.1]
        · rw [f_X12_size, blet, if_neg (show ¬ (nI 4 : Int32) = 13 by decide), bI_ne (by omega), hN.1.2, if_pos n0, in_y (N := 12) (y := 12) (by omega) (by omega) rfl, bbd_s, if_neg (show ¬ (1 : Int32) = 0 by decide)]; rfl
      · refine ⟨nI 0, σ, bI σ 92 0 0, ?_, ?_, hI.thr 0⟩
        · rw [f_X11_size, if_neg (show ¬ (nI 5 : Int32) = 0 by decide), if_neg (show ¬ (nI 5 : Int32) = 1 by decide), if_neg (show ¬ (nI 5 : Int32) = 2 by decide), if_neg (show ¬ (nI 5 : Int32) = 3 by decide), if_neg (show ¬ (nI 5 : Int32) = 4 by decide), if_pos (show (nI 5 : Int32) = 5 from rfl), if_pos hk, hN.2.2.1.2.1]
        · rw [f_X12_size, blet, if_neg (show ¬ (nI 5 : Int32) = 13 by decide), bI_ne (by omega), hN.1.2, if_pos n0, in_y (N := 12) (y := 12) (by omega) (by omega) rfl, bbd_s, if_neg (show ¬ (1 : Int32) = 0 by decide)]; rfl
      · refine ⟨nI 0, σ, bI σ 92 0 0, ?_, ?_, hI.thr 0⟩
        · rw [f_X11_size, if_neg (show ¬ (nI 6 : Int32) = 0 by decide), if_neg (show ¬ (nI 6 : Int32) = 1 by decide), if_neg (show ¬ (nI 6 : Int32) = 2 by decide), if_neg (show ¬ (nI 6 : Int32) = 3 by decide), if_neg (show ¬ (nI 6 : Int32) = 4 by decide), if_neg (show ¬ (nI 6 : Int32) = 5 by decide), if_pos (show (nI 6 : Int32) = 6 from rfl), if_pos hk, hN.2.2.1.2.2]
        · rw [f_X12_size, blet, if_neg (show ¬ (nI 6 : Int32) = 13 by decide), bI_ne (by omega), hN.1.2, if_pos n0, in_y (N := 12) (y := 12) (by omega) (by omega) rfl, bbd_s, if_neg (show ¬ (1 : Int32) = 0 by decide)]; rfl
      · refine ⟨nI 0, σ, bI σ 92 0 0, ?_, ?_, hI.thr 0⟩
        · rw [f_X11_size, if_neg (show ¬ (nI 7 : Int32) = 0 by decide), if_neg (show ¬ (nI 7 : Int32) = 1 by decide), if_neg (show ¬ (nI 7 : Int32) = 2 by decide), if_neg (show ¬ (nI 7 : Int32) = 3 by decide), if_neg (show ¬ (nI 7 : Int32) = 4 by decide), if_neg (show ¬ (nI 7 : Int32) = 5 by decide), if_neg (show ¬ (nI 7 : Int32) = 6 by decide), if_pos (show (nI 7 : Int32) = 7 from rfl), if_pos hk, hN.2.2.2.1.2]
        · rw [f_X12_size, blet, if_neg (show ¬ (nI 7 : Int32) = 13 by decide), bI_ne (by omega), hN.1.2, if_pos n0, in_y (N := 12) (y := 12) (by omega) (by omega) rfl, bbd_s, if_neg (show ¬ (1 : Int32) = 0 by decide)]; rfl
      · refine ⟨nI 0, σ, bI σ 92 0 0, ?_, ?_, hI.thr 0⟩
        · rw [f_X11_size, if_neg (show ¬ (nI 8 : Int32) = 0 by decide), if_neg (show ¬ (nI 8 : Int32) = 1 by decide), if_neg (show ¬ (nI 8 : Int32) = 2 by decide), if_neg (show ¬ (nI 8 : Int32) = 3 by decide), if_neg (show ¬ (nI 8 : Int32) = 4 by decide), if_neg (show ¬ (nI 8 : Int32) = 5 by decide), if_neg (show ¬ (nI 8 : Int32) = 6 by decide), if_neg (show ¬ (nI 8 : Int32) = 7 by decide), if_pos (show (nI 8 : Int32) = 8 from rfl), if_pos hk, f_X10_quietCount, hN.2.2.2.1.1, hN.2.2.2.1.2, bbd_s]; rfl
        · rw [f_X12_size, blet, if_neg (show ¬ (nI 8 : Int32) = 13 by decide), bI_ne (by omega), hN.1.2, if_pos n0, in_y (N := 12) (y := 12) (by omega) (by omega) rfl, bbd_s, if_neg (show ¬ (1 : Int32) = 0 by decide)]; rfl
      · refine ⟨nI 0, σ, bI σ 92 0 0, ?_, ?_, hI.thr 0⟩
        · rw [f_X11_size, if_neg (show ¬ (nI 9 : Int32) = 0 by decide), if_neg (show ¬ (nI 9 : Int32) = 1 by decide), if_neg (show ¬ (nI 9 : Int32) = 2 by decide), if_neg (show ¬ (nI 9 : Int32) = 3 by decide), if_neg (show ¬ (nI 9 : Int32) = 4 by decide), if_neg (show ¬ (nI 9 : Int32) = 5 by decide), if_neg (show ¬ (nI 9 : Int32) = 6 by decide), if_neg (show ¬ (nI 9 : Int32) = 7 by decide), if_neg (show ¬ (nI 9 : Int32) = 8 by decide), if_pos (show (nI 9 : Int32) = 9 from rfl), hN.2.2.2.2.1.1]
        · rw [f_X12_size, blet, if_neg (show ¬ (nI 9 : Int32) = 13 by decide), bI_ne (by omega), hN.1.2, if_pos n0, in_y (N := 12) (y := 12) (by omega) (by omega) rfl, bbd_s, if_neg (show ¬ (1 : Int32) = 0 by decide)]; rfl
      · refine ⟨nI 0, σ, bI σ 92 0 0, ?_, ?_, hI.thr 0⟩
        · rw [f_X11_size, if_neg (show ¬ (nI 10 : Int32) = 0 by decide), if_neg (show ¬ (nI 10 : Int32) = 1 by decide), if_neg (show ¬ (nI 10 : Int32) = 2 by decide), if_neg (show ¬ (nI 10 : Int32) = 3 by decide), if_neg (show ¬ (nI 10 : Int32) = 4 by decide), if_neg (show ¬ (nI 10 : Int32) = 5 by decide), if_neg (show ¬ (nI 10 : Int32) = 6 by decide), if_neg (show ¬ (nI 10 : Int32) = 7 by decide), if_neg (show ¬ (nI 10 : Int32) = 8 by decide), if_neg (show ¬ (nI 10 : Int32) = 9 by decide), if_pos (show (nI 10 : Int32) = 10 from rfl), hN.2.2.2.2.1.2]
        · rw [f_X12_size, blet, if_neg (show ¬ (nI 10 : Int32) = 13 by decide), bI_ne (by omega), hN.1.2, if_pos n0, in_y (N := 12) (y := 12) (by omega) (by omega) rfl, bbd_s, if_neg (show ¬ (1 : Int32) = 0 by decide)]; rfl
      · refine ⟨nI 0, σ, bI σ 92 0 0, ?_, ?_, hI.thr 0⟩
        · rw [f_X11_size, if_neg (show ¬ (nI 11 : Int32) = 0 by decide), if_neg (show ¬ (nI 11 : Int32) = 1 by decide), if_neg (show ¬ (nI 11 : Int32) = 2 by decide), if_neg (show ¬ (nI 11 : Int32) = 3 by decide), if_neg (show ¬ (nI 11 : Int32) = 4 by decide), if_neg (show ¬ (nI 11 : Int32) = 5 by decide), if_neg (show ¬ (nI 11 : Int32) = 6 by decide), if_neg (show ¬ (nI 11 : Int32) = 7 by decide), if_neg (show ¬ (nI 11 : Int32) = 8 by decide), if_neg (show ¬ (nI 11 : Int32) = 9 by decide), if_neg (show ¬ (nI 11 : Int32) = 10 by decide), if_pos (show (nI 11 : Int32) = 11 from rfl), hN.2.2.2.2.2.1.1]
        · rw [f_X12_size, blet, if_neg (show ¬ (nI 11 : Int32) = 13 by decide), bI_ne (by omega), hN.1.2, if_pos n0, in_y (N := 12) (y := 12) (by omega) (by omega) rfl, bbd_s, if_neg (show ¬ (1 : Int32) = 0 by decide)]; rfl
      · refine ⟨nI 0, σ, bI σ 92 0 0, ?_, ?_, hI.thr 0⟩
        · rw [f_X11_size, if_neg (show ¬ (nI 12 : Int32) = 0 by decide), if_neg (show ¬ (nI 12 : Int32) = 1 by decide), if_neg (show ¬ (nI 12 : Int32) = 2 by decide), if_neg (show ¬ (nI 12 : Int32) = 3 by decide), if_neg (show ¬ (nI 12 : Int32) = 4 by decide), if_neg (show ¬ (nI 12 : Int32) = 5 by decide), if_neg (show ¬ (nI 12 : Int32) = 6 by decide), if_neg (show ¬ (nI 12 : Int32) = 7 by decide), if_neg (show ¬ (nI 12 : Int32) = 8 by decide), if_neg (show ¬ (nI 12 : Int32) = 9 by decide), if_neg (show ¬ (nI 12 : Int32) = 10 by decide), if_neg (show ¬ (nI 12 : Int32) = 11 by decide), if_pos (show (nI 12 : Int32) = 12 from rfl), hN.2.2.2.2.2.1.2]
        · rw [f_X12_size, blet, if_neg (show ¬ (nI 12 : Int32) = 13 by decide), bI_ne (by omega), hN.1.2, if_pos n0, in_y (N := 12) (y := 12) (by omega) (by omega) rfl, bbd_s, if_neg (show ¬ (1 : Int32) = 0 by decide)]; rfl
      · refine ⟨nI L, σ, bI σ 92 0 0, ?_, ?_, hI.thr 0⟩
        · rw [f_X11_size, if_neg (show ¬ (nI 13 : Int32) = 0 by decide), if_neg (show ¬ (nI 13 : Int32) = 1 by decide), if_neg (show ¬ (nI 13 : Int32) = 2 by decide), if_neg (show ¬ (nI 13 : Int32) = 3 by decide), if_neg (show ¬ (nI 13 : Int32) = 4 by decide), if_neg (show ¬ (nI 13 : Int32) = 5 by decide), if_neg (show ¬ (nI 13 : Int32) = 6 by decide), if_neg (show ¬ (nI 13 : Int32) = 7 by decide), if_neg (show ¬ (nI 13 : Int32) = 8 by decide), if_neg (show ¬ (nI 13 : Int32) = 9 by decide), if_neg (show ¬ (nI 13 : Int32) = 10 by decide), if_neg (show ¬ (nI 13 : Int32) = 11 by decide), if_neg (show ¬ (nI 13 : Int32) = 12 by decide), if_pos (show (nI 13 : Int32) = 13 from rfl), t2]
        · rw [f_X12_size, blet, if_pos (show (nI 13 : Int32) = 13 from rfl), bI_ne (by omega), t3]
    · rcases (by omega : d = 0 ∨ d = 1 ∨ d = 2 ∨ d = 3 ∨ d = 4 ∨ d = 5 ∨ d = 6 ∨ d = 7 ∨ d = 8 ∨ d = 9 ∨ d = 10 ∨ d = 11 ∨ d = 12 ∨ d = 13) with rfl | rfl | rfl | rfl | rfl | rfl | rfl | rfl | rfl | rfl | rfl | rfl | rfl | rfl
      · obtain ⟨⟨hi, hm⟩, ⟨w, wt, we, wr⟩, mv, ⟨ch', cf, ct, ce, cr', ft⟩, ⟨hs, h0, cn', mn⟩, ⟨cb, mb⟩, ⟨hS, hS1, hS2⟩, hD, hD1, hD2⟩ := hV
        refine ⟨nI (v 0), σ, bI σ 92 0 0, ?_, ?_, hI.thr 0⟩
        · rw [f_X11_size, if_pos (show (nI 0 : Int32) = 0 from rfl), if_pos hk, ch'.2.1]
        · rw [f_X12_size, blet, if_neg (show ¬ (nI 0 : Int32) = 13 by decide), bI_ne (by omega), hm, if_neg n1, in_y (N := 8) (y := 8) (by omega) (by omega) rfl, bbd_s, if_neg (show ¬ (1 : Int32) = 0 by decide)]
          simp only [nI_clamp (show 0 < 2 ^ 31 by omega), fcd (show 0 < 406 by omega) (by omega), if_false]
          rw [bI_ne (by omega), mv.at 0 (by decide) (by decide)]
      · obtain ⟨⟨hi, hm⟩, ⟨w, wt, we, wr⟩, mv, ⟨ch', cf, ct, ce, cr', ft⟩, ⟨hs, h0, cn', mn⟩, ⟨cb, mb⟩, ⟨hS, hS1, hS2⟩, hD, hD1, hD2⟩ := hV
        refine ⟨nI (v 1), σ, bI σ 92 0 0, ?_, ?_, hI.thr 0⟩
        · rw [f_X11_size, if_neg (show ¬ (nI 1 : Int32) = 0 by decide), if_pos (show (nI 1 : Int32) = 1 from rfl), if_pos hk, ch'.2.2.1]
        · rw [f_X12_size, blet, if_neg (show ¬ (nI 1 : Int32) = 13 by decide), bI_ne (by omega), hm, if_neg n1, in_y (N := 8) (y := 8) (by omega) (by omega) rfl, bbd_s, if_neg (show ¬ (1 : Int32) = 0 by decide)]
          simp only [nI_clamp (show 1 < 2 ^ 31 by omega), fcd (show 1 < 406 by omega) (by omega), if_false]
          rw [bI_ne (by omega), mv.at 1 (by decide) (by decide)]
      · obtain ⟨⟨hi, hm⟩, ⟨w, wt, we, wr⟩, mv, ⟨ch', cf, ct, ce, cr', ft⟩, ⟨hs, h0, cn', mn⟩, ⟨cb, mb⟩, ⟨hS, hS1, hS2⟩, hD, hD1, hD2⟩ := hV
        refine ⟨nI (v 2), σ, bI σ 92 0 0, ?_, ?_, hI.thr 0⟩
        · rw [f_X11_size, if_neg (show ¬ (nI 2 : Int32) = 0 by decide), if_neg (show ¬ (nI 2 : Int32) = 1 by decide), if_pos (show (nI 2 : Int32) = 2 from rfl), if_pos hk, ch'.2.2.2.2.2.1]
        · rw [f_X12_size, blet, if_neg (show ¬ (nI 2 : Int32) = 13 by decide), bI_ne (by omega), hm, if_neg n1, in_y (N := 8) (y := 8) (by omega) (by omega) rfl, bbd_s, if_neg (show ¬ (1 : Int32) = 0 by decide)]
          simp only [nI_clamp (show 2 < 2 ^ 31 by omega), fcd (show 2 < 406 by omega) (by omega), if_false]
          rw [bI_ne (by omega), mv.at 2 (by decide) (by decide)]
      · obtain ⟨⟨hi, hm⟩, ⟨w, wt, we, wr⟩, mv, ⟨ch', cf, ct, ce, cr', ft⟩, ⟨hs, h0, cn', mn⟩, ⟨cb, mb⟩, ⟨hS, hS1, hS2⟩, hD, hD1, hD2⟩ := hV
        refine ⟨nI (v 3), σ, bI σ 92 0 0, ?_, ?_, hI.thr 0⟩
        · rw [f_X11_size, if_neg (show ¬ (nI 3 : Int32) = 0 by decide), if_neg (show ¬ (nI 3 : Int32) = 1 by decide), if_neg (show ¬ (nI 3 : Int32) = 2 by decide), if_pos (show (nI 3 : Int32) = 3 from rfl), if_pos hk, ch'.1]
        · rw [f_X12_size, blet, if_neg (show ¬ (nI 3 : Int32) = 13 by decide), bI_ne (by omega), hm, if_neg n1, in_y (N := 8) (y := 8) (by omega) (by omega) rfl, bbd_s, if_neg (show ¬ (1 : Int32) = 0 by decide)]
          simp only [nI_clamp (show 3 < 2 ^ 31 by omega), fcd (show 3 < 406 by omega) (by omega), if_false]
          rw [bI_ne (by omega), mv.at 3 (by decide) (by decide)]
      · obtain ⟨⟨hi, hm⟩, ⟨w, wt, we, wr⟩, mv, ⟨ch', cf, ct, ce, cr', ft⟩, ⟨hs, h0, cn', mn⟩, ⟨cb, mb⟩, ⟨hS, hS1, hS2⟩, hD, hD1, hD2⟩ := hV
        refine ⟨nI (v 4), σ, bI σ 92 0 0, ?_, ?_, hI.thr 0⟩
        · rw [f_X11_size, if_neg (show ¬ (nI 4 : Int32) = 0 by decide), if_neg (show ¬ (nI 4 : Int32) = 1 by decide), if_neg (show ¬ (nI 4 : Int32) = 2 by decide), if_neg (show ¬ (nI 4 : Int32) = 3 by decide), if_pos (show (nI 4 : Int32) = 4 from rfl), if_pos hk, cf.1]
        · rw [f_X12_size, blet, if_neg (show ¬ (nI 4 : Int32) = 13 by decide), bI_ne (by omega), hm, if_neg n1, in_y (N := 8) (y := 8) (by omega) (by omega) rfl, bbd_s, if_neg (show ¬ (1 : Int32) = 0 by decide)]
          simp only [nI_clamp (show 4 < 2 ^ 31 by omega), fcd (show 4 < 406 by omega) (by omega), if_false]
          rw [bI_ne (by omega), mv.at 4 (by decide) (by decide)]
      · obtain ⟨⟨hi, hm⟩, ⟨w, wt, we, wr⟩, mv, ⟨ch', cf, ct, ce, cr', ft⟩, ⟨hs, h0, cn', mn⟩, ⟨cb, mb⟩, ⟨hS, hS1, hS2⟩, hD, hD1, hD2⟩ := hV
        refine ⟨nI (v 5), σ, bI σ 92 0 0, ?_, ?_, hI.thr 0⟩
        · rw [f_X11_size, if_neg (show ¬ (nI 5 : Int32) = 0 by decide), if_neg (show ¬ (nI 5 : Int32) = 1 by decide), if_neg (show ¬ (nI 5 : Int32) = 2 by decide), if_neg (show ¬ (nI 5 : Int32) = 3 by decide), if_neg (show ¬ (nI 5 : Int32) = 4 by decide), if_pos (show (nI 5 : Int32) = 5 from rfl), if_pos hk, cf.2.1]
        · rw [f_X12_size, blet, if_neg (show ¬ (nI 5 : Int32) = 13 by decide), bI_ne (by omega), hm, if_neg n1, in_y (N := 8) (y := 8) (by omega) (by omega) rfl, bbd_s, if_neg (show ¬ (1 : Int32) = 0 by decide)]
          simp only [nI_clamp (show 5 < 2 ^ 31 by omega), fcd (show 5 < 406 by omega) (by omega), if_false]
          rw [bI_ne (by omega), mv.at 5 (by decide) (by decide)]
      · obtain ⟨⟨hi, hm⟩, ⟨w, wt, we, wr⟩, mv, ⟨ch', cf, ct, ce, cr', ft⟩, ⟨hs, h0, cn', mn⟩, ⟨cb, mb⟩, ⟨hS, hS1, hS2⟩, hD, hD1, hD2⟩ := hV
        refine ⟨nI (v 6), σ, bI σ 92 0 0, ?_, ?_, hI.thr 0⟩
        · rw [f_X11_size, if_neg (show ¬ (nI 6 : Int32) = 0 by decide), if_neg (show ¬ (nI 6 : Int32) = 1 by decide), if_neg (show ¬ (nI 6 : Int32) = 2 by decide), if_neg (show ¬ (nI 6 : Int32) = 3 by decide), if_neg (show ¬ (nI 6 : Int32) = 4 by decide), if_neg (show ¬ (nI 6 : Int32) = 5 by decide), if_pos (show (nI 6 : Int32) = 6 from rfl), if_pos hk, cf.2.2.1]
        · rw [f_X12_size, blet, if_neg (show ¬ (nI 6 : Int32) = 13 by decide), bI_ne (by omega), hm, if_neg n1, in_y (N := 8) (y := 8) (by omega) (by omega) rfl, bbd_s, if_neg (show ¬ (1 : Int32) = 0 by decide)]
          simp only [nI_clamp (show 6 < 2 ^ 31 by omega), fcd (show 6 < 406 by omega) (by omega), if_false]
          rw [bI_ne (by omega), mv.at 6 (by decide) (by decide)]
      · obtain ⟨⟨hi, hm⟩, ⟨w, wt, we, wr⟩, mv, ⟨ch', cf, ct, ce, cr', ft⟩, ⟨hs, h0, cn', mn⟩, ⟨cb, mb⟩, ⟨hS, hS1, hS2⟩, hD, hD1, hD2⟩ := hV
        refine ⟨nI (v 7), σ, bI σ 92 0 0, ?_, ?_, hI.thr 0⟩
        · rw [f_X11_size, if_neg (show ¬ (nI 7 : Int32) = 0 by decide), if_neg (show ¬ (nI 7 : Int32) = 1 by decide), if_neg (show ¬ (nI 7 : Int32) = 2 by decide), if_neg (show ¬ (nI 7 : Int32) = 3 by decide), if_neg (show ¬ (nI 7 : Int32) = 4 by decide), if_neg (show ¬ (nI 7 : Int32) = 5 by decide), if_neg (show ¬ (nI 7 : Int32) = 6 by decide), if_pos (show (nI 7 : Int32) = 7 from rfl), if_pos hk, cr'.2.1]
        · rw [f_X12_size, blet, if_neg (show ¬ (nI 7 : Int32) = 13 by decide), bI_ne (by omega), hm, if_neg n1, in_y (N := 8) (y := 8) (by omega) (by omega) rfl, bbd_s, if_neg (show ¬ (1 : Int32) = 0 by decide)]
          simp only [nI_clamp (show 7 < 2 ^ 31 by omega), fcd (show 7 < 406 by omega) (by omega), if_false]
          rw [bI_ne (by omega), mv.at 7 (by decide) (by decide)]
      · obtain ⟨⟨hi, hm⟩, ⟨w, wt, we, wr⟩, mv, ⟨ch', cf, ct, ce, cr', ft⟩, ⟨hs, h0, cn', mn⟩, ⟨cb, mb⟩, ⟨hS, hS1, hS2⟩, hD, hD1, hD2⟩ := hV
        refine ⟨nI (v 8), σ, bI σ 92 0 0, ?_, ?_, hI.thr 0⟩
        · rw [f_X11_size, if_neg (show ¬ (nI 8 : Int32) = 0 by decide), if_neg (show ¬ (nI 8 : Int32) = 1 by decide), if_neg (show ¬ (nI 8 : Int32) = 2 by decide), if_neg (show ¬ (nI 8 : Int32) = 3 by decide), if_neg (show ¬ (nI 8 : Int32) = 4 by decide), if_neg (show ¬ (nI 8 : Int32) = 5 by decide), if_neg (show ¬ (nI 8 : Int32) = 6 by decide), if_neg (show ¬ (nI 8 : Int32) = 7 by decide), if_pos (show (nI 8 : Int32) = 8 from rfl), if_pos hk, f_X10_quietCount, cr'.1, cr'.2.1, bbd_s, q_sub (by omega), Nat.add_sub_cancel_left]
        · rw [f_X12_size, blet, if_neg (show ¬ (nI 8 : Int32) = 13 by decide), bI_ne (by omega), hm, if_neg n1, in_y (N := 8) (y := 8) (by omega) (by omega) rfl, bbd_s, if_neg (show ¬ (1 : Int32) = 0 by decide)]
          simp only [nI_clamp (show 8 < 2 ^ 31 by omega), fcd (show 8 < 406 by omega) (by omega), if_false]
          rw [bI_ne (by omega), mv.at 8 (by decide) (by decide)]
      · obtain ⟨⟨hi, hm⟩, ⟨w, wt, we, wr⟩, mv, ⟨ch', cf, ct, ce, cr', ft⟩, ⟨hs, h0, cn', mn⟩, ⟨cb, mb⟩, ⟨hS, hS1, hS2⟩, hD, hD1, hD2⟩ := hV
        refine ⟨nI S, σ, bI σ 92 0 0, ?_, ?_, hI.thr 0⟩
        · rw [f_X11_size, if_neg (show ¬ (nI 9 : Int32) = 0 by decide), if_neg (show ¬ (nI 9 : Int32) = 1 by decide), if_neg (show ¬ (nI 9 : Int32) = 2 by decide), if_neg (show ¬ (nI 9 : Int32) = 3 by decide), if_neg (show ¬ (nI 9 : Int32) = 4 by decide), if_neg (show ¬ (nI 9 : Int32) = 5 by decide), if_neg (show ¬ (nI 9 : Int32) = 6 by decide), if_neg (show ¬ (nI 9 : Int32) = 7 by decide), if_neg (show ¬ (nI 9 : Int32) = 8 by decide), if_pos (show (nI 9 : Int32) = 9 from rfl), hS1]
        · rw [f_X12_size, blet, if_neg (show ¬ (nI 9 : Int32) = 13 by decide), bI_ne (by omega), hm, if_neg n1, in_n (N := 8) (y := 8) (by rintro ⟨d, hd, e⟩; rw [q_eq (by omega) (by omega)] at e; omega) (by omega) rfl, bbd_s, if_pos rfl, if_pos (show (nI 9 : Int32) = 9 from rfl), bI_ne (by omega), hS2]
      · obtain ⟨⟨hi, hm⟩, ⟨w, wt, we, wr⟩, mv, ⟨ch', cf, ct, ce, cr', ft⟩, ⟨hs, h0, cn', mn⟩, ⟨cb, mb⟩, ⟨hS, hS1, hS2⟩, hD, hD1, hD2⟩ := hV
        refine ⟨nI D, σ, bI σ 92 0 0, ?_, ?_, hI.thr 0⟩
        · rw [f_X11_size, if_neg (show ¬ (nI 10 : Int32) = 0 by decide), if_neg (show ¬ (nI 10 : Int32) = 1 by decide), if_neg (show ¬ (nI 10 : Int32) = 2 by decide), if_neg (show ¬ (nI 10 : Int32) = 3 by decide), if_neg (show ¬ (nI 10 : Int32) = 4 by decide), if_neg (show ¬ (nI 10 : Int32) = 5 by decide), if_neg (show ¬ (nI 10 : Int32) = 6 by decide), if_neg (show ¬ (nI 10 : Int32) = 7 by decide), if_neg (show ¬ (nI 10 : Int32) = 8 by decide), if_neg (show ¬ (nI 10 : Int32) = 9 by decide), if_pos (show (nI 10 : Int32) = 10 from rfl), hD1]
        · rw [f_X12_size, blet, if_neg (show ¬ (nI 10 : Int32) = 13 by decide), bI_ne (by omega), hm, if_neg n1, in_n (N := 8) (y := 8) (by rintro ⟨d, hd, e⟩; rw [q_eq (by omega) (by omega)] at e; omega) (by omega) rfl, bbd_s, if_pos rfl, if_neg (show ¬ (nI 10 : Int32) = 9 by decide), if_pos (show (nI 10 : Int32) = 10 from rfl), bI_ne (by omega), hD2]
      · obtain ⟨⟨hi, hm⟩, ⟨w, wt, we, wr⟩, mv, ⟨ch', cf, ct, ce, cr', ft⟩, ⟨hs, h0, cn', mn⟩, ⟨cb, mb⟩, ⟨hS, hS1, hS2⟩, hD, hD1, hD2⟩ := hV
        refine ⟨nI n, σ, bI σ 92 0 0, ?_, ?_, hI.thr 0⟩
        · rw [f_X11_size, if_neg (show ¬ (nI 11 : Int32) = 0 by decide), if_neg (show ¬ (nI 11 : Int32) = 1 by decide), if_neg (show ¬ (nI 11 : Int32) = 2 by decide), if_neg (show ¬ (nI 11 : Int32) = 3 by decide), if_neg (show ¬ (nI 11 : Int32) = 4 by decide), if_neg (show ¬ (nI 11 : Int32) = 5 by decide), if_neg (show ¬ (nI 11 : Int32) = 6 by decide), if_neg (show ¬ (nI 11 : Int32) = 7 by decide), if_neg (show ¬ (nI 11 : Int32) = 8 by decide), if_neg (show ¬ (nI 11 : Int32) = 9 by decide), if_neg (show ¬ (nI 11 : Int32) = 10 by decide), if_pos (show (nI 11 : Int32) = 11 from rfl), hP.2.1.2.1]
        · rw [f_X12_size, blet, if_neg (show ¬ (nI 11 : Int32) = 13 by decide), bI_ne (by omega), hm, if_neg n1, in_n (N := 8) (y := 8) (by rintro ⟨d, hd, e⟩; rw [q_eq (by omega) (by omega)] at e; omega) (by omega) rfl, bbd_s, if_pos rfl, if_neg (show ¬ (nI 11 : Int32) = 9 by decide), if_neg (show ¬ (nI 11 : Int32) = 10 by decide), if_pos (show (nI 11 : Int32) = 11 from rfl), bI_ne (by omega), hP.2.2.1.1]
      · obtain ⟨⟨hi, hm⟩, ⟨w, wt, we, wr⟩, mv, ⟨ch', cf, ct, ce, cr', ft⟩, ⟨hs, h0, cn', mn⟩, ⟨cb, mb⟩, ⟨hS, hS1, hS2⟩, hD, hD1, hD2⟩ := hV
        refine ⟨nI m, σ, bI σ 92 0 0, ?_, ?_, hI.thr 0⟩
        · rw [f_X11_size, if_neg (show ¬ (nI 12 : Int32) = 0 by decide), if_neg (show ¬ (nI 12 : Int32) = 1 by decide), if_neg (show ¬ (nI 12 : Int32) = 2 by decide), if_neg (show ¬ (nI 12 : Int32) = 3 by decide), if_neg (show ¬ (nI 12 : Int32) = 4 by decide), if_neg (show ¬ (nI 12 : Int32) = 5 by decide), if_neg (show ¬ (nI 12 : Int32) = 6 by decide), if_neg (show ¬ (nI 12 : Int32) = 7 by decide), if_neg (show ¬ (nI 12 : Int32) = 8 by decide), if_neg (show ¬ (nI 12 : Int32) = 9 by decide), if_neg (show ¬ (nI 12 : Int32) = 10 by decide), if_neg (show ¬ (nI 12 : Int32) = 11 by decide), if_pos (show (nI 12 : Int32) = 12 from rfl), hP.2.1.2.2]
        · rw [f_X12_size, blet, if_neg (show ¬ (nI 12 : Int32) = 13 by decide), bI_ne (by omega), hm, if_neg n1, in_n (N := 8) (y := 8) (by rintro ⟨d, hd, e⟩; rw [q_eq (by omega) (by omega)] at e; omega) (by omega) rfl, bbd_s, if_pos rfl, if_neg (show ¬ (nI 12 : Int32) = 9 by decide), if_neg (show ¬ (nI 12 : Int32) = 10 by decide), if_neg (show ¬ (nI 12 : Int32) = 11 by decide), if_pos (show (nI 12 : Int32) = 12 from rfl), bI_ne (by omega), hP.2.2.1.2]
      · refine ⟨nI L, σ, bI σ 92 0 0, ?_, ?_, hI.thr 0⟩
        · rw [f_X11_size, if_neg (show ¬ (nI 13 : Int32) = 0 by decide), if_neg (show ¬ (nI 13 : Int32) = 1 by decide), if_neg (show ¬ (nI 13 : Int32) = 2 by decide), if_neg (show ¬ (nI 13 : Int32) = 3 by decide), if_neg (show ¬ (nI 13 : Int32) = 4 by decide), if_neg (show ¬ (nI 13 : Int32) = 5 by decide), if_neg (show ¬ (nI 13 : Int32) = 6 by decide), if_neg (show ¬ (nI 13 : Int32) = 7 by decide), if_neg (show ¬ (nI 13 : Int32) = 8 by decide), if_neg (show ¬ (nI 13 : Int32) = 9 by decide), if_neg (show ¬ (nI 13 : Int32) = 10 by decide), if_neg (show ¬ (nI 13 : Int32) = 11 by decide), if_neg (show ¬ (nI 13 : Int32) = 12 by decide), if_pos (show (nI 13 : Int32) = 13 from rfl), t2]
        · rw [f_X12_size, blet, if_pos (show (nI 13 : Int32) = 13 from rfl), bI_ne (by omega), t3]
  · have nx : ∀ k : Nat, k ≤ 13 → ¬ x = nI k := fun k hk e => hx ⟨k, hk, e⟩
    refine ⟨-1, σ, bI σ 92 0 0, ?_, ?_, hI.thr 0⟩
    · rw [f_X11_size, if_neg (show ¬ x = 0 from nx 0 (by decide)), if_neg (show ¬ x = 1 from nx 1 (by decide)), if_neg (show ¬ x = 2 from nx 2 (by decide)), if_neg (show ¬ x = 3 from nx 3 (by decide)), if_neg (show ¬ x = 4 from nx 4 (by decide)), if_neg (show ¬ x = 5 from nx 5 (by decide)), if_neg (show ¬ x = 6 from nx 6 (by decide)), if_neg (show ¬ x = 7 from nx 7 (by decide)), if_neg (show ¬ x = 8 from nx 8 (by decide)), if_neg (show ¬ x = 9 from nx 9 (by decide)), if_neg (show ¬ x = 10 from nx 10 (by decide)), if_neg (show ¬ x = 11 from nx 11 (by decide)), if_neg (show ¬ x = 12 from nx 12 (by decide)), if_neg (show ¬ x = 13 from nx 13 (by decide))]
    · rw [f_X12_size, blet, if_neg (show ¬ x = 13 from nx 13 (by decide)), in_n (N := 12) (y := 12) (fun ⟨d, hd, e⟩ => hx ⟨d, by omega, e⟩) (by omega) rfl, in_n (N := 8) (y := 8) (fun ⟨d, hd, e⟩ => hx ⟨d, by omega, e⟩) (by omega) rfl, bbd_s, bbd_s, if_pos rfl, if_pos rfl, if_neg (show ¬ x = 9 from nx 9 (by decide)), if_neg (show ¬ x = 10 from nx 10 (by decide)), if_neg (show ¬ x = 11 from nx 11 (by decide)), if_neg (show ¬ x = 12 from nx 12 (by decide))]
      split <;> rfl
