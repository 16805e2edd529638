/-! ===== calls that ask with a number (own work) ===== -/
theorem rng_of {x : Int32} (hx : ¬ x < 0) {N : Nat} (hN : N < 2 ^ 31) (h : x ≤ nI N) : ∃ d, d ≤ N ∧ x = nI d := by
  obtain ⟨j, hj, rfl⟩ := nI_of hx
  rw [q_le hj hN] at h
  exact ⟨j, h, rfl⟩
theorem in_y {d N : Nat} (hd : d ≤ N) (hN : N < 2 ^ 31) {y : Int32} (hy : y = nI N) (σ : bSto) : f_X12_in (nI d) (0 : Int32) y σ = some ((1 : Int32), σ) := by
  rw [hy, show (0 : Int32) = nI 0 from rfl, s_in (by omega) (by omega) hN, decide_eq_true ⟨Nat.zero_le _, hd⟩]
  rfl
theorem in_n {x : Int32} {N : Nat} (h : ¬ ∃ d, d ≤ N ∧ x = nI d) (hN : N < 2 ^ 31) {y : Int32} (hy : y = nI N) (σ : bSto) : f_X12_in x (0 : Int32) y σ = some ((0 : Int32), σ) := by
  rw [hy, f_X12_in]
  by_cases hx : x < 0
  · rw [if_pos hx]; rfl
  · rw [if_neg hx, if_pos (Int32.not_le.mp (fun z => h (rng_of hx hN z)))]
    rfl
theorem rg_y {α : Type} {d N : Nat} (hd : d ≤ N) (hN : N < 2 ^ 31) {y : Int32} (hy : y = nI N) (A B : α) : (if nI d < 0 then A else if nI d ≤ y then B else A) = B := by
  rw [hy, if_neg (nI_pos (by omega)), if_pos (nI_le hd hN)]
theorem rg_n {α : Type} {x : Int32} {N : Nat} (h : ¬ ∃ d, d ≤ N ∧ x = nI d) (hN : N < 2 ^ 31) {y : Int32} (hy : y = nI N) (A B : α) : (if x < 0 then A else if x ≤ y then B else A) = A := by
  by_cases hx : x < 0
  · rw [if_pos hx]
  · rw [if_neg hx, if_neg (fun z => h (rng_of hx hN (by rw [← hy]; exact z)))]
theorem hour_y {d : Nat} (hd : d ≤ 99) (σ : bSto) : f_X11_isHour (nI d) σ = some ((1 : Int32), σ) := by
  rw [f_X11_isHour, if_neg (nI_pos (by omega)), if_neg (show ¬ (100 : Int32) ≤ nI d from nI_ge (a := d) (b := 100) (by omega) (by omega))]
theorem hour_n {x : Int32} (h : ¬ ∃ d, d ≤ 99 ∧ x = nI d) (σ : bSto) : f_X11_isHour x σ = some ((0 : Int32), σ) := by
  rw [f_X11_isHour]
  by_cases hx : x < 0
  · rw [if_pos hx]; rfl
  · obtain ⟨j, hj, rfl⟩ := nI_of hx
    rw [if_neg hx, if_pos (show (100 : Int32) ≤ nI j from nI_le (a := 100) (by
      by_cases z : 100 ≤ j
      · exact z
      · exact absurd ⟨j, by omega, rfl⟩ h) hj)]
    rfl
theorem crowd_y {d : Nat} (hd : d ≤ 99) (σ : bSto) : f_X11_isCrowd (nI d) σ = some ((1 : Int32), σ) := by
  rw [f_X11_isCrowd, if_neg (nI_pos (by omega)), if_neg (show ¬ (99 : Int32) < nI d from nI_nlt (a := 99) hd (by omega))]
theorem crowd_n {x : Int32} (h : ¬ ∃ d, d ≤ 99 ∧ x = nI d) (σ : bSto) : f_X11_isCrowd x σ = some ((0 : Int32), σ) := by
  rw [f_X11_isCrowd]
  by_cases hx : x < 0
  · rw [if_pos hx]; rfl
  · rw [if_neg hx, if_pos (show (99 : Int32) < x from Int32.not_le.mp (fun z => h (rng_of (N := 99) hx (by omega) z)))]
    rfl
theorem loud_y {d : Nat} (hd : d ≤ 6) (σ : bSto) : f_X11_isLoudness (nI d) σ = some ((1 : Int32), σ) := by
  rw [f_X11_isLoudness, if_neg (nI_pos (by omega)), if_neg (show ¬ (6 : Int32) < nI d from nI_nlt (a := 6) hd (by omega))]
theorem loud_n {x : Int32} (h : ¬ ∃ d, d ≤ 6 ∧ x = nI d) (σ : bSto) : f_X11_isLoudness x σ = some ((0 : Int32), σ) := by
  rw [f_X11_isLoudness]
  by_cases hx : x < 0
  · rw [if_pos hx]; rfl
  · rw [if_neg hx, if_pos (show (6 : Int32) < x from Int32.not_le.mp (fun z => h (rng_of (N := 6) hx (by omega) z)))]
    rfl
theorem o_fed {σ : bSto} (hI : INV σ) : ∃ r σ1 σ2, f_X11_fed σ = some (r, σ1) ∧ f_X12_fed σ1 = some (r, σ2) ∧ INV σ2 := by
  simp only [f_X12_fed]
  have hk := hI.2.2.1.1
  rcases hI.2.2.2.2 with hN | ⟨v, s, bel, S, D, hV, -⟩
  · refine OP_no hI (-1) 1 (by decide) ?_ (fun τ hA => ?_)
    · rw [f_X11_fed, if_pos hk, hN.1.1, if_pos n0, ref_eq, bbd_s]; rfl
    · rw [(hN.ao hk hA).1.2, if_pos n0, no_eq, bbd_s]; rfl
  · have h7 := hV.2.1.1.2.2.2.2.1
    refine OP_yes hI (if v 4 = 0 then -2 else nI S / nI (v 4)) ?_ (fun τ hA => ?_)
    · obtain ⟨⟨hi, hm⟩, ⟨w, wt, we, wr⟩, mv, ⟨ch', cf, ct, ce, cr', ft⟩, ⟨hs, h0, cn', mn⟩, ⟨cb, mb⟩, ⟨hS, hS1, hS2⟩, hD, hD1, hD2⟩ := hV
      rw [f_X11_fed, if_pos hk, hi, if_neg n1, if_pos hk, blet, cf.1, hS1]
      by_cases z : v 4 = 0
      · rw [if_pos z, z, if_pos (show (nI 0 : Int32) ≤ 0 by decide), ans_eq, bbd_s]; rfl
      · rw [if_neg z, if_neg (nI_nle (by omega) (by omega)), if_neg (nI_ne0 (by omega) (by omega)), ans_eq, bbd_s]; rfl
    · obtain ⟨⟨hi, hm⟩, ⟨w, wt, we, wr⟩, mv, ⟨ch', cf, ct, ce, cr', ft⟩, ⟨hs, h0, cn', mn⟩, ⟨cb, mb⟩, ⟨hS, hS1, hS2⟩, hD, hD1, hD2⟩ := hV.ao hk hA
      rw [hm, if_neg n1, mv.at 4 (by decide) (by decide), hS2]
      by_cases z : v 4 = 0
      · rw [if_pos z, z, if_pos (show (nI 0 : Int32) = 0 from rfl)]
      · rw [if_neg z, if_neg (nI_ne0 (by omega) (by omega)), if_neg (nI_ne0 (by omega) (by omega))]
theorem o_left {σ : bSto} (hI : INV σ) (x : Int32) : ∃ r σ1 σ2, f_X11_left x σ = some (r, σ1) ∧ f_X12_left x σ1 = some (r, σ2) ∧ INV σ2 := by
  simp only [f_X12_left]
  have hk := hI.2.2.1.1
  rcases hI.2.2.2.2 with hN | ⟨v, s, bel, S, D, hV, -⟩
  · refine OP_no hI (-1) 1 (by decide) ?_ (fun τ hA => ?_)
    · rw [f_X11_left, if_pos hk, hN.1.1, if_pos n0, ref_eq, bbd_s]; rfl
    · rw [(hN.ao hk hA).1.2, if_pos n0, no_eq, bbd_s]; rfl
  · by_cases hx : ∃ d, d ≤ 99 ∧ x = nI d
    · obtain ⟨d, hd, rfl⟩ := hx
      refine OP_yes hI (nI (lft v S d)) ?_ (fun τ hA => ?_)
      · obtain ⟨⟨hi, hm⟩, ⟨w, wt, we, wr⟩, mv, ⟨ch', cf, ct, ce, cr', ft⟩, ⟨hs, h0, cn', mn⟩, ⟨cb, mb⟩, ⟨hS, hS1, hS2⟩, hD, hD1, hD2⟩ := hV
        rw [f_X11_left, if_pos hk, hi, if_neg n1, rg_y (N := 99) (y := 99) hd (by omega) rfl, s_leftBehind w rfl hk cf hS1 hS hd, bbd_s, ans_eq, bbd_s]; rfl
      · obtain ⟨⟨hi, hm⟩, ⟨w, wt, we, wr⟩, mv, ⟨ch', cf, ct, ce, cr', ft⟩, ⟨hs, h0, cn', mn⟩, ⟨cb, mb⟩, ⟨hS, hS1, hS2⟩, hD, hD1, hD2⟩ := hV.ao hk hA
        rw [hm, if_neg n1, in_y (N := 99) (y := 99) hd (by omega) rfl, bbd_s, if_neg (show ¬ (1 : Int32) = 0 by decide), blet, hS2, mv.at 4 (by decide) (by decide), q_mul, if_some]
        have e := (sub_max (a := S) (b := d * v 4) (by omega) (mul_lt hd w.2.2.2.2.1)).2
        exact congrArg (fun z => some (z, τ)) e
    · refine OP_no hI (-1) 2 (by decide) ?_ (fun τ hA => ?_)
      · rw [f_X11_left, if_pos hk, hV.1.1, if_neg n1, rg_n (N := 99) (y := 99) hx (by omega) rfl, f_X11_left_J26, ref_eq, bbd_s]; rfl
      · rw [(hV.ao hk hA).1.2, if_neg n1, in_n (N := 99) (y := 99) hx (by omega) rfl, bbd_s, if_pos rfl, no_eq, bbd_s]; rfl
theorem o_comes {σ : bSto} (hI : INV σ) (x : Int32) : ∃ r σ1 σ2, f_X11_comes x σ = some (r, σ1) ∧ f_X12_comes x σ1 = some (r, σ2) ∧ INV σ2 := by
  simp only [f_X12_comes]
  have hk := hI.2.2.1.1
  rcases hI.2.2.2.2 with hN | ⟨v, s, bel, S, D, hV, -⟩
  · refine OP_no hI (-1) 1 (by decide) ?_ (fun τ hA => ?_)
    · rw [f_X11_comes, if_pos hk, hN.1.1, if_pos n0, ref_eq, bbd_s]; rfl
    · rw [(hN.ao hk hA).1.2, if_pos n0, no_eq, bbd_s]; rfl
  · by_cases hx : ∃ d, d ≤ 99 ∧ x = nI d
    · obtain ⟨d, hd, rfl⟩ := hx
      refine OP_yes hI (nI (fcN v d false 77)) ?_ (fun τ hA => ?_)
      · obtain ⟨⟨hi, hm⟩, ⟨w, wt, we, wr⟩, mv, ⟨ch', cf, ct, ce, cr', ft⟩, ⟨hs, h0, cn', mn⟩, ⟨cb, mb⟩, ⟨hS, hS1, hS2⟩, hD, hD1, hD2⟩ := hV
        rw [f_X11_comes, if_pos hk, hi, if_neg n1, hour_y hd, bbd_s, if_neg (show ¬ (1 : Int32) = 0 by decide), if_pos hk]
        simp only [nI_clamp (show d < 2 ^ 31 by omega), fcd (show d < 100 by omega) (by omega), if_false]
        rw [ft.2.2 d (by omega), ans_eq, bbd_s]; rfl
      · obtain ⟨⟨hi, hm⟩, ⟨w, wt, we, wr⟩, mv, ⟨ch', cf, ct, ce, cr', ft⟩, ⟨hs, h0, cn', mn⟩, ⟨cb, mb⟩, ⟨hS, hS1, hS2⟩, hD, hD1, hD2⟩ := hV.ao hk hA
        rw [hm, if_neg n1, in_y (N := 99) (y := 99) hd (by omega) rfl, bbd_s, if_neg (show ¬ (1 : Int32) = 0 by decide), s_comesM wr mv (by omega), bbd_s]
    · refine OP_no hI (-1) 2 (by decide) ?_ (fun τ hA => ?_)
      · rw [f_X11_comes, if_pos hk, hV.1.1, if_neg n1, hour_n hx, bbd_s, if_pos rfl, ref_eq, bbd_s]; rfl
      · rw [(hV.ao hk hA).1.2, if_neg n1, in_n (N := 99) (y := 99) hx (by omega) rfl, bbd_s, if_pos rfl, no_eq, bbd_s]; rfl
theorem o_surely {σ : bSto} (hI : INV σ) (x : Int32) : ∃ r σ1 σ2, f_X11_surely x σ = some (r, σ1) ∧ f_X12_surely x σ1 = some (r, σ2) ∧ INV σ2 := by
  simp only [f_X12_surely]
  have hk := hI.2.2.1.1
  rcases hI.2.2.2.2 with hN | ⟨v, s, bel, S, D, hV, -⟩
  · refine OP_no hI (-1) 1 (by decide) ?_ (fun τ hA => ?_)
    · rw [f_X11_surely, if_pos hk, hN.1.1, if_pos n0, ref_eq, bbd_s]; rfl
    · rw [(hN.ao hk hA).1.2, if_pos n0, no_eq, bbd_s]; rfl
  · by_cases hx : ∃ d, d ≤ 99 ∧ x = nI d
    · obtain ⟨d, hd, rfl⟩ := hx
      refine OP_yes hI (sur v d) ?_ (fun τ hA => ?_)
      · obtain ⟨⟨hi, hm⟩, ⟨w, wt, we, wr⟩, mv, ⟨ch', cf, ct, ce, cr', ft⟩, ⟨hs, h0, cn', mn⟩, ⟨cb, mb⟩, ⟨hS, hS1, hS2⟩, hD, hD1, hD2⟩ := hV
        rw [f_X11_surely, if_pos hk, hi, if_neg n1, hour_y hd, bbd_s, if_neg (show ¬ (1 : Int32) = 0 by decide), if_pos hk, s_sureFrom ft (by omega), bbd_s, ans_eq, bbd_s]; rfl
      · obtain ⟨⟨hi, hm⟩, ⟨w, wt, we, wr⟩, mv, ⟨ch', cf, ct, ce, cr', ft⟩, ⟨hs, h0, cn', mn⟩, ⟨cb, mb⟩, ⟨hS, hS1, hS2⟩, hD, hD1, hD2⟩ := hV.ao hk hA
        rw [hm, if_neg n1, in_y (N := 99) (y := 99) hd (by omega) rfl, bbd_s, if_neg (show ¬ (1 : Int32) = 0 by decide), s_trainsM wr mv, bbd_s]
        exact s_surelyM wr mv (by omega)
    · refine OP_no hI (-1) 2 (by decide) ?_ (fun τ hA => ?_)
      · rw [f_X11_surely, if_pos hk, hV.1.1, if_neg n1, hour_n hx, bbd_s, if_pos rfl, ref_eq, bbd_s]; rfl
      · rw [(hV.ao hk hA).1.2, if_neg n1, in_n (N := 99) (y := 99) hx (by omega) rfl, bbd_s, if_pos rfl, no_eq, bbd_s]; rfl
theorem o_listenLeaves {σ : bSto} (hI : INV σ) : ∃ r σ1 σ2, f_X11_listenLeaves σ = some (r, σ1) ∧ f_X12_listenLeaves σ1 = some (r, σ2) ∧ INV σ2 := by
  simp only [f_X12_listenLeaves]
  have hk := hI.2.2.1.1
  rcases hI.2.2.2.2 with hN | ⟨v, s, bel, S, D, hV, -⟩
  · refine OP_no hI (-1) 1 (by decide) ?_ (fun τ hA => ?_)
    · rw [f_X11_listenLeaves, if_pos hk, hN.1.1, if_pos n0, ref_eq, bbd_s]; rfl
    · rw [(hN.ao hk hA).1.2, if_pos n0, no_eq, bbd_s]; rfl
  · have hl := lis_lt v
    refine OP_yes hI (if trN v 77 = 0 then -2 else nI (lev v (lis v))) ?_ (fun τ hA => ?_)
    · obtain ⟨⟨hi, hm⟩, ⟨w, wt, we, wr⟩, mv, ⟨ch', cf, ct, ce, cr', ft⟩, ⟨hs, h0, cn', mn⟩, ⟨cb, mb⟩, ⟨hS, hS1, hS2⟩, hD, hD1, hD2⟩ := hV
      rw [f_X11_listenLeaves, if_pos hk, hi, if_neg n1, if_pos hk, s_bestHour ft, bbd_s]
      by_cases z : trN v 77 = 0
      · rw [if_pos z, if_pos z, hour_n (by rintro ⟨d, hd, e⟩; exact nI_pos (n := d) (by omega) (by rw [← e]; decide)), bbd_s, if_pos rfl, ans_eq, bbd_s]; rfl
      · rw [if_neg z, if_neg z, hour_y (by omega), bbd_s, if_neg (show ¬ (1 : Int32) = 0 by decide), if_pos hk, s_mostLeft ft hl, bbd_s, ans_eq, bbd_s]; rfl
    · obtain ⟨⟨hi, hm⟩, ⟨w, wt, we, wr⟩, mv, ⟨ch', cf, ct, ce, cr', ft⟩, ⟨hs, h0, cn', mn⟩, ⟨cb, mb⟩, ⟨hS, hS1, hS2⟩, hD, hD1, hD2⟩ := hV.ao hk hA
      rw [hm, if_neg n1, s_listenOf wr mv, bbd_s]
      by_cases z : trN v 77 = 0
      · rw [if_pos z, if_pos z, if_neg (by decide)]
      · rw [if_neg z, if_neg z, if_pos (nI_pos' (by omega)), s_leavesAt wr mv hl, bbd_s]
theorem o_believers {σ : bSto} (hI : INV σ) (x : Int32) : ∃ r σ1 σ2, f_X11_believers x σ = some (r, σ1) ∧ f_X12_believers x σ1 = some (r, σ2) ∧ INV σ2 := by
  simp only [f_X12_believers]
  have hk := hI.2.2.1.1
  rcases hI.2.2.2.2 with hN | ⟨v, s, bel, S, D, hV, -⟩
  · refine OP_no hI (-1) 1 (by decide) ?_ (fun τ hA => ?_)
    · rw [f_X11_believers, if_pos hk, hN.1.1, if_pos n0, ref_eq, bbd_s]; rfl
    · rw [(hN.ao hk hA).1.2, if_pos n0, no_eq, bbd_s]; rfl
  · by_cases hx : ∃ d, d ≤ 20 ∧ x = nI d
    · obtain ⟨R, hd, rfl⟩ := hx
      refine OP hI (nI (bmk v (its v R bel))) 0 (by decide) ?_ (fun τ hA hz => ?_)
      · obtain ⟨⟨hi, hm⟩, ⟨w, wt, we, wr⟩, mv, ⟨ch', cf, ct, ce, cr', ft⟩, ⟨hs, h0, cn', mn⟩, ⟨cb, mb⟩, ⟨hS, hS1, hS2⟩, hD, hD1, hD2⟩ := hV
        obtain ⟨τ1, d1, d2, d3⟩ := c_begin σ
        obtain ⟨τ2, e1, e2, e3⟩ := s_go (bel := bel) w hk hd (cf.ao d2 (fun a k z => by have := Bc_far hk a k z; omega)) (ce.ao d2 (fun a k z => by have := Bc_far hk a k z; omega)) (fun q hq => by rw [d3 q hq, cb q hq])
        refine ⟨τ2, ?_, (d2.trans e2).mono Bc_Bx⟩
        rw [f_X11_believers, if_pos hk, hi, if_neg n1, rg_y (N := 20) (y := 20) hd (by omega) rfl, d1, bbv_s, rf d2, if_pos hk, e1, bbv_s, rf (d2.trans e2), if_pos hk, s_believing w (cf.ao (d2.trans e2) (fun a k z => by have := Bc_far hk a k z; omega)) e3, bbd_s, ans_eq, bbd_s]
        rfl
      · obtain ⟨⟨hi, hm⟩, ⟨w, wt, we, wr⟩, mv, ⟨ch', cf, ct, ce, cr', ft⟩, ⟨hs, h0, cn', mn⟩, ⟨cb, mb⟩, ⟨hS, hS1, hS2⟩, hD, hD1, hD2⟩ := hV.ao hk hA
        obtain ⟨τ2, e1, e2⟩ := s_believersBy (M := 0) w we mv mb (by decide) hd
        have em : mad v 0 bel = bel := by
          funext q
          rw [mad, if_neg (by simp)]
        refine ⟨τ2, ?_, e2.mono Bm_Bn2, by rw [e2.1 92 11 (by unfold Bm; omega)]; exact hz⟩
        rw [hm, if_neg n1, in_y (N := 20) (y := 20) hd (by omega) rfl, bbd_s, if_neg (show ¬ (1 : Int32) = 0 by decide), show (0 : Int32) = nI 0 from rfl, e1, bbd_s, bIW, em]
    · refine OP_no hI (-1) 2 (by decide) ?_ (fun τ hA => ?_)
      · rw [f_X11_believers, if_pos hk, hV.1.1, if_neg n1, rg_n (N := 20) (y := 20) hx (by omega) rfl, f_X11_believers_J26, ref_eq, bbd_s]; rfl
      · rw [(hV.ao hk hA).1.2, if_neg n1, in_n (N := 20) (y := 20) hx (by omega) rfl, bbd_s, if_pos rfl, no_eq, bbd_s]; rfl
