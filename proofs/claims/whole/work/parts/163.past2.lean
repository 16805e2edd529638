/-! ===== image, back (own work) ===== -/
theorem o_image {σ : bSto} (hI : INV σ) : ∃ r σ1 σ2, f_X11_image σ = some (r, σ1) ∧ f_X12_image σ1 = some (r, σ2) ∧ INV σ2 := by
  simp only [f_X12_image]
  have hk := hI.2.2.1.1
  rcases hI.2.2.2.2 with hN | ⟨v, s, bel, S, D, hV, n, x, m, hP⟩
  · refine OP_no hI (-1) 1 (by decide) ?_ (fun τ hA => ?_)
    · rw [f_X11_image, if_pos hk, hN.1.1, if_pos n0, ref_eq, bbd_s]; rfl
    · rw [(hN.ao hk hA).1.2, if_pos n0, no_eq, bbd_s]; rfl
  · have hV0 := hV
    obtain ⟨⟨hi, hm⟩, ⟨w, wt, we, wr⟩, mv, ⟨ch', cf, ct, ce, cr', ft⟩, ⟨hs, h0, cn', mn⟩, ⟨cb, mb⟩, ⟨hS, hS1, hS2⟩, hD, hD1, hD2⟩ := hV0
    obtain ⟨⟨p1, p2, p3⟩, ⟨p4, p5, p6⟩, ⟨p7, p8⟩, p9, p10⟩ := hP
    by_cases hm3 : m = 3
    · refine OP_no hI (-1) 3 (by decide) ?_ (fun τ hA => ?_)
      · rw [f_X11_image, if_pos hk, hi, if_neg n1, p6, hm3, if_neg (show ¬ (nI 3 : Int32) < 3 by decide), ref_eq, bbd_s]; rfl
      · rw [(hV.ao hk hA).1.2, if_neg n1, hA.1 92 21 (by unfold Bs; omega), p8, hm3, if_pos (show (nI 3 : Int32) = 3 from rfl), no_eq, bbd_s]; rfl
    · obtain ⟨σ4, r1, r2, r3⟩ := s_writeTo (A := 55 + m) (by omega) (bln55 (by omega)) σ
      have e4 : σ4.1 36 4 = nI m := by rw [r2.1 36 4 (by omega)]; exact p6
      have eC : f_X11_image σ = some (nI m, bI (bI σ4 36 4 (nI (m + 1))) 0 8 0) := by
        rw [f_X11_image, if_pos hk, hi, if_neg n1, p6, if_pos (show nI m < (3 : Int32) from nI_lt (b := 3) (by omega) (by omega)), f_X6_keepImage, p6, if_pos (show nI m < (3 : Int32) from nI_lt (b := 3) (by omega) (by omega)), if_neg (nI_in (by omega) (by omega)), nI_clamp (by omega), r1, bbv_s, e4, nI_1, blet, bI_eq, pred_nI (by omega), Nat.add_sub_cancel, bbd_s, ans_eq, bbd_s]
      have et : ∀ a j, ¬ (a = 0 ∧ j = 8) → ¬ (a = 92 ∧ (j = 0 ∨ j = 11)) → ¬ (a = 36 ∧ j = 4) → (bI (bI (bI (bI σ4 36 4 (nI (m + 1))) 0 8 0) 92 0 0) 92 11 0).1 a j = σ4.1 a j := fun a j z1 z2 z3 => by rw [bI_ne (by omega), bI_ne (by omega), bI_ne (by omega), bI_ne (by omega)]
      have e36 : (bI (bI (bI (bI σ4 36 4 (nI (m + 1))) 0 8 0) 92 0 0) 92 11 0).1 36 4 = nI (m + 1) := by rw [bI_ne (by omega), bI_ne (by omega), bI_ne (by omega), bI_eq]
      have e2 : (bI (bI (bI (bI σ4 36 4 (nI (m + 1))) 0 8 0) 92 0 0) 92 11 0).2 = σ.2 := by
        show σ4.2 = σ.2
        rw [r2.2]
      have e08 : (bI (bI (bI (bI σ4 36 4 (nI (m + 1))) 0 8 0) 92 0 0) 92 11 0).1 0 8 = nI 0 := by rw [bI_ne (by omega), bI_ne (by omega), bI_eq]; rfl
      have e11 : (bI (bI (bI (bI σ4 36 4 (nI (m + 1))) 0 8 0) 92 0 0) 92 11 0).1 92 11 = nI 0 := by rw [bI_eq]; rfl
      generalize hτ : bI (bI (bI (bI σ4 36 4 (nI (m + 1))) 0 8 0) 92 0 0) 92 11 0 = τ at et e36 e2 e08 e11
      have em : ∀ a j, a ≠ 55 + m → ¬ (a = 0 ∧ j = 8) → ¬ (a = 92 ∧ (j = 0 ∨ j = 11)) → ¬ (a = 36 ∧ j = 4) → τ.1 a j = σ.1 a j := fun a j z1 z2 z3 z4 => by rw [et a j z2 z3 z4, r2.1 a j z1]
      have hc := s_copy (a := 97) (b := 99) (i := 0) (j := 16 * m) (m := 16) (by decide) (by decide) (by show _ ≤ 48; omega) (by decide) (by decide) τ
      have ef : ∀ a j, a ≠ 99 → ¬ (a = 92 ∧ j = 21) → (bI (bA τ 99 (fun k => if 16 * m ≤ k ∧ k < 16 * m + 16 then τ.1 97 (0 + (k - 16 * m)) else τ.1 99 k)) 92 21 (nI (m + 1))).1 a j = τ.1 a j := fun a j z1 z2 => by rw [bI_ne (by omega), bA_ne z1]
      have e99 : ∀ k, (bI (bA τ 99 (fun k => if 16 * m ≤ k ∧ k < 16 * m + 16 then τ.1 97 (0 + (k - 16 * m)) else τ.1 99 k)) 92 21 (nI (m + 1))).1 99 k = if 16 * m ≤ k ∧ k < 16 * m + 16 then σ.1 97 (k - 16 * m) else σ.1 99 k := fun k => by
        rw [bI_ne (by omega), bA_eq]
        show (if 16 * m ≤ k ∧ k < 16 * m + 16 then τ.1 97 (0 + (k - 16 * m)) else τ.1 99 k) = _
        rw [Nat.zero_add, em 97 _ (by omega) (by omega) (by omega) (by omega), em 99 _ (by omega) (by omega) (by omega) (by omega)]
      have e21 : (bI (bA τ 99 (fun k => if 16 * m ≤ k ∧ k < 16 * m + 16 then τ.1 97 (0 + (k - 16 * m)) else τ.1 99 k)) 92 21 (nI (m + 1))).1 92 21 = nI (m + 1) := bI_eq _ _ _ _
      have ef2 : (bI (bA τ 99 (fun k => if 16 * m ≤ k ∧ k < 16 * m + 16 then τ.1 97 (0 + (k - 16 * m)) else τ.1 99 k)) 92 21 (nI (m + 1))).2 = σ.2 := e2
      have hc21 : (bA τ 99 (fun k => if 16 * m ≤ k ∧ k < 16 * m + 16 then τ.1 97 (0 + (k - 16 * m)) else τ.1 99 k)).1 92 21 = nI m := by rw [bA_ne (by omega), em 92 21 (by omega) (by omega) (by omega) (by omega)]; exact p8
      have eM : bbv (f_X12_good (bI (bI σ4 36 4 (nI (m + 1))) 0 8 0)) (fun σ2 => (if (σ2.1 92 14) = 0 then bbd (f_X12_no (1 : Int32) σ2) (fun v14 σ13 => some (v14, σ13)) else (if (σ2.1 92 21) = (3 : Int32) then bbd (f_X12_no (3 : Int32) σ2) (fun v11 σ10 => some (v11, σ10)) else bbv (f_X12_copy 97 (0 : Int32) 99 ((16 : Int32) * (σ2.1 92 21)) (16 : Int32) σ2) (fun σ6 => blet (bI σ6 92 21 ((σ6.1 92 21) + (1 : Int32))) (fun σ7 => some (((σ7.1 92 21) - (1 : Int32)), σ7)))))) = some (nI m, bI (bA τ 99 (fun k => if 16 * m ≤ k ∧ k < 16 * m + 16 then τ.1 97 (0 + (k - 16 * m)) else τ.1 99 k)) 92 21 (nI (m + 1))) := by
        rw [good_eq, bbv_s, hτ, em 92 14 (by omega) (by omega) (by omega) (by omega), hm, if_neg n1, em 92 21 (by omega) (by omega) (by omega) (by omega), p8, if_neg (show ¬ nI m = (3 : Int32) from fun e => hm3 (by
          have e' : nI m = nI 3 := e
          rwa [q_eq (by omega) (by omega)] at e')), show (16 : Int32) = nI 16 from rfl, q_mul, show (0 : Int32) = nI 0 from rfl, hc, bbv_s, hc21, nI_1, blet, bI_eq, pred_nI (by omega), Nat.add_sub_cancel]
      generalize hυ : bI (bA τ 99 (fun k => if 16 * m ≤ k ∧ k < 16 * m + 16 then τ.1 97 (0 + (k - 16 * m)) else τ.1 99 k)) 92 21 (nI (m + 1)) = υ at ef e99 e21 ef2 eM
      have hA : AO Ba σ υ := ⟨fun a j z => by rw [ef a j (by unfold Ba Bs at z; omega) (by unfold Ba Bs at z; omega), em a j (by unfold Ba Bs at z; omega) (by unfold Ba Bs at z; omega) (by unfold Ba Bs at z; omega) (by unfold Ba Bs at z; omega)], ef2⟩
      have ek : ∀ a j, a ≠ 55 + m → a ≠ 99 → ¬ (a = 0 ∧ j = 8) → ¬ (a = 92 ∧ (j = 0 ∨ j = 11 ∨ j = 21)) → ¬ (a = 36 ∧ j = 4) → υ.1 a j = σ.1 a j := fun a j z1 z2 z3 z4 z5 => by rw [ef a j z2 (by omega), em a j z1 z3 (by omega) z5]
      refine ⟨nI m, _, υ, eC, eM, hI.act hA (hV.act (s' := s) (bel' := bel) hk hA ⟨hs, h0, fun p hp => by rw [ek _ _ (by omega) (by omega) (by omega) (by omega) (by omega)]; exact cn' p hp, fun p hp => by rw [ek _ _ (by omega) (by omega) (by omega) (by omega) (by omega)]; exact mn p hp⟩ ⟨fun q hq => by rw [ek _ _ (by omega) (by omega) (by omega) (by omega) (by omega)]; exact cb q hq, fun q hq => by rw [ek _ _ (by omega) (by omega) (by omega) (by omega) (by omega)]; exact mb q hq⟩ ⟨hS, by rw [ek _ _ (by omega) (by omega) (by omega) (by omega) (by omega)]; exact hS1, by rw [ek _ _ (by omega) (by omega) (by omega) (by omega) (by omega)]; exact hS2⟩ ⟨hD, by rw [ek _ _ (by omega) (by omega) (by omega) (by omega) (by omega)]; exact hD1, by rw [ek _ _ (by omega) (by omega) (by omega) (by omega) (by omega)]; exact hD2⟩) (n := n) (x := x) (m := m + 1) ⟨⟨p1, p2, by omega⟩, ⟨by rw [ek _ _ (by omega) (by omega) (by omega) (by omega) (by omega)]; exact p4, by rw [ek _ _ (by omega) (by omega) (by omega) (by omega) (by omega)]; exact p5, by rw [ef _ _ (by omega) (by omega)]; exact e36⟩, ⟨by rw [ek _ _ (by omega) (by omega) (by omega) (by omega) (by omega)]; exact p7, e21⟩, fun j hj => (p9 j hj).congr (fun k hk => ek _ _ (by omega) (by omega) (by omega) (by omega) (by omega)) (fun k hk => ek _ _ (by omega) (by omega) (by omega) (by omega) (by omega)), fun j hj => ?_⟩ (by rw [ef 0 8 (by omega) (by omega)]; exact e08) (by rw [ef 92 11 (by omega) (by omega)]; exact e11)⟩
      by_cases zj : j = m
      · subst zj
        refine hV.rw.congr (fun k hk => ?_) (fun k hk => ?_)
        · rw [ef _ _ (by omega) (by omega), et _ _ (by omega) (by omega) (by omega)]; exact r3 k hk
        · rw [e99, if_pos (by omega), show 16 * j + k - 16 * j = k by omega]
      · exact (p10 j (by omega)).congr (fun k hk => ek _ _ (by omega) (by omega) (by omega) (by omega) (by omega)) (fun k hk => by rw [e99, if_neg (by omega)])
theorem o_back {σ : bSto} (hI : INV σ) (y : Int32) : ∃ r σ1 σ2, f_X11_back y σ = some (r, σ1) ∧ f_X12_back y σ1 = some (r, σ2) ∧ INV σ2 := by
  simp only [f_X12_back]
  have hk := hI.2.2.1.1
  have nope : ∀ m, m ≤ 3 → σ.1 36 4 = nI m → σ.1 92 21 = nI m → (¬ ∃ j, j < m ∧ y = nI j) → ∃ r σ1 σ2, f_X11_back y σ = some (r, σ1) ∧ bbv (f_X12_good σ1) (fun σ2 => bbd (f_X12_in y (0 : Int32) ((σ2.1 92 21) - (1 : Int32)) σ2) (fun v5 σ4 => (if v5 = 0 then bbd (f_X12_isNot (1 : Int32) σ4) (fun v13 σ12 => if v13 = 0 ∨ v13 = 1 then some (v13, σ12) else none) else bbv (f_X12_copy 99 ((16 : Int32) * y) 97 (0 : Int32) (16 : Int32) σ4) (fun σ8 => blet (bI σ8 92 20 (0 : Int32)) (fun σ9 => some ((1 : Int32), σ9)))))) = some (r, σ2) ∧ INV σ2 := fun m hm h1 h2 hy => by
    refine OP_no hI 0 1 (by decide) ?_ (fun τ hA => ?_)
    · rw [f_X11_back, h1]
      by_cases z : y < 0
      · rw [if_pos z, f_X11_back_J15, notD_eq, bbd_s, wr0]; rfl
      · obtain ⟨j, hj, rfl⟩ := nI_of z
        rw [if_neg z, if_neg (fun e => hy ⟨j, by rwa [q_lt hj (by omega)] at e, rfl⟩), f_X11_back_J15, notD_eq, bbd_s, wr0]; rfl
    · rw [hA.1 92 21 (by unfold Bs; omega), h2, in_has (by omega), decide_eq_false hy, bbd_s, if_pos b0, isNot_eq, bbd_s, wr0]; rfl
  rcases hI.2.2.2.2 with hN | ⟨v, s, bel, S, D, hV, n, x, m, hP⟩
  · exact nope 0 (by decide) hN.2.2.2.2.2.1.2 hN.2.2.2.2.2.2.2 (by rintro ⟨j, hj, -⟩; omega)
  · obtain ⟨⟨p1, p2, p3⟩, ⟨p4, p5, p6⟩, ⟨p7, p8⟩, p9, p10⟩ := hP
    by_cases hy : ∃ j, j < m ∧ y = nI j
    · have hy' := hy
      obtain ⟨i, hi', rfl⟩ := hy
      obtain ⟨σ5, r1, r2, r3⟩ := s_readFrom (A := 55 + i) (by omega) (bln55 (by omega)) σ
      have eC : f_X11_back (nI i) σ = some ((1 : Int32), bI (bI (bI σ5 36 2 0) 36 3 0) 0 8 0) := by
        rw [f_X11_back, if_neg (nI_pos (by omega)), p6, if_pos (nI_lt hi' (by omega)), f_X6_goTo, if_neg (nI_pos (by omega)), p6, if_neg (nI_ge hi' (by omega)), if_neg (nI_in (by omega) (by omega)), nI_clamp (by omega), r1, bbv_s, blet, blet, bbv_s, done_eq, bbd_s, wr1]
      have et : ∀ a j, ¬ (a = 0 ∧ j = 8) → ¬ (a = 92 ∧ (j = 0 ∨ j = 11)) → ¬ (a = 36 ∧ (j = 2 ∨ j = 3)) → (bI (bI (bI (bI (bI σ5 36 2 0) 36 3 0) 0 8 0) 92 0 0) 92 11 0).1 a j = σ5.1 a j := fun a j z1 z2 z3 => by rw [bI_ne (by omega), bI_ne (by omega), bI_ne (by omega), bI_ne (by omega), bI_ne (by omega)]
      have e362 : (bI (bI (bI (bI (bI σ5 36 2 0) 36 3 0) 0 8 0) 92 0 0) 92 11 0).1 36 2 = nI 0 := by rw [bI_ne (by omega), bI_ne (by omega), bI_ne (by omega), bI_ne (by omega), bI_eq]; rfl
      have e363 : (bI (bI (bI (bI (bI σ5 36 2 0) 36 3 0) 0 8 0) 92 0 0) 92 11 0).1 36 3 = nI 0 := by rw [bI_ne (by omega), bI_ne (by omega), bI_ne (by omega), bI_eq]; rfl
      have e2 : (bI (bI (bI (bI (bI σ5 36 2 0) 36 3 0) 0 8 0) 92 0 0) 92 11 0).2 = σ.2 := by
        show σ5.2 = σ.2
        rw [r2.2]
      have e08 : (bI (bI (bI (bI (bI σ5 36 2 0) 36 3 0) 0 8 0) 92 0 0) 92 11 0).1 0 8 = nI 0 := by rw [bI_ne (by omega), bI_ne (by omega), bI_eq]; rfl
      have e11 : (bI (bI (bI (bI (bI σ5 36 2 0) 36 3 0) 0 8 0) 92 0 0) 92 11 0).1 92 11 = nI 0 := by rw [bI_eq]; rfl
      generalize hτ : bI (bI (bI (bI (bI σ5 36 2 0) 36 3 0) 0 8 0) 92 0 0) 92 11 0 = τ at et e362 e363 e2 e08 e11
      have em : ∀ a j, ¬ Bn a j → ¬ (a = 0 ∧ j = 8) → ¬ (a = 92 ∧ (j = 0 ∨ j = 11)) → ¬ (a = 36 ∧ (j = 2 ∨ j = 3)) → τ.1 a j = σ.1 a j := fun a j z1 z2 z3 z4 => by rw [et a j z2 z3 z4, r2.1 a j z1]
      have hc := s_copy (a := 99) (b := 97) (i := 16 * i) (j := 0) (m := 16) (by decide) (by show _ ≤ 48; omega) (by decide) (by decide) (by decide) τ
      have ef : ∀ a j, a ≠ 97 → ¬ (a = 92 ∧ j = 20) → (bI (bA τ 97 (fun k => if 0 ≤ k ∧ k < 0 + 16 then τ.1 99 (16 * i + (k - 0)) else τ.1 97 k)) 92 20 0).1 a j = τ.1 a j := fun a j z1 z2 => by rw [bI_ne (by omega), bA_ne z1]
      have e97 : ∀ k, k < 16 → (bI (bA τ 97 (fun k => if 0 ≤ k ∧ k < 0 + 16 then τ.1 99 (16 * i + (k - 0)) else τ.1 97 k)) 92 20 0).1 97 k = σ.1 99 (16 * i + k) := fun k hk => by
        rw [bI_ne (by omega), bA_eq]
        show (if 0 ≤ k ∧ k < 0 + 16 then τ.1 99 (16 * i + (k - 0)) else τ.1 97 k) = _
        rw [if_pos (by omega), Nat.sub_zero, em 99 _ (by unfold Bn; omega) (by omega) (by omega) (by omega)]
      have e20 : (bI (bA τ 97 (fun k => if 0 ≤ k ∧ k < 0 + 16 then τ.1 99 (16 * i + (k - 0)) else τ.1 97 k)) 92 20 0).1 92 20 = nI 0 := by rw [bI_eq]; rfl
      have ef2 : (bI (bA τ 97 (fun k => if 0 ≤ k ∧ k < 0 + 16 then τ.1 99 (16 * i + (k - 0)) else τ.1 97 k)) 92 20 0).2 = σ.2 := e2
      have eM : bbv (f_X12_good (bI (bI (bI σ5 36 2 0) 36 3 0) 0 8 0)) (fun σ2 => bbd (f_X12_in (nI i) (0 : Int32) ((σ2.1 92 21) - (1 : Int32)) σ2) (fun v5 σ4 => (if v5 = 0 then bbd (f_X12_isNot (1 : Int32) σ4) (fun v13 σ12 => if v13 = 0 ∨ v13 = 1 then some (v13, σ12) else none) else bbv (f_X12_copy 99 ((16 : Int32) * nI i) 97 (0 : Int32) (16 : Int32) σ4) (fun σ8 => blet (bI σ8 92 20 (0 : Int32)) (fun σ9 => some ((1 : Int32), σ9)))))) = some ((1 : Int32), bI (bA τ 97 (fun k => if 0 ≤ k ∧ k < 0 + 16 then τ.1 99 (16 * i + (k - 0)) else τ.1 97 k)) 92 20 0) := by
        have hc' : f_X12_copy 99 (nI (16 * i)) 97 (0 : Int32) (16 : Int32) τ = some (bA τ 97 (fun k => if 0 ≤ k ∧ k < 0 + 16 then τ.1 99 (16 * i + (k - 0)) else τ.1 97 k)) := hc
        rw [good_eq, bbv_s, hτ, em 92 21 (by unfold Bn; omega) (by omega) (by omega) (by omega), p8, in_has (by omega), decide_eq_true hy', bbd_s, if_neg b1, show (16 : Int32) * nI i = nI (16 * i) from q_mul 16 i, hc', bbv_s, blet]
      generalize hυ : bI (bA τ 97 (fun k => if 0 ≤ k ∧ k < 0 + 16 then τ.1 99 (16 * i + (k - 0)) else τ.1 97 k)) 92 20 0 = υ at ef e97 e20 ef2 eM
      have hA : AO Ba σ υ := ⟨fun a j z => by rw [ef a j (by unfold Ba Bs at z; omega) (by unfold Ba Bs at z; omega), em a j (by unfold Ba Bs at z; unfold Bn; omega) (by unfold Ba Bs at z; omega) (by unfold Ba Bs at z; omega) (by unfold Ba Bs at z; omega)], ef2⟩
      have hrow : RW v (nowRow υ) (fun k => υ.1 97 k) := by
        refine (p10 i hi').congr (fun k hk => ?_) e97
        rw [nowRow_cg (σ := σ5) (fun a k z => by rw [ef a k (by omega) (by omega), et a k (by omega) (by omega) (by omega)]), r3 k hk]
      obtain ⟨s', bel', S', D', v1, v2, v3, v4⟩ := hrow.now
      exact ⟨1, _, υ, eC, eM, hI.act hA (hV.act hk hA v1 v2 v3 v4) (n := 0) (x := 0) (m := m) ⟨⟨by omega, by omega, p3⟩, ⟨by rw [ef _ _ (by omega) (by omega)]; exact e362, by rw [ef _ _ (by omega) (by omega)]; exact e363, by rw [ef _ _ (by omega) (by omega), em _ _ (by unfold Bn; omega) (by omega) (by omega) (by omega)]; exact p6⟩, ⟨e20, by rw [ef _ _ (by omega) (by omega), em _ _ (by unfold Bn; omega) (by omega) (by omega) (by omega)]; exact p8⟩, fun j hj => absurd hj (by omega), fun j hj => (p10 j hj).congr (fun k hk => by rw [ef _ _ (by omega) (by omega), em _ _ (by unfold Bn; omega) (by omega) (by omega) (by omega)]) (fun k hk => by rw [ef _ _ (by omega) (by omega), em _ _ (by unfold Bn; omega) (by omega) (by omega) (by omega)])⟩ (by rw [ef 0 8 (by omega) (by omega)]; exact e08) (by rw [ef 92 11 (by omega) (by omega)]; exact e11)⟩
    · exact nope m p3 p6 p8 hy
