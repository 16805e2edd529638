/-! ===== sit, stand, preach, round, day (own work) ===== -/
theorem isP_m {v : Nat → Nat} {σ : bSto} (w : WF v) (hm : σ.1 92 14 = nI 1) (mv : MV v σ) (x : Int32) : f_X12_isPerson x σ = some (b2 (decide (∃ p, p < v 4 ∧ x = nI p)), σ) := by
  rw [f_X12_isPerson, hm, if_neg n1, mv.at 4 (by decide) (by decide), in_has w.2.2.2.2.1, bbd_s]
  cases decide (∃ p, p < v 4 ∧ x = nI p) <;> rfl
theorem isB_m {v : Nat → Nat} {σ : bSto} (w : WF v) (hm : σ.1 92 14 = nI 1) (mv : MV v σ) (x : Int32) : f_X12_isBench x σ = some (b2 (decide (∃ p, p < v 3 ∧ x = nI p)), σ) := by
  rw [f_X12_isBench, hm, if_neg n1, mv.at 3 (by decide) (by decide), in_has (by have := w.2.2.2.1.2; omega), bbd_s]
  cases decide (∃ p, p < v 3 ∧ x = nI p) <;> rfl
theorem wr0 (σ : bSto) : (if (0 : Int32) = 0 ∨ (0 : Int32) = 1 then some ((0 : Int32), σ) else none) = some ((0 : Int32), σ) := if_pos (Or.inl rfl)
theorem wr1 (σ : bSto) : (if (1 : Int32) = 0 ∨ (1 : Int32) = 1 then some ((1 : Int32), σ) else none) = some ((1 : Int32), σ) := if_pos (Or.inr rfl)
theorem sv_m2 {k : Nat} (hk : k < 7) : (sv k = -2) = (k = 0) := by
  have h : ∀ k : Fin 7, (sv k.val = -2) = (k.val = 0) := by decide +kernel
  exact h ⟨k, hk⟩
theorem o_sit {σ : bSto} (hI : INV σ) (x y : Int32) : ∃ r σ1 σ2, f_X11_sit x y σ = some (r, σ1) ∧ f_X12_sit x y σ1 = some (r, σ2) ∧ INV σ2 := by
  simp only [f_X12_sit]
  have hk := hI.2.2.1.1
  rcases hI.2.2.2.2 with hN | ⟨v, s, bel, S, D, hV, n, xx, m, hP⟩
  · refine OP_no hI 0 1 (by decide) ?_ (fun τ hA => ?_)
    · rw [f_X11_sit, if_pos hk, hasP_N hN, bbd_s, if_pos rfl, f_X11_sit_J28, notD_eq, bbd_s, wr0]; rfl
    · rw [isP_N (hN.ao hk hA), bbd_s, if_pos rfl, f_X12_sit_J20, isNot_eq, bbd_s, wr0]; rfl
  · by_cases hx : ∃ p, p < v 4 ∧ x = nI p
    · by_cases hy : ∃ b, b < v 3 ∧ y = nI b
      · have hx' := hx
        have hy' := hy
        obtain ⟨p, hp, rfl⟩ := hx
        obtain ⟨b, hb, rfl⟩ := hy
        have hV0 := hV
        obtain ⟨⟨hi, hm⟩, ⟨w, wt, we, wr⟩, mv, ⟨ch', cf, ct, ce, cr', ft⟩, ⟨hs, h0, cn', mn⟩, ⟨cb, mb⟩, ⟨hS, hS1, hS2⟩, hD, hD1, hD2⟩ := hV0
        have h7 := w.2.2.2.2.1
        have h6 := w.2.2.2.1.2
        have hsp := seat7 w hs p
        have eC : ∀ K : bSto → Option (Int32 × bSto), True := fun _ => trivial
        have cA : f_X11_sit (nI p) (nI b) σ = if s p = b + 1 then f_X11_sit_J59 σ else if mayK (v (35 + 4 * p)) (v (11 + 4 * b)) = false then f_X11_sit_J59 σ else if fre v s b = false then bbd (f_X11_notDone (3 : Int32) σ) (fun v34 σ33 => if v34 = 0 ∨ v34 = 1 then some (v34, σ33) else none) else bbv (f_X6_keepAct 30 σ) (fun σ24 => some ((1 : Int32), bI (bI σ24 31 p (nI b)) 0 8 0)) := by
          rw [f_X11_sit, if_pos hk, hasP_V hV, decide_eq_true hx', bbd_s, if_neg b1, if_pos hk, hasB_V hV, decide_eq_true hy', bbd_s, if_neg b1]
          simp only [nI_clamp (show p < 2 ^ 31 by omega), fcd (show p < 7 by omega) (by omega), if_false]
          rw [cn' p (by omega), if_pos hk, s_allows w ch' cf hp hb, bbd_s]
          simp only [sv_eq hsp (show b < 6 by omega), b2_0]
          by_cases z : s p = b + 1
          · rw [if_pos z, if_pos z]
          · rw [if_neg z, if_neg z]
            by_cases z2 : mayK (v (35 + 4 * p)) (v (11 + 4 * b)) = false
            · rw [if_pos z2, if_pos z2]
            · rw [if_neg z2, if_neg z2, if_pos hk, s_hasFree w ch' cn' hs hb, bbd_s]
              simp only [b2_0]
              by_cases z3 : fre v s b = false
              · rw [if_pos z3, if_pos z3]
              · rw [if_neg z3, if_neg z3]
                cases f_X6_keepAct 30 σ with
                | none => rfl
                | some q => rfl
        have mA : ∀ τ, τ.1 92 14 = nI 1 → MV v τ → MN 97 s τ → (fun σ2 => bbd (f_X12_isPerson (nI p) σ2) (fun v5 σ4 => (if v5 = 0 then f_X12_sit_J20 σ4 else bbd (f_X12_isBench (nI b) σ4) (fun v9 σ8 => (if v9 = 0 then f_X12_sit_J20 σ8 else if nI p < 0 ∨ 16 ≤ (nI p).toNatClampNeg then none else (if (σ8.1 97 (nI p).toNatClampNeg) = (nI b + (1 : Int32)) then f_X12_sit_J47 σ8 else bbd (f_X12_mayOn (nI p) (nI b) σ8) (fun v15 σ14 => (if v15 = 0 then f_X12_sit_J47 σ14 else bbd (f_X12_isFree 97 (nI b) σ14) (fun v19 σ18 => (if v19 = 0 then bbd (f_X12_isNot (3 : Int32) σ18) (fun v28 σ27 => if v28 = 0 ∨ v28 = 1 then some (v28, σ27) else none) else bbv (f_X12_note σ18) (fun σ22 => if nI p < 0 ∨ 16 ≤ (nI p).toNatClampNeg then none else blet (bI σ22 97 (nI p).toNatClampNeg (nI b + (1 : Int32))) (fun σ23 => some ((1 : Int32), σ23)))))))))))) ) τ = if s p = b + 1 then f_X12_sit_J47 τ else if mayK (v (35 + 4 * p)) (v (11 + 4 * b)) = false then f_X12_sit_J47 τ else if fre v s b = false then bbd (f_X12_isNot (3 : Int32) τ) (fun v28 σ27 => if v28 = 0 ∨ v28 = 1 then some (v28, σ27) else none) else bbv (f_X12_note τ) (fun σ22 => some ((1 : Int32), bI σ22 97 p (nI (b + 1)))) := fun τ hm mv mn => by
          (try dsimp only)
          rw [isP_m w hm mv, decide_eq_true hx', bbd_s, if_neg b1, isB_m w hm mv, decide_eq_true hy', bbd_s, if_neg b1]
          simp only [nI_clamp (show p < 2 ^ 31 by omega), fcd (show p < 16 by omega) (by omega), if_false, blet]
          rw [mn p (by omega), nI_1, s_mayOn w mv hp hb, bbd_s]
          simp only [q_eq (show s p < 2 ^ 31 by omega) (show b + 1 < 2 ^ 31 by omega), b2_0]
          by_cases z : s p = b + 1
          · rw [if_pos z, if_pos z]
          · rw [if_neg z, if_neg z]
            by_cases z2 : mayK (v (35 + 4 * p)) (v (11 + 4 * b)) = false
            · rw [if_pos z2, if_pos z2]
            · rw [if_neg z2, if_neg z2, s_isFree w mv mn (by decide) hs h0 hb, bbd_s]
              simp only [b2_0]
        have mB : ∀ τ, AO Bs σ τ → τ.1 92 14 = nI 1 ∧ MV v τ ∧ MN 97 s τ := fun τ hA => by
          have h := hV.ao hk hA
          exact ⟨h.1.2, h.2.2.1, h.2.2.2.2.1.2.2.2⟩
        by_cases z : s p = b + 1
        · refine OP_no hI 0 5 (by decide) ?_ (fun τ hA => ?_)
          · rw [cA, if_pos z, f_X11_sit_J59, notD_eq, bbd_s, wr0]; rfl
          · obtain ⟨g1, g2, g3⟩ := mB τ hA
            refine (mA τ g1 g2 g3).trans ?_
            rw [if_pos z, f_X12_sit_J47, isNot_eq, bbd_s, wr0]; rfl
        · by_cases z2 : mayK (v (35 + 4 * p)) (v (11 + 4 * b)) = false
          · refine OP_no hI 0 5 (by decide) ?_ (fun τ hA => ?_)
            · rw [cA, if_neg z, if_pos z2, f_X11_sit_J59, notD_eq, bbd_s, wr0]; rfl
            · obtain ⟨g1, g2, g3⟩ := mB τ hA
              refine (mA τ g1 g2 g3).trans ?_
              rw [if_neg z, if_pos z2, f_X12_sit_J47, isNot_eq, bbd_s, wr0]; rfl
          · by_cases z3 : fre v s b = false
            · refine OP_no hI 0 3 (by decide) ?_ (fun τ hA => ?_)
              · rw [cA, if_neg z, if_neg z2, if_pos z3, notD_eq, bbd_s, wr0]; rfl
              · obtain ⟨g1, g2, g3⟩ := mB τ hA
                refine (mA τ g1 g2 g3).trans ?_
                rw [if_neg z, if_neg z2, if_pos z3, isNot_eq, bbd_s, wr0]; rfl
            · refine ACT (s' := put s p (b + 1)) (bel' := bel) (S' := S) (D' := D) hI hV hP 1 ⟨fun q => ?_, fun q hq => ?_⟩ ⟨hS, hD⟩ (fun σa k1 k2 => ⟨bI σa 31 p (nI b), ?_, AO.set _ _ (Or.inl rfl), ?_, ?_, ?_, ?_⟩) (fun τ τn t1 t2 t3 t4 t5 t6 t7 t8 => ⟨bI τn 97 p (nI (b + 1)), ?_, AO.set _ _ (Or.inl rfl), ?_, ?_, ?_, ?_⟩)
              · unfold put
                split
                · omega
                · exact hs q
              · unfold put
                rw [if_neg (by omega)]
                exact h0 q hq
              · rw [cA, if_neg z, if_neg z2, if_neg z3, k1, bbv_s]
              · have h := (cn'.ao k2 (fun k => by unfold Bk2; omega)).put' p (b + 1)
                rw [sv_s] at h
                exact h
              · intro q hq
                rw [bI_ne (by omega), k2.1 32 q (by unfold Bk2; omega)]; exact cb q hq
              · rw [bI_ne (by omega), k2.1 30 2 (by unfold Bk2; omega)]; exact hS1
              · rw [bI_ne (by omega), k2.1 30 3 (by unfold Bk2; omega)]; exact hD1
              · refine (mA τ t3 t4 t5).trans ?_
                rw [if_neg z, if_neg z2, if_neg z3, t1, bbv_s]
              · exact (t5.ao t2 (fun k => by unfold B98; omega)).put' p (b + 1)
              · intro q hq
                rw [bI_ne (by omega), t2.1 97 _ (by unfold B98; omega)]; exact t6 q hq
              · rw [bI_ne (by omega), t2.1 97 _ (by unfold B98; omega)]; exact t7
              · rw [bI_ne (by omega), t2.1 97 _ (by unfold B98; omega)]; exact t8
      · refine OP_no hI 0 1 (by decide) ?_ (fun τ hA => ?_)
        · rw [f_X11_sit, if_pos hk, hasP_V hV, decide_eq_true hx, bbd_s, if_neg b1, if_pos hk, hasB_V hV, decide_eq_false hy, bbd_s, if_pos b0, f_X11_sit_J28, notD_eq, bbd_s, wr0]; rfl
        · rw [isP_V (hV.ao hk hA), decide_eq_true hx, bbd_s, if_neg b1, isB_V (hV.ao hk hA), decide_eq_false hy, bbd_s, if_pos b0, f_X12_sit_J20, isNot_eq, bbd_s, wr0]; rfl
    · refine OP_no hI 0 1 (by decide) ?_ (fun τ hA => ?_)
      · rw [f_X11_sit, if_pos hk, hasP_V hV, decide_eq_false hx, bbd_s, if_pos b0, f_X11_sit_J28, notD_eq, bbd_s, wr0]; rfl
      · rw [isP_V (hV.ao hk hA), decide_eq_false hx, bbd_s, if_pos b0, f_X12_sit_J20, isNot_eq, bbd_s, wr0]; rfl
