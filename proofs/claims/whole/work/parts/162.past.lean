/-! ===== undo, image, back (own work) ===== -/
theorem RW.now {v : Nat → Nat} {τ : bSto} (h : RW v (nowRow τ) (fun k => τ.1 97 k)) : ∃ (s' : Nat → Nat) (bel' : Nat → Int32) (S' D' : Nat), ((∀ p, s' p ≤ v 3) ∧ (∀ p, v 4 ≤ p → s' p = 0) ∧ CN 30 s' τ ∧ MN 97 s' τ) ∧ ((∀ q, q < 7 → τ.1 32 q = bel' q) ∧ MB bel' τ) ∧ (S' ≤ 200 ∧ τ.1 30 2 = nI S' ∧ τ.1 97 14 = nI S') ∧ (D' ≤ 99 ∧ τ.1 30 3 = nI D' ∧ τ.1 97 15 = nI D') := by
  obtain ⟨s, S, D, h1, h2, h3, ⟨h4, h5, h6⟩, h7, h8, h9⟩ := h
  have e : ∀ p, p < 7 → τ.1 31 p = nowRow τ p := fun p hp => by rw [nowRow, if_pos hp]
  have e2 : ∀ p, p < 7 → τ.1 32 p = nowRow τ (7 + p) := fun p hp => by rw [nowRow, if_neg (by omega), if_pos (by omega), show 7 + p - 7 = p by omega]
  have e3 : nowRow τ 14 = τ.1 30 2 := by rw [nowRow, if_neg (by omega), if_neg (by omega), if_pos rfl]
  have e4 : nowRow τ 15 = τ.1 30 3 := by rw [nowRow, if_neg (by omega), if_neg (by omega), if_neg (by omega)]
  exact ⟨s, fun q => τ.1 32 q, S, D, ⟨h1, h2, fun p hp => by rw [e p hp]; exact (h3 p hp).1, fun p hp => (h3 p hp).2.1⟩, ⟨fun q _ => rfl, fun q hq => by show τ.1 97 (7 + q) = τ.1 32 q; rw [e2 q hq]; exact (h3 q hq).2.2.symm⟩, ⟨h6, by rw [← e3]; exact h4, h5⟩, h9, by rw [← e4]; exact h7, h8⟩
theorem nowRow_cg {σ τ : bSto} (h : ∀ a k, a = 30 ∨ a = 31 ∨ a = 32 → τ.1 a k = σ.1 a k) (k : Nat) : nowRow τ k = nowRow σ k := by
  unfold nowRow
  rw [h 31 k (by omega), h 32 (k - 7) (by omega), h 30 2 (by omega), h 30 3 (by omega)]
theorem o_undo {σ : bSto} (hI : INV σ) : ∃ r σ1 σ2, f_X11_undo σ = some (r, σ1) ∧ f_X12_undo σ1 = some (r, σ2) ∧ INV σ2 := by
  simp only [f_X12_undo]
  have hk := hI.2.2.1.1
  have none : ∀ _ : σ.1 36 3 = nI 0, σ.1 92 20 = nI 0 → ∃ r σ1 σ2, f_X11_undo σ = some (r, σ1) ∧ bbv (f_X12_good σ1) (fun σ2 => (if (σ2.1 92 20) = 0 then bbd (f_X12_isNot (6 : Int32) σ2) (fun v10 σ9 => if v10 = 0 ∨ v10 = 1 then some (v10, σ9) else none) else blet (bI σ2 92 20 ((σ2.1 92 20) - (1 : Int32))) (fun σ4 => bbv (f_X12_copy 98 ((16 : Int32) * (σ4.1 92 20)) 97 (0 : Int32) (16 : Int32) σ4) (fun σ7 => some ((1 : Int32), σ7))))) = some (r, σ2) ∧ INV σ2 := fun h1 h2 => by
    refine OP_no hI 0 6 (by decide) ?_ (fun τ hA => ?_)
    · rw [f_X11_undo, h1, if_pos n0, notD_eq, bbd_s, wr0]; rfl
    · rw [hA.1 92 20 (by unfold Bs; omega), h2, if_pos n0, isNot_eq, bbd_s, wr0]; rfl
  rcases hI.2.2.2.2 with hN | ⟨v, s, bel, S, D, hV, n, x, m, hP⟩
  · exact none hN.2.2.2.2.2.1.1 hN.2.2.2.2.2.2.1
  · obtain ⟨⟨p1, p2, p3⟩, ⟨p4, p5, p6⟩, ⟨p7, p8⟩, p9, p10⟩ := hP
    by_cases hn : n = 0
    · exact none (by rw [p5, hn]) (by rw [p7, hn])
    · have hy : (x + 15) % 16 < 16 := Nat.mod_lt _ (by decide)
      obtain ⟨σ8, r1, r2, r3⟩ := s_readFrom (A := 38 + (x + 15) % 16) (by omega) (bln38 hy) (bI (bI σ 36 2 (nI ((x + 15) % 16))) 36 3 (nI (n - 1)))
      have eC : f_X11_undo σ = some ((1 : Int32), bI σ8 0 8 0) := by
        have e1 : ((nI x + (16 : Int32)) - (1 : Int32)) - ((nI x + (16 : Int32)) - (1 : Int32)) / (16 : Int32) * (16 : Int32) = nI ((x + 15) % 16) := by
          rw [show (16 : Int32) = nI 16 from rfl, q_add, pred_nI (by omega), rem_nI (by omega) (by decide) (by decide), show x + 16 - 1 = x + 15 by omega]
        rw [f_X11_undo, p5, if_neg (nI_ne0 (by omega) (by omega)), f_X6_takeBack, p5, if_neg (nI_nle (by omega) (by omega)), p4, e1, blet, bI_ne (o := 36) (k := 2) (a := 36) (j := 3) (by omega), p5, pred_nI (by omega), blet, bI_ne (o := 36) (k := 3) (a := 36) (j := 2) (by omega), bI_eq, if_neg (nI_in hy (by omega)), nI_clamp (by omega), r1, bbv_s, bbv_s, done_eq, bbd_s, wr1]
      have et : ∀ a j, ¬ (a = 0 ∧ j = 8) → ¬ (a = 92 ∧ (j = 0 ∨ j = 11)) → (bI (bI (bI σ8 0 8 0) 92 0 0) 92 11 0).1 a j = σ8.1 a j := fun a j z1 z2 => by rw [bI_ne (by omega), bI_ne (by omega), bI_ne (by omega)]
      have e8 : ∀ a j, ¬ Bn a j → ¬ (a = 36 ∧ (j = 2 ∨ j = 3)) → σ8.1 a j = σ.1 a j := fun a j z1 z2 => by rw [r2.1 a j z1, bI_ne (by omega), bI_ne (by omega)]
      have e2 : (bI (bI (bI σ8 0 8 0) 92 0 0) 92 11 0).2 = σ.2 := by
        show σ8.2 = σ.2
        rw [r2.2]
        rfl
      have e08 : (bI (bI (bI σ8 0 8 0) 92 0 0) 92 11 0).1 0 8 = nI 0 := by rw [bI_ne (by omega), bI_ne (by omega), bI_eq]; rfl
      have e11 : (bI (bI (bI σ8 0 8 0) 92 0 0) 92 11 0).1 92 11 = nI 0 := by rw [bI_eq]; rfl
      generalize hτ : bI (bI (bI σ8 0 8 0) 92 0 0) 92 11 0 = τ at et e2 e08 e11
      have em : ∀ a j, 92 ≤ a → ¬ (a = 92 ∧ (j = 0 ∨ j = 11)) → τ.1 a j = σ.1 a j := fun a j z1 z2 => by rw [et a j (by omega) z2, e8 a j (by unfold Bn; omega) (by omega)]
      have hc := s_copy (a := 98) (b := 97) (i := 16 * (n - 1)) (j := 0) (m := 16) (by decide) (by show _ ≤ 256; omega) (by decide) (by decide) (by decide) (bI τ 92 20 (nI (n - 1)))
      have ef : ∀ a j, a ≠ 97 → ¬ (a = 92 ∧ j = 20) → (bA (bI τ 92 20 (nI (n - 1))) 97 (fun k => if 0 ≤ k ∧ k < 0 + 16 then (bI τ 92 20 (nI (n - 1))).1 98 (16 * (n - 1) + (k - 0)) else (bI τ 92 20 (nI (n - 1))).1 97 k)).1 a j = τ.1 a j := fun a j z1 z2 => by rw [bA_ne z1, bI_ne (by omega)]
      have e97 : ∀ k, k < 16 → (bA (bI τ 92 20 (nI (n - 1))) 97 (fun k => if 0 ≤ k ∧ k < 0 + 16 then (bI τ 92 20 (nI (n - 1))).1 98 (16 * (n - 1) + (k - 0)) else (bI τ 92 20 (nI (n - 1))).1 97 k)).1 97 k = σ.1 98 (16 * (n - 1) + k) := fun k hk => by
        rw [bA_eq]
        show (if 0 ≤ k ∧ k < 0 + 16 then (bI τ 92 20 (nI (n - 1))).1 98 (16 * (n - 1) + (k - 0)) else (bI τ 92 20 (nI (n - 1))).1 97 k) = _
        rw [if_pos (by omega), Nat.sub_zero, bI_ne (by omega), em _ _ (by omega) (by omega)]
      have e20 : (bA (bI τ 92 20 (nI (n - 1))) 97 (fun k => if 0 ≤ k ∧ k < 0 + 16 then (bI τ 92 20 (nI (n - 1))).1 98 (16 * (n - 1) + (k - 0)) else (bI τ 92 20 (nI (n - 1))).1 97 k)).1 92 20 = nI (n - 1) := by rw [bA_ne (by omega), bI_eq]
      have ef2 : (bA (bI τ 92 20 (nI (n - 1))) 97 (fun k => if 0 ≤ k ∧ k < 0 + 16 then (bI τ 92 20 (nI (n - 1))).1 98 (16 * (n - 1) + (k - 0)) else (bI τ 92 20 (nI (n - 1))).1 97 k)).2 = σ.2 := e2
      generalize hυ : bA (bI τ 92 20 (nI (n - 1))) 97 (fun k => if 0 ≤ k ∧ k < 0 + 16 then (bI τ 92 20 (nI (n - 1))).1 98 (16 * (n - 1) + (k - 0)) else (bI τ 92 20 (nI (n - 1))).1 97 k) = υ at hc ef e97 e20 ef2
      have hA : AO Ba σ υ := ⟨fun a j z => by rw [ef a j (by unfold Ba Bs at z; omega) (by unfold Ba Bs at z; omega), et a j (by unfold Ba Bs at z; omega) (by unfold Ba Bs at z; omega), e8 a j (by unfold Ba Bs at z; unfold Bn; omega) (by unfold Ba Bs at z; omega)], ef2⟩
      have hrow : RW v (nowRow υ) (fun k => υ.1 97 k) := by
        have h := p9 (n - 1) (by omega)
        rw [show (x + 16 - n + (n - 1)) % 16 = (x + 15) % 16 by congr 1; omega] at h
        refine h.congr (fun k hk => ?_) e97
        rw [nowRow_cg (σ := σ8) (fun a k z => by rw [ef a k (by omega) (by omega), et a k (by omega) (by omega)]), r3 k hk, bI_ne (by omega), bI_ne (by omega)]
      obtain ⟨s', bel', S', D', v1, v2, v3, v4⟩ := hrow.now
      have eo : ∀ a j, 36 ≤ a → a < 58 → ¬ (a = 36 ∧ (j = 2 ∨ j = 3)) → υ.1 a j = σ.1 a j := fun a j z1 z2 z3 => by rw [ef a j (by omega) (by omega), et a j (by omega) (by omega), e8 a j (by unfold Bn; omega) z3]
      have e9 : ∀ a j, a = 98 ∨ a = 99 → υ.1 a j = σ.1 a j := fun a j z => by rw [ef a j (by omega) (by omega), em a j (by omega) (by omega)]
      refine ⟨1, _, υ, eC, ?_, hI.act hA (hV.act hk hA v1 v2 v3 v4) (n := n - 1) (x := (x + 15) % 16) (m := m) ⟨⟨by omega, hy, p3⟩, ⟨?_, ?_, by rw [eo _ _ (by omega) (by omega) (by omega)]; exact p6⟩, ⟨e20, by rw [ef _ _ (by omega) (by omega), em _ _ (by omega) (by omega)]; exact p8⟩, fun j hj => ?_, fun j hj => (p10 j hj).congr (fun k hk => eo _ _ (by omega) (by omega) (by omega)) (fun k hk => e9 _ _ (by omega))⟩ (by rw [ef 0 8 (by omega) (by omega)]; exact e08) (by rw [ef 92 11 (by omega) (by omega)]; exact e11)⟩
      · rw [good_eq, bbv_s, hτ, em _ _ (by omega) (by omega), p7, if_neg (nI_ne0 (by omega) (by omega)), pred_nI (by omega), blet, bI_eq, show (16 : Int32) = nI 16 from rfl, q_mul, show (0 : Int32) = nI 0 from rfl, hc, bbv_s]
      · rw [ef _ _ (by omega) (by omega), et _ _ (by omega) (by omega), r2.1 36 2 (by unfold Bn; omega), bI_ne (by omega), bI_eq]
      · rw [ef _ _ (by omega) (by omega), et _ _ (by omega) (by omega), r2.1 36 3 (by unfold Bn; omega), bI_eq]
      · rw [show ((x + 15) % 16 + 16 - (n - 1) + j) % 16 = (x + 16 - n + j) % 16 by omega]
        exact (p9 j (by omega)).congr (fun k hk => eo _ _ (by omega) (by omega) (by omega)) (fun k hk => e9 _ _ (by omega))
