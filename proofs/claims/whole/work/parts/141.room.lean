/-! ===== line: room (own work) ===== -/
theorem pred_nI {a : Nat} (h : 1 ≤ a) : nI a - (1 : Int32) = nI (a - 1) := by rw [show (1 : Int32) = nI 1 from rfl, q_sub h]
theorem set_e (μ : bSto) (j : Nat) (x : Int32) : (bI μ 96 j x).1 92 13 = μ.1 92 13 := bI_ne (by omega)
theorem n10 : ((nI 1 : Int32) = 0) = False := by decide
theorem ff1 (μ : bSto) (j : Nat) (x : Int32) : FF (some (bI μ 96 j x)) μ := ff_set (j := j) (x := x) (ff_id _)
theorem ff2 (μ : bSto) (j1 j2 : Nat) (x1 x2 : Int32) : FF (some (bI (bI μ 96 j1 x1) 96 j2 x2)) μ := ff_set (j := j1) (x := x1) (ff1 _ _ _)
theorem ff3 (μ : bSto) (j1 j2 j3 : Nat) (x1 x2 x3 : Int32) : FF (some (bI (bI (bI μ 96 j1 x1) 96 j2 x2) 96 j3 x3)) μ := ff_set (j := j1) (x := x1) (ff2 _ _ _ _ _)
theorem ff4 (μ : bSto) (j1 j2 j3 j4 : Nat) (x1 x2 x3 x4 : Int32) : FF (some (bI (bI (bI (bI μ 96 j1 x1) 96 j2 x2) 96 j3 x3) 96 j4 x4)) μ := ff_set (j := j1) (x := x1) (ff3 _ _ _ _ _ _ _)
theorem GD.ref {c : Nat} {σ0 μ0 : bSto} {tx : Nat → Nat} {n k k' : Nat} {σ μ σ' μ' : bSto} (g : GD c σ0 μ0 tx n k σ μ) (g' : GD c σ0 μ0 tx n k' σ' μ') (h : σ.2.2 1 4 = c) : σ'.2.2 1 4 = c := by rw [g'.2.2.2.1.2.2, ← g.2.2.2.1.2.2]; exact h
theorem l_room {c : Nat} {σ0 μ0 : bSto} {tx : Nat → Nat} {n k : Nat} {u : Nat → Nat} {bel : Nat → Int32} {σ μ : bSto} (S : ST c u bel σ μ) (g : GD c σ0 μ0 tx n k σ μ) (h0 : u 0 = 0) {M : bSto → Option bSto} (hMM : M = fun s => bbd (f_X12_after 28 (1 : Int32) (9 : Int32) s) (fun v6 σ5 => bbd (f_X12_after 24 (1 : Int32) (9 : Int32) σ5) (fun v9 σ8 => blet (bI σ8 96 1 v9) (fun σ10 => bbv (f_X12_must 23 σ10) (fun σ13 => bbd (f_X12_number (0 : Int32) (v6 - (1 : Int32)) σ13) (fun v16 σ15 => bbd (f_X12_number (0 : Int32) ((σ15.1 96 1) - (1 : Int32)) σ15) (fun v19 σ18 => blet (bI σ18 96 9 (((10 : Int32) * v19) + v16)) (fun σ20 => bbd (f_X12_after 9 (1 : Int32) (60 : Int32) σ20) (fun v24 σ23 => blet (bI σ23 96 2 v24) (fun σ25 => bbd (f_X12_after 22 (0 : Int32) (200 : Int32) σ25) (fun v29 σ28 => blet (bI σ28 96 10 v29) (fun σ30 => (if (σ30.1 92 13) = 0 then blet (bI σ30 96 0 v6) (fun σ33 => some σ33) else some σ30))))))))))))) : PW c σ0 μ0 tx n (f_X9_readRoom σ) (M μ) (LN c k) := by
  subst hMM
  have S0 := S
  obtain ⟨⟨hk, hc, hK⟩, hM, G1', G2', G3', G4', G5', G6', G7', G8'⟩ := S0
  have hk' : c = 7 ∨ c = 69 := hk
  have h30 := G1'.2.2.1 h0
  rw [f_X9_readRoom, hc, if_pos hk]
  refine PW_aft 1 9 g (by decide) rfl rfl (by decide) (by decide) (fun wd k1 σ1 μ1 w1 w2 f1 l1 g1 a1 b1 => ?_) (fun μ' hf => ?_)
  · simp only [blet]
    rw [f1]
    have g1' := g1.setC (o := c + 1) (j := 6) (nI wd) (by omega) (by omega)
    refine PW_aft 1 9 g1' (by decide) rfl rfl (by decide) (by decide) (fun tl k2 σ2 μ2 y1 y2 f2 l2 g2 a2 b2' => ?_) (fun μ' hf => ?_)
    · rw [f2]
      have g2' := (g2.setC (o := c + 1) (j := 7) (nI tl) (by omega) (by omega)).setM (j := 1) (nI tl)
      refine PW_word g2' (by decide) (fun σ3 μ3 g3 a3 b3 => ?_) (fun μ' hf => ?_)
      · have q6 : σ3.1 (c + 1) 6 = nI wd := by rw [a3.k _ _ (by omega), bI_ne (by omega), a2.k _ _ (by omega), bI_eq]
        rw [q6]
        refine PW_num 0 (wd - 1) g3 rfl (pred_nI w1) (by decide) (by omega) (fun sx σ4 μ4 x1 x2 f4 g4 a4 b4 => ?_) (fun μ' hf => ?_)
        · rw [f4]
          have q7 : (bI σ4 (c + 1) 8 (nI sx)).1 (c + 1) 7 = nI tl := by rw [bI_ne (by omega), a4.k _ _ (by omega), a3.k _ _ (by omega), bI_eq]
          have m1 : μ4.1 96 1 = nI tl := by rw [b4.m, b3.m, bI_eq]
          rw [q7, m1]
          have g4' := g4.setC (o := c + 1) (j := 8) (nI sx) (by omega) (by omega)
          refine PW_num 0 (tl - 1) g4' rfl (pred_nI y1) (by decide) (by omega) (fun sy σ5 μ5 z1 z2 f5 g5 a5 b5 => ?_) (fun μ' hf => ?_)
          · rw [f5, show (10 : Int32) = nI 10 from rfl, q_mul, q_add]
            have g5' := (g5.setC (o := c + 1) (j := 9) (nI sy) (by omega) (by omega)).setM (j := 9) (nI (10 * sy + sx))
            refine PW_aft 1 60 g5' (by decide) rfl rfl (by decide) (by decide) (fun ht k6 σ6 μ6 i1 i2 f6 l6 g6 a6 b6 => ?_) (fun μ' hf => ?_)
            · rw [f6]
              have g6' := (g6.setC (o := c + 1) (j := 10) (nI ht) (by omega) (by omega)).setM (j := 2) (nI ht)
              refine PW_aft 0 200 g6' (by decide) rfl rfl (by decide) (by decide) (fun stk k7 σ7 μ7 j1 j2 f7 l7 g7 a7 b7 => ?_) (fun μ' hf => ?_)
              · have r7 : σ7.2.2 1 4 = c := g.ref g7 hc
                rw [r7, if_pos hk, f7, show (bI σ7 (c + 20) 2 (nI stk)).2.2 1 4 = c from r7, if_pos hk, set_e, if_pos (show μ7.1 92 13 = 0 from g7.2.2.1)]
                have gF := (((g7.setC (o := c + 20) (j := 2) (nI stk) (by omega) (by omega)).setC (o := c) (j := 4) 1 (by omega) (by omega)).setM (j := 10) (nI stk)).setM (j := 0) (nI wd)
                have t1 := tk_b tx g2.1.2.1
                have t2 := tk_b tx g3.1.2.1
                have t3 := tk_b tx g4.1.2.1
                have kk : ∀ a j, 3 ≤ a → ¬ (a = c + 1 ∧ 6 ≤ j ∧ j ≤ 10) → σ7.1 a j = σ.1 a j := fun a j z w => by rw [a7.k _ _ z, bI_ne (by omega), a6.k _ _ z, bI_ne (by omega), a5.k _ _ z, bI_ne (by omega), a4.k _ _ z, a3.k _ _ z, bI_ne (by omega), a2.k _ _ z, bI_ne (by omega), a1.k _ _ z]
                have kl : ∀ a j, 3 ≤ a → σ7.2.1 a j = σ.2.1 a j := fun a j z => by
                  rw [a7.kL _ _ z, bI_21, a6.kL _ _ z, bI_21, a5.kL _ _ z, bI_21, a4.kL _ _ z, a3.kL _ _ z, bI_21, a2.kL _ _ z, bI_21, a1.kL _ _ z]
                refine PW_end gF ⟨by omega, (fun j => if j = 0 then wd else if j = 1 then tl else if j = 2 then ht else if j = 9 then 10 * sy + sx else if j = 10 then stk else u j), bel, ⟨hk, r7, fun i hi => ?_⟩, ⟨fun j h h' => ?_, fun p' hp' => ?_⟩, ?_, ?_, ?_, ?_, ?_, ?_, ?_, ?_⟩
                · show σ7.2.1 4 i = _
                  rw [kl _ _ (by omega)]; exact hK i hi
                · (try dsimp only)
                  by_cases e0 : j = 0
                  · rw [e0, bI_eq, if_pos rfl]
                  · rw [if_neg e0, bI_ne (by omega)]
                    by_cases e10 : j = 10
                    · rw [e10, bI_eq, if_neg (by omega), if_neg (by omega), if_neg (by omega), if_pos rfl]
                    · rw [bI_ne (by omega), b7.m]
                      by_cases e2 : j = 2
                      · rw [e2, bI_eq, if_neg (by omega), if_pos rfl]
                      · rw [bI_ne (by omega), b6.m]
                        by_cases e9 : j = 9
                        · rw [e9, bI_eq, if_neg (by omega), if_neg (by omega), if_pos rfl]
                        · rw [bI_ne (by omega), b5.m, b4.m, b3.m]
                          by_cases e1 : j = 1
                          · rw [e1, bI_eq, if_pos rfl]
                          · rw [bI_ne (by omega), b2'.m, b1.m, if_neg e1, if_neg e2, if_neg e9, if_neg e10]
                            exact hM.1 j h h'
                · rw [bI_ne (by omega), bI_ne (by omega), b7.m, bI_ne (by omega), b6.m, bI_ne (by omega), b5.m, b4.m, b3.m, bI_ne (by omega), b2'.m, b1.m]
                  exact hM.2 p' hp'
                · unfold G1
                  show _ = b2 (decide (wd ≠ 0)) ∧ wd ≤ 9 ∧ (wd = 0 → u 3 = 0) ∧ (wd ≠ 0 → ((1 ≤ tl ∧ tl ≤ 9) ∧ (1 ≤ ht ∧ ht ≤ 60) ∧ ((10 * sy + sx) % 10 ≤ 8 ∧ (10 * sy + sx) / 10 ≤ 8) ∧ stk ≤ 200) ∧ _ = nI wd ∧ _ = nI tl ∧ _ = nI ((10 * sy + sx) % 10) ∧ _ = nI ((10 * sy + sx) / 10) ∧ _ = nI ht ∧ _ = nI stk)
                  have d1 : (10 * sy + sx) % 10 = sx := by omega
                  have d2 : (10 * sy + sx) / 10 = sy := by omega
                  refine ⟨by rw [bI_eq, decide_eq_true (show wd ≠ 0 by omega)]; rfl, by omega, fun z => by omega, fun _ => ⟨⟨⟨y1, y2⟩, ⟨i1, i2⟩, ⟨by omega, by omega⟩, by omega⟩, ?_, ?_, ?_, ?_, ?_, ?_⟩⟩
                  · rw [bI_ne (by omega), bI_ne (by omega), a7.k _ _ (by omega), bI_ne (by omega), a6.k _ _ (by omega), bI_ne (by omega), a5.k _ _ (by omega), bI_ne (by omega), a4.k _ _ (by omega), q6]
                  · rw [bI_ne (by omega), bI_ne (by omega), a7.k _ _ (by omega), bI_ne (by omega), a6.k _ _ (by omega), bI_ne (by omega), a5.k _ _ (by omega), q7]
                  · rw [bI_ne (by omega), bI_ne (by omega), a7.k _ _ (by omega), bI_ne (by omega), a6.k _ _ (by omega), bI_ne (by omega), a5.k _ _ (by omega), bI_eq, d1]
                  · rw [bI_ne (by omega), bI_ne (by omega), a7.k _ _ (by omega), bI_ne (by omega), a6.k _ _ (by omega), bI_eq, d2]
                  · rw [bI_ne (by omega), bI_ne (by omega), a7.k _ _ (by omega), bI_eq]
                  · rw [bI_ne (by omega), bI_eq]
                · exact G2'.cg (fun j z => by (try dsimp only); rw [if_neg (by omega), if_neg (by omega), if_neg (by omega), if_neg (by omega), if_neg (by omega)]) (fun a k' z => by rw [bI_ne (by omega), bI_ne (by omega), kk _ _ (by omega) (by omega)])
                · exact G3'.cg (fun j z => by (try dsimp only); rw [if_neg (by omega), if_neg (by omega), if_neg (by omega), if_neg (by omega), if_neg (by omega)]) (by (try dsimp only); rw [if_neg (by omega), if_neg (by omega), if_neg (by omega), if_neg (by omega), if_neg (by omega)]; exact Nat.le_refl _) (fun a k' z => by rw [bI_ne (by omega), bI_ne (by omega), kk _ _ (by omega) (by omega)]) (fun k' => kl _ _ (by omega))
                · exact G4'.cg (fun j z => by (try dsimp only); rw [if_neg (by omega), if_neg (by omega), if_neg (by omega), if_neg (by omega), if_neg (by omega)]) (fun a k' z => kl _ _ (by omega))
                · exact G5'.cg (fun j z => by (try dsimp only); rw [if_neg (by omega), if_neg (by omega), if_neg (by omega), if_neg (by omega), if_neg (by omega)]) (fun a k' z => by rw [bI_ne (by omega), bI_ne (by omega), kk _ _ (by omega) (by omega)])
                · exact G6'.cg (fun j z => by (try dsimp only); rw [if_neg (by omega), if_neg (by omega), if_neg (by omega), if_neg (by omega), if_neg (by omega)]) (by (try dsimp only); rw [if_neg (by omega), if_neg (by omega), if_neg (by omega), if_neg (by omega), if_neg (by omega)]; exact Nat.le_refl _) (fun a k' z => by rw [bI_ne (by omega), bI_ne (by omega), kk _ _ (by omega) (by omega)])
                · exact G7'.cg (fun j z => by (try dsimp only); rw [if_neg (by omega), if_neg (by omega), if_neg (by omega), if_neg (by omega), if_neg (by omega)]) (fun k' => by rw [bI_ne (by omega), bI_ne (by omega), kk _ _ (by omega) (by omega)])
                · exact G8'.cg (fun j z => by (try dsimp only); rw [if_neg (by omega), if_neg (by omega), if_neg (by omega), if_neg (by omega), if_neg (by omega)]) (fun a k' z => by rw [bI_ne (by omega), bI_ne (by omega), kk _ _ (by omega) (by omega)])
              · simp only [set_e, hf, n10, if_false]
                exact ff1 _ _ _
            · simp only [aft_f, set_e, hf, n10, if_false, bbd_s, bbv_s]
              exact ff2 _ _ _ _ _
          · simp only [aft_f, set_e, hf, n10, if_false, bbd_s, bbv_s]
            exact ff3 _ _ _ _ _ _ _
        · simp only [aft_f, num_f, set_e, hf, n10, if_false, bbd_s, bbv_s]
          exact ff3 _ _ _ _ _ _ _
      · simp only [aft_f, num_f, set_e, hf, n10, if_false, bbd_s, bbv_s]
        exact ff3 _ _ _ _ _ _ _
    · simp only [aft_f, num_f, must_f, set_e, hf, n10, if_false, bbd_s, bbv_s]
      exact ff4 _ _ _ _ _ _ _ _ _
  · simp only [aft_f, num_f, must_f, set_e, hf, n10, if_false, bbd_s, bbv_s, blet]
    exact ff4 _ _ _ _ _ _ _ _ _
