/-! ===== line: room (own work) ===== -/
theorem pred_nI {a : Nat} (h : 1 ≤ a) : nI a - (1 : Int32) = nI (a - 1) := by rw [show (1 : Int32) = nI 1 from rfl, q_sub h]
theorem l_room {c : Nat} {σ0 μ0 : bSto} {tx : Nat → Nat} {n k : Nat} {u : Nat → Nat} {bel : Nat → Int32} {σ μ : bSto} (S : ST c u bel σ μ) (g : GD c σ0 μ0 tx n k σ μ) (h0 : u 0 = 0) {M : bSto → Option bSto} (hMM : M = fun s => bbd (f_X12_after 28 (1 : Int32) (9 : Int32) s) (fun v6 σ5 => bbd (f_X12_after 24 (1 : Int32) (9 : Int32) σ5) (fun v9 σ8 => blet (bI σ8 96 1 v9) (fun σ10 => bbv (f_X12_must 23 σ10) (fun σ13 => bbd (f_X12_number (0 : Int32) (v6 - (1 : Int32)) σ13) (fun v16 σ15 => bbd (f_X12_number (0 : Int32) ((σ15.1 96 1) - (1 : Int32)) σ15) (fun v19 σ18 => blet (bI σ18 96 9 (((10 : Int32) * v19) + v16)) (fun σ20 => bbd (f_X12_after 9 (1 : Int32) (60 : Int32) σ20) (fun v24 σ23 => blet (bI σ23 96 2 v24) (fun σ25 => bbd (f_X12_after 22 (0 : Int32) (200 : Int32) σ25) (fun v29 σ28 => blet (bI σ28 96 10 v29) (fun σ30 => (if (σ30.1 92 13) = 0 then blet (bI σ30 96 0 v6) (fun σ33 => some σ33) else some σ30))))))))))))) : PW c σ0 μ0 tx n (f_X9_readRoom σ) (M μ) (LN c k) := by
  subst hMM
  have S0 := S
  obtain ⟨⟨hk, hc, hK⟩, hM, G1', G2', G3', G4', G5', G6', G7', G8'⟩ := S0
  have hk' : c = 7 ∨ c = 69 := hk
  have h30 := G1'.2.2.1 h0
  rw [f_X9_readRoom, hc, if_pos hk]
  refine PW_aft 1 9 g (by decide) rfl rfl (by decide) (by decide) (fun wd k1 σ1 μ1 w1 w2 f1 l1 g1 a1 b1 => ?_) (fun μ' hf => ?_)
  · simp only [blet]
    rw [f1]
    have g1' := g1.setC (o := c + 1) (j := 6) (nI wd) (by omega) (by omega)
    refine PW_aft 1 9 g1' (by decide) rfl rfl (by decide) (by decide) (fun tl k2 σ2 μ2 y1 y2 f2 l2 g2 a2 b2' => ?_) (fun μ' hf => ?_)
    · rw [f2]
      have g2' := (g2.setC (o := c + 1) (j := 7) (nI tl) (by omega) (by omega)).setM (j := 1) (nI tl)
      refine PW_word g2' (by decide) (fun σ3 μ3 g3 a3 b3 => ?_) (fun μ' hf => ?_)
      · have q6 : σ3.1 (c + 1) 6 = nI wd := by rw [a3.k _ _ (by omega), bI_ne (by omega), a2.k _ _ (by omega), bI_eq]
        refine PW_num 0 (wd - 1) g3 rfl (by rw [q6, pred_nI w1]) (by decide) (by omega) (fun sx σ4 μ4 x1 x2 f4 g4 a4 b4 => ?_) (fun μ' hf => ?_)
        sorry
        sorry
      · sorry
    · sorry
  · sorry
