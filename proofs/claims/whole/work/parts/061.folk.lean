/-! BenchColony$Hall.clear -/
def f_X3_clear (x0 : Nat) (σ : bSto) : Option bSto := blet (bI σ x0 5 (0 : Int32)) (fun σ1 => blet (bI σ1 x0 6 (0 : Int32)) (fun σ3 => blet (bI σ3 x0 7 (0 : Int32)) (fun σ5 => blet (bI σ5 x0 10 (0 : Int32)) (fun σ7 => some σ7))))
set_option maxHeartbeats 4000000 in
set_option maxRecDepth 20000 in
theorem e_X3_clear_0 {X : bX} {l : Launch} {G : bG} {ρ : Nat → Nat} {A : Nat → Prop} {d : Nat} {σ' : bSto} (C : bCX X cX3_clear RX3 (d + 0)) (Hh : bH X l G bSHf ρ A 1) (Rt : bRX X none none σ') (x0 : Nat) (hx0 : kH x0) (σ : bSto) (hF : f_X3_clear x0 σ = some σ') : bAJ X 0 [(0, .ref x0)] [] σ := by
  rw [f_X3_clear] at hF
  refine b_aload_n (pc := 0) C dX3_clear_0 rfl 0 rfl ?_
  refine b_iconst (pc := 1) C dX3_clear_1 ic_0 ?_
  obtain ⟨σ1, e2, hF⟩ := blet_e hF
  refine b_putI (pc := 2) C dX3_clear_2 fp_X3_27 (Hh.1 _ _ (shH hx0)) rfl rfl rfl e2 ?_
  refine b_aload_n (pc := 5) C dX3_clear_5 rfl 0 rfl ?_
  refine b_iconst (pc := 6) C dX3_clear_6 ic_0 ?_
  obtain ⟨σ3, e4, hF⟩ := blet_e hF
  refine b_putI (pc := 7) C dX3_clear_7 fp_X3_31 (Hh.1 _ _ (shH hx0)) rfl rfl rfl e4 ?_
  refine b_aload_n (pc := 10) C dX3_clear_10 rfl 0 rfl ?_
  refine b_iconst (pc := 11) C dX3_clear_11 ic_0 ?_
  obtain ⟨σ5, e6, hF⟩ := blet_e hF
  refine b_putI (pc := 12) C dX3_clear_12 fp_X3_34 (Hh.1 _ _ (shH hx0)) rfl rfl rfl e6 ?_
  refine b_aload_n (pc := 15) C dX3_clear_15 rfl 0 rfl ?_
  refine b_iconst (pc := 16) C dX3_clear_16 ic_0 ?_
  obtain ⟨σ7, e8, hF⟩ := blet_e hF
  refine b_putI (pc := 17) C dX3_clear_17 fp_X3_37 (Hh.1 _ _ (shH hx0)) rfl rfl rfl e8 ?_
  exact b_vret (pc := 20) C Rt dX3_clear_20 hF
set_option maxHeartbeats 4000000 in
set_option maxRecDepth 20000 in
theorem e_X3_clear {l : Launch} {G : bG} {ρ : Nat → Nat} {A : Nat → Prop} (d : Nat) (x0 : Nat) (hx0 : kH x0) (σ : bSto) (σ' : bSto) (hF : f_X3_clear x0 σ = some σ') : bEv l G bSHf ρ A yX3_clear cX3_clear 1 none (d + 0) [.ref x0] σ none σ' := b_met (d := d + 0) (by decide +kernel) (Nat.le_of_ble_eq_true rfl) rfl (fun X C Rt h1 h2 h3 => e_X3_clear_0 C ⟨fun o q h => by rw [h1]; exact h, fun i h => by rw [h2]; exact h, h3⟩ Rt _ hx0 _ hF)
/-! BenchColony$Folk.clear -/
def f_X2_clear (x0 : Nat) (σ : bSto) : Option bSto := blet (bI σ x0 7 (0 : Int32)) (fun σ1 => blet (bI σ1 x0 8 (0 : Int32)) (fun σ3 => blet (bI σ3 x0 9 (0 : Int32)) (fun σ5 => bbv (f_J7_fill_53178 (x0 + 4) (0 : Int32) σ5) (fun σ8 => some σ8))))
set_option maxHeartbeats 4000000 in
set_option maxRecDepth 20000 in
theorem e_X2_clear_0 {X : bX} {l : Launch} {G : bG} {ρ : Nat → Nat} {A : Nat → Prop} {d : Nat} {σ' : bSto} (C : bCX X cX2_clear RX2 (d + 1)) (Hh : bH X l G bSHf ρ A 1) (Rt : bRX X none none σ') (x0 : Nat) (hx0 : kF x0) (σ : bSto) (hF : f_X2_clear x0 σ = some σ') : bAJ X 0 [(0, .ref x0)] [] σ := by
  rw [f_X2_clear] at hF
  refine b_aload_n (pc := 0) C dX2_clear_0 rfl 0 rfl ?_
  refine b_iconst (pc := 1) C dX2_clear_1 ic_0 ?_
  obtain ⟨σ1, e2, hF⟩ := blet_e hF
  refine b_putI (pc := 2) C dX2_clear_2 fp_X2_34 (Hh.1 _ _ (shF hx0)) rfl rfl rfl e2 ?_
  refine b_aload_n (pc := 5) C dX2_clear_5 rfl 0 rfl ?_
  refine b_iconst (pc := 6) C dX2_clear_6 ic_0 ?_
  obtain ⟨σ3, e4, hF⟩ := blet_e hF
  refine b_putI (pc := 7) C dX2_clear_7 fp_X2_38 (Hh.1 _ _ (shF hx0)) rfl rfl rfl e4 ?_
  refine b_aload_n (pc := 10) C dX2_clear_10 rfl 0 rfl ?_
  refine b_iconst (pc := 11) C dX2_clear_11 ic_0 ?_
  obtain ⟨σ5, e6, hF⟩ := blet_e hF
  refine b_putI (pc := 12) C dX2_clear_12 fp_X2_41 (Hh.1 _ _ (shF hx0)) rfl rfl rfl e6 ?_
  refine b_aload_n (pc := 15) C dX2_clear_15 rfl 0 rfl ?_
  refine b_getS (pc := 16) C dX2_clear_16 fl_X2_22 (Hh.1 _ _ (shF hx0)) rfl ?_
  refine b_iconst (pc := 19) C dX2_clear_19 ic_0 ?_
  obtain ⟨σ8, hc7, hF⟩ := bbv_e hF
  refine b_cS2v (d' := (d + 0)) (pc := 20) C dX2_clear_20 mm_X2_44 (Nat.le_of_ble_eq_true rfl) (by omega) (Hh.2.2 _ _ _ _ _ _ _ _ _ (lvl_eq (by omega) (e_J7_fill_53178 (d + 0) _ (ki_2_3 hx0) (0 : Int32) _ _ hc7))) ?_
  exact b_vret (pc := 23) C Rt dX2_clear_23 hF
set_option maxHeartbeats 4000000 in
set_option maxRecDepth 20000 in
theorem e_X2_clear {l : Launch} {G : bG} {ρ : Nat → Nat} {A : Nat → Prop} (d : Nat) (x0 : Nat) (hx0 : kF x0) (σ : bSto) (σ' : bSto) (hF : f_X2_clear x0 σ = some σ') : bEv l G bSHf ρ A yX2_clear cX2_clear 1 none (d + 1) [.ref x0] σ none σ' := b_met (d := d + 1) (by decide +kernel) (Nat.le_of_ble_eq_true rfl) rfl (fun X C Rt h1 h2 h3 => e_X2_clear_0 C ⟨fun o q h => by rw [h1]; exact h, fun i h => by rw [h2]; exact h, h3⟩ Rt _ hx0 _ hF)
/-! BenchColony$Now.clear -/
def f_X4_clear (x0 : Nat) (σ : bSto) : Option bSto := bbv (f_J7_fill_53178 (x0 + 1) (-2 : Int32) σ) (fun σ2 => bbv (f_J7_fill_53178 (x0 + 2) (0 : Int32) σ2) (fun σ4 => blet (bI σ4 x0 2 (0 : Int32)) (fun σ5 => blet (bI σ5 x0 3 (0 : Int32)) (fun σ7 => some σ7))))
set_option maxHeartbeats 4000000 in
set_option maxRecDepth 20000 in
theorem e_X4_clear_0 {X : bX} {l : Launch} {G : bG} {ρ : Nat → Nat} {A : Nat → Prop} {d : Nat} {σ' : bSto} (C : bCX X cX4_clear RX4 (d + 1)) (Hh : bH X l G bSHf ρ A 1) (Rt : bRX X none none σ') (x0 : Nat) (hx0 : kN x0) (σ : bSto) (hF : f_X4_clear x0 σ = some σ') : bAJ X 0 [(0, .ref x0)] [] σ := by
  rw [f_X4_clear] at hF
  refine b_aload_n (pc := 0) C dX4_clear_0 rfl 0 rfl ?_
  refine b_getS (pc := 1) C dX4_clear_1 fl_X4_9 (Hh.1 _ _ (shN hx0)) rfl ?_
  refine b_bipush (pc := 4) C dX4_clear_4 bp_m2 ?_
  obtain ⟨σ2, hc1, hF⟩ := bbv_e hF
  refine b_cS2v (d' := (d + 0)) (pc := 6) C dX4_clear_6 mm_X4_18 (Nat.le_of_ble_eq_true rfl) (by omega) (Hh.2.2 _ _ _ _ _ _ _ _ _ (lvl_eq (by omega) (e_J7_fill_53178 (d + 0) _ (ki_4_0 hx0) (-2 : Int32) _ _ hc1))) ?_
  refine b_aload_n (pc := 9) C dX4_clear_9 rfl 0 rfl ?_
  refine b_getS (pc := 10) C dX4_clear_10 fl_X4_15 (Hh.1 _ _ (shN hx0)) rfl ?_
  refine b_iconst (pc := 13) C dX4_clear_13 ic_0 ?_
  obtain ⟨σ4, hc3, hF⟩ := bbv_e hF
  refine b_cS2v (d' := (d + 0)) (pc := 14) C dX4_clear_14 mm_X4_18 (Nat.le_of_ble_eq_true rfl) (by omega) (Hh.2.2 _ _ _ _ _ _ _ _ _ (lvl_eq (by omega) (e_J7_fill_53178 (d + 0) _ (ki_4_1 hx0) (0 : Int32) _ _ hc3))) ?_
  refine b_aload_n (pc := 17) C dX4_clear_17 rfl 0 rfl ?_
  refine b_iconst (pc := 18) C dX4_clear_18 ic_0 ?_
  obtain ⟨σ5, e6, hF⟩ := blet_e hF
  refine b_putI (pc := 19) C dX4_clear_19 fp_X4_24 (Hh.1 _ _ (shN hx0)) rfl rfl rfl e6 ?_
  refine b_aload_n (pc := 22) C dX4_clear_22 rfl 0 rfl ?_
  refine b_iconst (pc := 23) C dX4_clear_23 ic_0 ?_
  obtain ⟨σ7, e8, hF⟩ := blet_e hF
  refine b_putI (pc := 24) C dX4_clear_24 fp_X4_28 (Hh.1 _ _ (shN hx0)) rfl rfl rfl e8 ?_
  exact b_vret (pc := 27) C Rt dX4_clear_27 hF
set_option maxHeartbeats 4000000 in
set_option maxRecDepth 20000 in
theorem e_X4_clear {l : Launch} {G : bG} {ρ : Nat → Nat} {A : Nat → Prop} (d : Nat) (x0 : Nat) (hx0 : kN x0) (σ : bSto) (σ' : bSto) (hF : f_X4_clear x0 σ = some σ') : bEv l G bSHf ρ A yX4_clear cX4_clear 1 none (d + 1) [.ref x0] σ none σ' := b_met (d := d + 1) (by decide +kernel) (Nat.le_of_ble_eq_true rfl) rfl (fun X C Rt h1 h2 h3 => e_X4_clear_0 C ⟨fun o q h => by rw [h1]; exact h, fun i h => by rw [h2]; exact h, h3⟩ Rt _ hx0 _ hF)
/-! BenchColony$Hall.isTaken -/
def f_X3_isTaken_L2 : Nat → Nat → Int32 → Int32 → Int32 → bSto → Option ((Int32 × bSto) ⊕ (Nat × Int32 × Int32 × bSto))
  | 0, _, _, _, _, _ => none
  | n + 1, x0, x1, x2, x3, σ => (if (σ.1 x0 5) ≤ x3 then some (.inr (x0, x1, x2, σ)) else if x3 < 0 ∨ 6 ≤ x3.toNatClampNeg then none else (if (σ.1 (x0 + 2) x3.toNatClampNeg) = x1 then if x3 < 0 ∨ 6 ≤ x3.toNatClampNeg then none else (if (σ.1 (x0 + 3) x3.toNatClampNeg) = x2 then some (.inl ((1 : Int32), σ)) else blet (x3 + (1 : Int32)) (fun x3_8 => f_X3_isTaken_L2 n x0 x1 x2 x3_8 σ)) else blet (x3 + (1 : Int32)) (fun x3_4 => f_X3_isTaken_L2 n x0 x1 x2 x3_4 σ)))
def f_X3_isTaken_J58  (σ : bSto) : Option (Int32 × bSto) := some ((0 : Int32), σ)
def f_X3_isTaken (x0 : Nat) (x1 : Int32) (x2 : Int32) (σ : bSto) : Option (Int32 × bSto) := br3 (f_X3_isTaken_L2 bFU x0 x1 x2 (0 : Int32) σ) (fun v s => some (v, s)) (fun x0_1 x1_1 x2_1 σ2 => (if x1_1 = (σ2.1 x0_1 8) then (if x2_1 = (σ2.1 x0_1 9) then some ((1 : Int32), σ2) else f_X3_isTaken_J58  σ2) else f_X3_isTaken_J58  σ2))
set_option maxHeartbeats 4000000 in
set_option maxRecDepth 20000 in
theorem e_X3_isTaken_L2 {X : bX} {l : Launch} {G : bG} {ρ : Nat → Nat} {A : Nat → Prop} {d : Nat} {r : Int32} {σ' : bSto} (C : bCX X cX3_isTaken RX3 (d + 0)) (Hh : bH X l G bSHf ρ A 4) (Rt : bRX X (some .boolean) (some (.int r)) σ') : ∀ (n : Nat) (x0 : Nat) (hx0 : kH x0) (x1 : Int32) (x2 : Int32) (x3 : Int32) (σ : bSto) (q : ((Int32 × bSto) ⊕ (Nat × Int32 × Int32 × bSto))), f_X3_isTaken_L2 n x0 x1 x2 x3 σ = some q → (∀ (v : Int32) (s : bSto), q = .inl (v, s) → some (v, s) = some (r, σ')) → (∀ (x0 : Nat) (x1 : Int32) (x2 : Int32) (s : bSto), q = .inr (x0, x1, x2, s) → kH x0 → bAJ X 38 [(0, .ref x0), (1, .int x1), (2, .int x2)] [] s) → bAJ X 2 [(0, .ref x0), (1, .int x1), (2, .int x2), (3, .int x3)] [] σ := by
  intro n
  induction n with
  | zero => intro x0 hx0 x1 x2 x3 σ q hF; rw [f_X3_isTaken_L2] at hF; cases hF
  | succ n ih =>
    intro x0 hx0 x1 x2 x3 σ q hF hr hx
    rw [f_X3_isTaken_L2] at hF
    refine b_iload_n (pc := 2) C dX3_isTaken_2 rfl 3 rfl ?_
    refine b_aload_n (pc := 3) C dX3_isTaken_3 rfl 0 rfl ?_
    refine b_getI (pc := 4) C dX3_isTaken_4 fl_X3_27 (Hh.1 _ _ (shH hx0)) rfl ?_
    refine b_icmp_ge (tgt := 38) (pc := 7) C dX3_isTaken_7 rfl (fun hc1 => ?_) (fun hc1 => ?_)
    · rw [if_pos hc1] at hF
      exact b_sub [0, 1, 2] rfl (hx _ _ _ _ (Option.some.inj hF).symm hx0)
    · rw [if_neg hc1] at hF
      refine b_aload_n (pc := 10) C dX3_isTaken_10 rfl 0 rfl ?_
      refine b_getS (pc := 11) C dX3_isTaken_11 fl_X3_15 (Hh.1 _ _ (shH hx0)) rfl ?_
      refine b_iload_n (pc := 14) C dX3_isTaken_14 rfl 3 rfl ?_
      obtain ⟨hb2, hF⟩ := bif_n hF
      refine b_iald (pc := 15) C dX3_isTaken_15 (Hh.1 _ _ (sa_3_1 hx0)) hb2 ?_
      refine b_iload_n (pc := 16) C dX3_isTaken_16 rfl 1 rfl ?_
      refine b_icmp_ne (tgt := 32) (pc := 17) C dX3_isTaken_17 rfl (fun hc3 => ?_) (fun hc3 => ?_)
      · rw [if_neg hc3] at hF
        obtain ⟨x3_4, e5, hF⟩ := blet_e hF
        refine b_iinc (L' := [(3, .int x3_4), (0, .ref x0), (1, .int x1), (2, .int x2)]) (pc := 32) C dX3_isTaken_32 3 rfl ic_1 e5 (Hh.2.1 _ (Nat.le_of_ble_eq_true rfl)) rfl ?_
        refine b_goto (tgt := 2) (pc := 35) C dX3_isTaken_35 rfl ?_
        exact b_sub [1, 2, 3, 0] rfl (ih _ hx0 x1 x2 x3_4 _ _ hF hr hx)
      · rw [if_pos hc3] at hF
        refine b_aload_n (pc := 20) C dX3_isTaken_20 rfl 0 rfl ?_
        refine b_getS (pc := 21) C dX3_isTaken_21 fl_X3_18 (Hh.1 _ _ (shH hx0)) rfl ?_
        refine b_iload_n (pc := 24) C dX3_isTaken_24 rfl 3 rfl ?_
        obtain ⟨hb6, hF⟩ := bif_n hF
        refine b_iald (pc := 25) C dX3_isTaken_25 (Hh.1 _ _ (sa_3_2 hx0)) hb6 ?_
        refine b_iload_n (pc := 26) C dX3_isTaken_26 rfl 2 rfl ?_
        refine b_icmp_ne (tgt := 32) (pc := 27) C dX3_isTaken_27 rfl (fun hc7 => ?_) (fun hc7 => ?_)
        · rw [if_neg hc7] at hF
          obtain ⟨x3_8, e9, hF⟩ := blet_e hF
          refine b_iinc (L' := [(3, .int x3_8), (0, .ref x0), (1, .int x1), (2, .int x2)]) (pc := 32) C dX3_isTaken_32 3 rfl ic_1 e9 (Hh.2.1 _ (Nat.le_of_ble_eq_true rfl)) rfl ?_
          refine b_goto (tgt := 2) (pc := 35) C dX3_isTaken_35 rfl ?_
          exact b_sub [1, 2, 3, 0] rfl (ih _ hx0 x1 x2 x3_8 _ _ hF hr hx)
        · rw [if_pos hc7] at hF
          refine b_iconst (pc := 30) C dX3_isTaken_30 ic_1 ?_
          exact b_zret (pc := 31) C Rt dX3_isTaken_31 rfl (hr _ _ (Option.some.inj hF).symm)
set_option maxHeartbeats 4000000 in
set_option maxRecDepth 20000 in
theorem e_X3_isTaken_J58 {X : bX} {l : Launch} {G : bG} {ρ : Nat → Nat} {A : Nat → Prop} {d : Nat} {r : Int32} {σ' : bSto} (C : bCX X cX3_isTaken RX3 (d + 0)) (Hh : bH X l G bSHf ρ A 4) (Rt : bRX X (some .boolean) (some (.int r)) σ')  (σ : bSto) (hF : f_X3_isTaken_J58  σ = some (r, σ')) : bAJ X 58 [] [] σ := by
  rw [f_X3_isTaken_J58] at hF
  refine b_iconst (pc := 58) C dX3_isTaken_58 ic_0 ?_
  exact b_zret (pc := 59) C Rt dX3_isTaken_59 rfl hF
set_option maxHeartbeats 4000000 in
set_option maxRecDepth 20000 in
theorem e_X3_isTaken_0 {X : bX} {l : Launch} {G : bG} {ρ : Nat → Nat} {A : Nat → Prop} {d : Nat} {r : Int32} {σ' : bSto} (C : bCX X cX3_isTaken RX3 (d + 0)) (Hh : bH X l G bSHf ρ A 4) (Rt : bRX X (some .boolean) (some (.int r)) σ') (x0 : Nat) (hx0 : kH x0) (x1 : Int32) (x2 : Int32) (σ : bSto) (hF : f_X3_isTaken x0 x1 x2 σ = some (r, σ')) : bAJ X 0 [(0, .ref x0), (1, .int x1), (2, .int x2)] [] σ := by
  rw [f_X3_isTaken] at hF
  refine b_iconst (pc := 0) C dX3_isTaken_0 ic_0 ?_
  refine b_istore_n (L' := [(3, .int (0 : Int32)), (0, .ref x0), (1, .int x1), (2, .int x2)]) (pc := 1) C dX3_isTaken_1 rfl rfl (Hh.2.1 _ (Nat.le_of_ble_eq_true rfl)) rfl ?_
  rcases br3_e hF with ⟨v, s, hq1, hF⟩ | ⟨x0_1, x1_1, x2_1, σ2, hq1, hF⟩
  · exact b_sub [1, 2, 3, 0] rfl (e_X3_isTaken_L2 C Hh Rt bFU _ hx0 x1 x2 (0 : Int32) _ _ hq1 (fun v s e => by cases e; exact hF) (fun _ _ _ _ e => by cases e))
  · refine b_sub [1, 2, 3, 0] rfl (e_X3_isTaken_L2 C Hh Rt bFU _ hx0 x1 x2 (0 : Int32) _ _ hq1 (fun v s e => by cases e) (fun _ _ _ _ e hx0_1 => ?_))
    cases e
    refine b_iload_n (pc := 38) C dX3_isTaken_38 rfl 1 rfl ?_
    refine b_aload_n (pc := 39) C dX3_isTaken_39 rfl 0 rfl ?_
    refine b_getI (pc := 40) C dX3_isTaken_40 fl_X3_40 (Hh.1 _ _ (shH hx0_1)) rfl ?_
    refine b_icmp_ne (tgt := 58) (pc := 43) C dX3_isTaken_43 rfl (fun hc3 => ?_) (fun hc3 => ?_)
    · rw [if_neg hc3] at hF
      exact b_sub [] rfl (e_X3_isTaken_J58 C Hh Rt  _ hF)
    · rw [if_pos hc3] at hF
      refine b_iload_n (pc := 46) C dX3_isTaken_46 rfl 2 rfl ?_
      refine b_aload_n (pc := 47) C dX3_isTaken_47 rfl 0 rfl ?_
      refine b_getI (pc := 48) C dX3_isTaken_48 fl_X3_43 (Hh.1 _ _ (shH hx0_1)) rfl ?_
      refine b_icmp_ne (tgt := 58) (pc := 51) C dX3_isTaken_51 rfl (fun hc4 => ?_) (fun hc4 => ?_)
      · rw [if_neg hc4] at hF
        exact b_sub [] rfl (e_X3_isTaken_J58 C Hh Rt  _ hF)
      · rw [if_pos hc4] at hF
        refine b_iconst (pc := 54) C dX3_isTaken_54 ic_1 ?_
        refine b_goto (tgt := 59) (pc := 55) C dX3_isTaken_55 rfl ?_
        exact b_zret (pc := 59) C Rt dX3_isTaken_59 rfl hF
set_option maxHeartbeats 4000000 in
set_option maxRecDepth 20000 in
theorem e_X3_isTaken {l : Launch} {G : bG} {ρ : Nat → Nat} {A : Nat → Prop} (d : Nat) (x0 : Nat) (hx0 : kH x0) (x1 : Int32) (x2 : Int32) (σ : bSto) (r : Int32) (σ' : bSto) (hF : f_X3_isTaken x0 x1 x2 σ = some (r, σ')) : bEv l G bSHf ρ A yX3_isTaken cX3_isTaken 4 (some .boolean) (d + 0) [.ref x0, .int x1, .int x2] σ (some (.int r)) σ' := b_met (d := d + 0) (by decide +kernel) (Nat.le_of_ble_eq_true rfl) rfl (fun X C Rt h1 h2 h3 => e_X3_isTaken_0 C ⟨fun o q h => by rw [h1]; exact h, fun i h => by rw [h2]; exact h, h3⟩ Rt _ hx0 _ _ _ hF)
/-! BenchColony$Now.sitters -/
def f_X4_sitters_L4 : Nat → Nat → Int32 → Int32 → Int32 → bSto → Option (Int32 × bSto)
  | 0, _, _, _, _, _ => none
  | n + 1, x0, x1, x2, x3, σ => (if (7 : Int32) ≤ x3 then some (x2, σ) else if x3 < 0 ∨ 7 ≤ x3.toNatClampNeg then none else (if (σ.1 (x0 + 1) x3.toNatClampNeg) = x1 then blet (x2 ||| ((1 : Int32) <<< (x3 &&& 31))) (fun x2_6 => blet (x3 + (1 : Int32)) (fun x3_8 => f_X4_sitters_L4 n x0 x1 x2_6 x3_8 σ)) else blet (x3 + (1 : Int32)) (fun x3_4 => f_X4_sitters_L4 n x0 x1 x2 x3_4 σ)))
def f_X4_sitters (x0 : Nat) (x1 : Int32) (σ : bSto) : Option (Int32 × bSto) := bl1 (f_X4_sitters_L4 bFU x0 x1 (0 : Int32) (0 : Int32) σ) (fun x2_1 σ2 => some (x2_1, σ2))
set_option maxHeartbeats 4000000 in
set_option maxRecDepth 20000 in
theorem e_X4_sitters_L4 {X : bX} {l : Launch} {G : bG} {ρ : Nat → Nat} {A : Nat → Prop} {d : Nat} {r : Int32} {σ' : bSto} (C : bCX X cX4_sitters RX4 (d + 0)) (Hh : bH X l G bSHf ρ A 4) (Rt : bRX X (some .int) (some (.int r)) σ') : ∀ (n : Nat) (x0 : Nat) (hx0 : kN x0) (x1 : Int32) (x2 : Int32) (x3 : Int32) (σ : bSto) (q : (Int32 × bSto)), f_X4_sitters_L4 n x0 x1 x2 x3 σ = some q → (∀ (x2 : Int32) (s : bSto), q = (x2, s) → bAJ X 32 [(2, .int x2)] [] s) → bAJ X 4 [(0, .ref x0), (1, .int x1), (2, .int x2), (3, .int x3)] [] σ := by
  intro n
  induction n with
  | zero => intro x0 hx0 x1 x2 x3 σ q hF; rw [f_X4_sitters_L4] at hF; cases hF
  | succ n ih =>
    intro x0 hx0 x1 x2 x3 σ q hF hx
    rw [f_X4_sitters_L4] at hF
    refine b_iload_n (pc := 4) C dX4_sitters_4 rfl 3 rfl ?_
    refine b_bipush (pc := 5) C dX4_sitters_5 bp_7 ?_
    refine b_icmp_ge (tgt := 32) (pc := 7) C dX4_sitters_7 rfl (fun hc1 => ?_) (fun hc1 => ?_)
    · rw [if_pos hc1] at hF
      exact b_sub [2] rfl (hx _ _ (Option.some.inj hF).symm )
    · rw [if_neg hc1] at hF
      refine b_aload_n (pc := 10) C dX4_sitters_10 rfl 0 rfl ?_
      refine b_getS (pc := 11) C dX4_sitters_11 fl_X4_9 (Hh.1 _ _ (shN hx0)) rfl ?_
      refine b_iload_n (pc := 14) C dX4_sitters_14 rfl 3 rfl ?_
      obtain ⟨hb2, hF⟩ := bif_n hF
      refine b_iald (pc := 15) C dX4_sitters_15 (Hh.1 _ _ (sa_4_0 hx0)) hb2 ?_
      refine b_iload_n (pc := 16) C dX4_sitters_16 rfl 1 rfl ?_
      refine b_icmp_ne (tgt := 26) (pc := 17) C dX4_sitters_17 rfl (fun hc3 => ?_) (fun hc3 => ?_)
      · rw [if_neg hc3] at hF
        obtain ⟨x3_4, e5, hF⟩ := blet_e hF
        refine b_iinc (L' := [(3, .int x3_4), (0, .ref x0), (1, .int x1), (2, .int x2)]) (pc := 26) C dX4_sitters_26 3 rfl ic_1 e5 (Hh.2.1 _ (Nat.le_of_ble_eq_true rfl)) rfl ?_
        refine b_goto (tgt := 4) (pc := 29) C dX4_sitters_29 rfl ?_
        exact b_sub [1, 2, 3, 0] rfl (ih _ hx0 x1 x2 x3_4 _ _ hF hx)
      · rw [if_pos hc3] at hF
        refine b_iload_n (pc := 20) C dX4_sitters_20 rfl 2 rfl ?_
        refine b_iconst (pc := 21) C dX4_sitters_21 ic_1 ?_
        refine b_iload_n (pc := 22) C dX4_sitters_22 rfl 3 rfl ?_
        refine b_ishl (pc := 23) C dX4_sitters_23 ?_
        refine b_ior (pc := 24) C dX4_sitters_24 ?_
        obtain ⟨x2_6, e7, hF⟩ := blet_e hF
        refine b_istore_n (L' := [(2, .int x2_6), (0, .ref x0), (1, .int x1), (3, .int x3)]) (pc := 25) C dX4_sitters_25 rfl e7 (Hh.2.1 _ (Nat.le_of_ble_eq_true rfl)) rfl ?_
        obtain ⟨x3_8, e9, hF⟩ := blet_e hF
        refine b_iinc (L' := [(3, .int x3_8), (2, .int x2_6), (0, .ref x0), (1, .int x1)]) (pc := 26) C dX4_sitters_26 3 rfl ic_1 e9 (Hh.2.1 _ (Nat.le_of_ble_eq_true rfl)) rfl ?_
        refine b_goto (tgt := 4) (pc := 29) C dX4_sitters_29 rfl ?_
        exact b_sub [2, 3, 1, 0] rfl (ih _ hx0 x1 x2_6 x3_8 _ _ hF hx)
set_option maxHeartbeats 4000000 in
set_option maxRecDepth 20000 in
theorem e_X4_sitters_0 {X : bX} {l : Launch} {G : bG} {ρ : Nat → Nat} {A : Nat → Prop} {d : Nat} {r : Int32} {σ' : bSto} (C : bCX X cX4_sitters RX4 (d + 0)) (Hh : bH X l G bSHf ρ A 4) (Rt : bRX X (some .int) (some (.int r)) σ') (x0 : Nat) (hx0 : kN x0) (x1 : Int32) (σ : bSto) (hF : f_X4_sitters x0 x1 σ = some (r, σ')) : bAJ X 0 [(0, .ref x0), (1, .int x1)] [] σ := by
  rw [f_X4_sitters] at hF
  refine b_iconst (pc := 0) C dX4_sitters_0 ic_0 ?_
  refine b_istore_n (L' := [(2, .int (0 : Int32)), (0, .ref x0), (1, .int x1)]) (pc := 1) C dX4_sitters_1 rfl rfl (Hh.2.1 _ (Nat.le_of_ble_eq_true rfl)) rfl ?_
  refine b_iconst (pc := 2) C dX4_sitters_2 ic_0 ?_
  refine b_istore_n (L' := [(3, .int (0 : Int32)), (2, .int (0 : Int32)), (0, .ref x0), (1, .int x1)]) (pc := 3) C dX4_sitters_3 rfl rfl (Hh.2.1 _ (Nat.le_of_ble_eq_true rfl)) rfl ?_
  obtain ⟨x2_1, σ2, hq1, hF⟩ := bl1_e hF
  refine b_sub [2, 3, 1, 0] rfl (e_X4_sitters_L4 C Hh Rt bFU _ hx0 x1 (0 : Int32) (0 : Int32) _ _ hq1 (fun _ _ e  => ?_))
  cases e
  refine b_iload_n (pc := 32) C dX4_sitters_32 rfl 0 rfl ?_
  exact b_iret (pc := 33) C Rt dX4_sitters_33 hF
set_option maxHeartbeats 4000000 in
set_option maxRecDepth 20000 in
theorem e_X4_sitters {l : Launch} {G : bG} {ρ : Nat → Nat} {A : Nat → Prop} (d : Nat) (x0 : Nat) (hx0 : kN x0) (x1 : Int32) (σ : bSto) (r : Int32) (σ' : bSto) (hF : f_X4_sitters x0 x1 σ = some (r, σ')) : bEv l G bSHf ρ A yX4_sitters cX4_sitters 4 (some .int) (d + 0) [.ref x0, .int x1] σ (some (.int r)) σ' := b_met (d := d + 0) (by decide +kernel) (Nat.le_of_ble_eq_true rfl) rfl (fun X C Rt h1 h2 h3 => e_X4_sitters_0 C ⟨fun o q h => by rw [h1]; exact h, fun i h => by rw [h2]; exact h, h3⟩ Rt _ hx0 _ _ hF)
/-! BenchColony$Folk.areKin -/
def f_X2_areKin (x0 : Nat) (x1 : Int32) (x2 : Int32) (σ : bSto) : Option (Int32 × bSto) := if x1 < 0 ∨ 7 ≤ x1.toNatClampNeg then none else (if (((σ.1 (x0 + 4) x1.toNatClampNeg) >>> (x2 &&& 31)) &&& (1 : Int32)) = (1 : Int32) then some ((1 : Int32), σ) else some ((0 : Int32), σ))
set_option maxHeartbeats 4000000 in
set_option maxRecDepth 20000 in
theorem e_X2_areKin_0 {X : bX} {l : Launch} {G : bG} {ρ : Nat → Nat} {A : Nat → Prop} {d : Nat} {r : Int32} {σ' : bSto} (C : bCX X cX2_areKin RX2 (d + 0)) (Hh : bH X l G bSHf ρ A 3) (Rt : bRX X (some .boolean) (some (.int r)) σ') (x0 : Nat) (hx0 : kF x0) (x1 : Int32) (x2 : Int32) (σ : bSto) (hF : f_X2_areKin x0 x1 x2 σ = some (r, σ')) : bAJ X 0 [(0, .ref x0), (1, .int x1), (2, .int x2)] [] σ := by
  rw [f_X2_areKin] at hF
  refine b_aload_n (pc := 0) C dX2_areKin_0 rfl 0 rfl ?_
  refine b_getS (pc := 1) C dX2_areKin_1 fl_X2_22 (Hh.1 _ _ (shF hx0)) rfl ?_
  refine b_iload_n (pc := 4) C dX2_areKin_4 rfl 1 rfl ?_
  obtain ⟨hb1, hF⟩ := bif_n hF
  refine b_iald (pc := 5) C dX2_areKin_5 (Hh.1 _ _ (sa_2_3 hx0)) hb1 ?_
  refine b_iload_n (pc := 6) C dX2_areKin_6 rfl 2 rfl ?_
  refine b_ishr (pc := 7) C dX2_areKin_7 ?_
  refine b_iconst (pc := 8) C dX2_areKin_8 ic_1 ?_
  refine b_iand (pc := 9) C dX2_areKin_9 ?_
  refine b_iconst (pc := 10) C dX2_areKin_10 ic_1 ?_
  refine b_icmp_ne (tgt := 18) (pc := 11) C dX2_areKin_11 rfl (fun hc2 => ?_) (fun hc2 => ?_)
  · rw [if_neg hc2] at hF
    refine b_iconst (pc := 18) C dX2_areKin_18 ic_0 ?_
    exact b_zret (pc := 19) C Rt dX2_areKin_19 rfl hF
  · rw [if_pos hc2] at hF
    refine b_iconst (pc := 14) C dX2_areKin_14 ic_1 ?_
    refine b_goto (tgt := 19) (pc := 15) C dX2_areKin_15 rfl ?_
    exact b_zret (pc := 19) C Rt dX2_areKin_19 rfl hF
set_option maxHeartbeats 4000000 in
set_option maxRecDepth 20000 in
theorem e_X2_areKin {l : Launch} {G : bG} {ρ : Nat → Nat} {A : Nat → Prop} (d : Nat) (x0 : Nat) (hx0 : kF x0) (x1 : Int32) (x2 : Int32) (σ : bSto) (r : Int32) (σ' : bSto) (hF : f_X2_areKin x0 x1 x2 σ = some (r, σ')) : bEv l G bSHf ρ A yX2_areKin cX2_areKin 3 (some .boolean) (d + 0) [.ref x0, .int x1, .int x2] σ (some (.int r)) σ' := b_met (d := d + 0) (by decide +kernel) (Nat.le_of_ble_eq_true rfl) rfl (fun X C Rt h1 h2 h3 => e_X2_areKin_0 C ⟨fun o q h => by rw [h1]; exact h, fun i h => by rw [h2]; exact h, h3⟩ Rt _ hx0 _ _ _ hF)
/-! BenchColony$Folk.addKin -/
def f_X2_addKin (x0 : Nat) (x1 : Int32) (x2 : Int32) (σ : bSto) : Option bSto := if x1 < 0 ∨ 7 ≤ x1.toNatClampNeg then none else if x1 < 0 ∨ 7 ≤ x1.toNatClampNeg then none else blet (bI σ (x0 + 4) x1.toNatClampNeg ((σ.1 (x0 + 4) x1.toNatClampNeg) ||| ((1 : Int32) <<< (x2 &&& 31)))) (fun σ2 => if x2 < 0 ∨ 7 ≤ x2.toNatClampNeg then none else if x2 < 0 ∨ 7 ≤ x2.toNatClampNeg then none else blet (bI σ2 (x0 + 4) x2.toNatClampNeg ((σ2.1 (x0 + 4) x2.toNatClampNeg) ||| ((1 : Int32) <<< (x1 &&& 31)))) (fun σ6 => blet (bI σ6 x0 8 ((σ6.1 x0 8) + (1 : Int32))) (fun σ9 => some σ9)))
set_option maxHeartbeats 4000000 in
set_option maxRecDepth 20000 in
theorem e_X2_addKin_0 {X : bX} {l : Launch} {G : bG} {ρ : Nat → Nat} {A : Nat → Prop} {d : Nat} {σ' : bSto} (C : bCX X cX2_addKin RX2 (d + 0)) (Hh : bH X l G bSHf ρ A 3) (Rt : bRX X none none σ') (x0 : Nat) (hx0 : kF x0) (x1 : Int32) (x2 : Int32) (σ : bSto) (hF : f_X2_addKin x0 x1 x2 σ = some σ') : bAJ X 0 [(0, .ref x0), (1, .int x1), (2, .int x2)] [] σ := by
  rw [f_X2_addKin] at hF
  refine b_aload_n (pc := 0) C dX2_addKin_0 rfl 0 rfl ?_
  refine b_getS (pc := 1) C dX2_addKin_1 fl_X2_22 (Hh.1 _ _ (shF hx0)) rfl ?_
  refine b_iload_n (pc := 4) C dX2_addKin_4 rfl 1 rfl ?_
  refine b_dup2 (pc := 5) C dX2_addKin_5 rfl rfl ?_
  obtain ⟨hb1, hF⟩ := bif_n hF
  refine b_iald (pc := 6) C dX2_addKin_6 (Hh.1 _ _ (sa_2_3 hx0)) hb1 ?_
  refine b_iconst (pc := 7) C dX2_addKin_7 ic_1 ?_
  refine b_iload_n (pc := 8) C dX2_addKin_8 rfl 2 rfl ?_
  refine b_ishl (pc := 9) C dX2_addKin_9 ?_
  refine b_ior (pc := 10) C dX2_addKin_10 ?_
  obtain ⟨hb4, hF⟩ := bif_n hF
  obtain ⟨σ2, e3, hF⟩ := blet_e hF
  refine b_iast (pc := 11) C dX2_addKin_11 (Hh.1 _ _ (sa_2_3 hx0)) hb4 e3 ?_
  refine b_aload_n (pc := 12) C dX2_addKin_12 rfl 0 rfl ?_
  refine b_getS (pc := 13) C dX2_addKin_13 fl_X2_22 (Hh.1 _ _ (shF hx0)) rfl ?_
  refine b_iload_n (pc := 16) C dX2_addKin_16 rfl 2 rfl ?_
  refine b_dup2 (pc := 17) C dX2_addKin_17 rfl rfl ?_
  obtain ⟨hb5, hF⟩ := bif_n hF
  refine b_iald (pc := 18) C dX2_addKin_18 (Hh.1 _ _ (sa_2_3 hx0)) hb5 ?_
  refine b_iconst (pc := 19) C dX2_addKin_19 ic_1 ?_
  refine b_iload_n (pc := 20) C dX2_addKin_20 rfl 1 rfl ?_
  refine b_ishl (pc := 21) C dX2_addKin_21 ?_
  refine b_ior (pc := 22) C dX2_addKin_22 ?_
  obtain ⟨hb8, hF⟩ := bif_n hF
  obtain ⟨σ6, e7, hF⟩ := blet_e hF
  refine b_iast (pc := 23) C dX2_addKin_23 (Hh.1 _ _ (sa_2_3 hx0)) hb8 e7 ?_
  refine b_aload_n (pc := 24) C dX2_addKin_24 rfl 0 rfl ?_
  refine b_dup (pc := 25) C dX2_addKin_25 rfl ?_
  refine b_getI (pc := 26) C dX2_addKin_26 fl_X2_38 (Hh.1 _ _ (shF hx0)) rfl ?_
  refine b_iconst (pc := 29) C dX2_addKin_29 ic_1 ?_
  refine b_iadd (pc := 30) C dX2_addKin_30 ?_
  obtain ⟨σ9, e10, hF⟩ := blet_e hF
  refine b_putI (pc := 31) C dX2_addKin_31 fp_X2_38 (Hh.1 _ _ (shF hx0)) rfl rfl rfl e10 ?_
  exact b_vret (pc := 34) C Rt dX2_addKin_34 hF
set_option maxHeartbeats 4000000 in
set_option maxRecDepth 20000 in
theorem e_X2_addKin {l : Launch} {G : bG} {ρ : Nat → Nat} {A : Nat → Prop} (d : Nat) (x0 : Nat) (hx0 : kF x0) (x1 : Int32) (x2 : Int32) (σ : bSto) (σ' : bSto) (hF : f_X2_addKin x0 x1 x2 σ = some σ') : bEv l G bSHf ρ A yX2_addKin cX2_addKin 3 none (d + 0) [.ref x0, .int x1, .int x2] σ none σ' := b_met (d := d + 0) (by decide +kernel) (Nat.le_of_ble_eq_true rfl) rfl (fun X C Rt h1 h2 h3 => e_X2_addKin_0 C ⟨fun o q h => by rw [h1]; exact h, fun i h => by rw [h2]; exact h, h3⟩ Rt _ hx0 _ _ _ hF)
/-! BenchColony$Folk.heeds -/
def f_X2_heeds_L2 : Nat → Nat → Int32 → Int32 → Int32 → bSto → Option ((Int32 × bSto) ⊕ (bSto))
  | 0, _, _, _, _, _ => none
  | n + 1, x0, x1, x2, x3, σ => (if (σ.1 x0 9) ≤ x3 then some (.inr σ) else if x3 < 0 ∨ 9 ≤ x3.toNatClampNeg then none else (if (σ.1 (x0 + 5) x3.toNatClampNeg) = x1 then if x3 < 0 ∨ 9 ≤ x3.toNatClampNeg then none else (if (σ.1 (x0 + 6) x3.toNatClampNeg) = x2 then some (.inl ((1 : Int32), σ)) else blet (x3 + (1 : Int32)) (fun x3_8 => f_X2_heeds_L2 n x0 x1 x2 x3_8 σ)) else blet (x3 + (1 : Int32)) (fun x3_4 => f_X2_heeds_L2 n x0 x1 x2 x3_4 σ)))
def f_X2_heeds (x0 : Nat) (x1 : Int32) (x2 : Int32) (σ : bSto) : Option (Int32 × bSto) := br0 (f_X2_heeds_L2 bFU x0 x1 x2 (0 : Int32) σ) (fun v s => some (v, s)) (fun σ2 => some ((0 : Int32), σ2))
set_option maxHeartbeats 4000000 in
set_option maxRecDepth 20000 in
theorem e_X2_heeds_L2 {X : bX} {l : Launch} {G : bG} {ρ : Nat → Nat} {A : Nat → Prop} {d : Nat} {r : Int32} {σ' : bSto} (C : bCX X cX2_heeds RX2 (d + 0)) (Hh : bH X l G bSHf ρ A 4) (Rt : bRX X (some .boolean) (some (.int r)) σ') : ∀ (n : Nat) (x0 : Nat) (hx0 : kF x0) (x1 : Int32) (x2 : Int32) (x3 : Int32) (σ : bSto) (q : ((Int32 × bSto) ⊕ (bSto))), f_X2_heeds_L2 n x0 x1 x2 x3 σ = some q → (∀ (v : Int32) (s : bSto), q = .inl (v, s) → some (v, s) = some (r, σ')) → (∀  (s : bSto), q = .inr s → bAJ X 38 [] [] s) → bAJ X 2 [(0, .ref x0), (1, .int x1), (2, .int x2), (3, .int x3)] [] σ := by
  intro n
  induction n with
  | zero => intro x0 hx0 x1 x2 x3 σ q hF; rw [f_X2_heeds_L2] at hF; cases hF
  | succ n ih =>
    intro x0 hx0 x1 x2 x3 σ q hF hr hx
    rw [f_X2_heeds_L2] at hF
    refine b_iload_n (pc := 2) C dX2_heeds_2 rfl 3 rfl ?_
    refine b_aload_n (pc := 3) C dX2_heeds_3 rfl 0 rfl ?_
    refine b_getI (pc := 4) C dX2_heeds_4 fl_X2_41 (Hh.1 _ _ (shF hx0)) rfl ?_
    refine b_icmp_ge (tgt := 38) (pc := 7) C dX2_heeds_7 rfl (fun hc1 => ?_) (fun hc1 => ?_)
    · rw [if_pos hc1] at hF
      exact b_sub [] rfl (hx  _ (Option.some.inj hF).symm )
    · rw [if_neg hc1] at hF
      refine b_aload_n (pc := 10) C dX2_heeds_10 rfl 0 rfl ?_
      refine b_getS (pc := 11) C dX2_heeds_11 fl_X2_25 (Hh.1 _ _ (shF hx0)) rfl ?_
      refine b_iload_n (pc := 14) C dX2_heeds_14 rfl 3 rfl ?_
      obtain ⟨hb2, hF⟩ := bif_n hF
      refine b_iald (pc := 15) C dX2_heeds_15 (Hh.1 _ _ (sa_2_4 hx0)) hb2 ?_
      refine b_iload_n (pc := 16) C dX2_heeds_16 rfl 1 rfl ?_
      refine b_icmp_ne (tgt := 32) (pc := 17) C dX2_heeds_17 rfl (fun hc3 => ?_) (fun hc3 => ?_)
      · rw [if_neg hc3] at hF
        obtain ⟨x3_4, e5, hF⟩ := blet_e hF
        refine b_iinc (L' := [(3, .int x3_4), (0, .ref x0), (1, .int x1), (2, .int x2)]) (pc := 32) C dX2_heeds_32 3 rfl ic_1 e5 (Hh.2.1 _ (Nat.le_of_ble_eq_true rfl)) rfl ?_
        refine b_goto (tgt := 2) (pc := 35) C dX2_heeds_35 rfl ?_
        exact b_sub [1, 2, 3, 0] rfl (ih _ hx0 x1 x2 x3_4 _ _ hF hr hx)
      · rw [if_pos hc3] at hF
        refine b_aload_n (pc := 20) C dX2_heeds_20 rfl 0 rfl ?_
        refine b_getS (pc := 21) C dX2_heeds_21 fl_X2_28 (Hh.1 _ _ (shF hx0)) rfl ?_
        refine b_iload_n (pc := 24) C dX2_heeds_24 rfl 3 rfl ?_
        obtain ⟨hb6, hF⟩ := bif_n hF
        refine b_iald (pc := 25) C dX2_heeds_25 (Hh.1 _ _ (sa_2_5 hx0)) hb6 ?_
        refine b_iload_n (pc := 26) C dX2_heeds_26 rfl 2 rfl ?_
        refine b_icmp_ne (tgt := 32) (pc := 27) C dX2_heeds_27 rfl (fun hc7 => ?_) (fun hc7 => ?_)
        · rw [if_neg hc7] at hF
          obtain ⟨x3_8, e9, hF⟩ := blet_e hF
          refine b_iinc (L' := [(3, .int x3_8), (0, .ref x0), (1, .int x1), (2, .int x2)]) (pc := 32) C dX2_heeds_32 3 rfl ic_1 e9 (Hh.2.1 _ (Nat.le_of_ble_eq_true rfl)) rfl ?_
          refine b_goto (tgt := 2) (pc := 35) C dX2_heeds_35 rfl ?_
          exact b_sub [1, 2, 3, 0] rfl (ih _ hx0 x1 x2 x3_8 _ _ hF hr hx)
        · rw [if_pos hc7] at hF
          refine b_iconst (pc := 30) C dX2_heeds_30 ic_1 ?_
          exact b_zret (pc := 31) C Rt dX2_heeds_31 rfl (hr _ _ (Option.some.inj hF).symm)
set_option maxHeartbeats 4000000 in
set_option maxRecDepth 20000 in
theorem e_X2_heeds_0 {X : bX} {l : Launch} {G : bG} {ρ : Nat → Nat} {A : Nat → Prop} {d : Nat} {r : Int32} {σ' : bSto} (C : bCX X cX2_heeds RX2 (d + 0)) (Hh : bH X l G bSHf ρ A 4) (Rt : bRX X (some .boolean) (some (.int r)) σ') (x0 : Nat) (hx0 : kF x0) (x1 : Int32) (x2 : Int32) (σ : bSto) (hF : f_X2_heeds x0 x1 x2 σ = some (r, σ')) : bAJ X 0 [(0, .ref x0), (1, .int x1), (2, .int x2)] [] σ := by
  rw [f_X2_heeds] at hF
  refine b_iconst (pc := 0) C dX2_heeds_0 ic_0 ?_
  refine b_istore_n (L' := [(3, .int (0 : Int32)), (0, .ref x0), (1, .int x1), (2, .int x2)]) (pc := 1) C dX2_heeds_1 rfl rfl (Hh.2.1 _ (Nat.le_of_ble_eq_true rfl)) rfl ?_
  rcases br0_e hF with ⟨v, s, hq1, hF⟩ | ⟨σ2, hq1, hF⟩
  · exact b_sub [1, 2, 3, 0] rfl (e_X2_heeds_L2 C Hh Rt bFU _ hx0 x1 x2 (0 : Int32) _ _ hq1 (fun v s e => by cases e; exact hF) (fun  _ e => by cases e))
  · refine b_sub [1, 2, 3, 0] rfl (e_X2_heeds_L2 C Hh Rt bFU _ hx0 x1 x2 (0 : Int32) _ _ hq1 (fun v s e => by cases e) (fun  _ e  => ?_))
    cases e
    refine b_iconst (pc := 38) C dX2_heeds_38 ic_0 ?_
    exact b_zret (pc := 39) C Rt dX2_heeds_39 rfl hF
set_option maxHeartbeats 4000000 in
set_option maxRecDepth 20000 in
theorem e_X2_heeds {l : Launch} {G : bG} {ρ : Nat → Nat} {A : Nat → Prop} (d : Nat) (x0 : Nat) (hx0 : kF x0) (x1 : Int32) (x2 : Int32) (σ : bSto) (r : Int32) (σ' : bSto) (hF : f_X2_heeds x0 x1 x2 σ = some (r, σ')) : bEv l G bSHf ρ A yX2_heeds cX2_heeds 4 (some .boolean) (d + 0) [.ref x0, .int x1, .int x2] σ (some (.int r)) σ' := b_met (d := d + 0) (by decide +kernel) (Nat.le_of_ble_eq_true rfl) rfl (fun X C Rt h1 h2 h3 => e_X2_heeds_0 C ⟨fun o q h => by rw [h1]; exact h, fun i h => by rw [h2]; exact h, h3⟩ Rt _ hx0 _ _ _ hF)
/-! BenchColony$Folk.addHeed -/
def f_X2_addHeed (x0 : Nat) (x1 : Int32) (x2 : Int32) (x3 : Int32) (σ : bSto) : Option bSto := (if (σ.1 x0 9) < (9 : Int32) then if (σ.1 x0 9) < 0 ∨ 9 ≤ (σ.1 x0 9).toNatClampNeg then none else blet (bI σ (x0 + 5) (σ.1 x0 9).toNatClampNeg x1) (fun σ2 => if (σ2.1 x0 9) < 0 ∨ 9 ≤ (σ2.1 x0 9).toNatClampNeg then none else blet (bI σ2 (x0 + 6) (σ2.1 x0 9).toNatClampNeg x2) (fun σ5 => if (σ5.1 x0 9) < 0 ∨ 9 ≤ (σ5.1 x0 9).toNatClampNeg then none else blet (bI σ5 (x0 + 7) (σ5.1 x0 9).toNatClampNeg x3) (fun σ8 => blet (bI σ8 x0 9 ((σ8.1 x0 9) + (1 : Int32))) (fun σ11 => some σ11)))) else some σ)
set_option maxHeartbeats 4000000 in
set_option maxRecDepth 20000 in
theorem e_X2_addHeed_0 {X : bX} {l : Launch} {G : bG} {ρ : Nat → Nat} {A : Nat → Prop} {d : Nat} {σ' : bSto} (C : bCX X cX2_addHeed RX2 (d + 0)) (Hh : bH X l G bSHf ρ A 4) (Rt : bRX X none none σ') (x0 : Nat) (hx0 : kF x0) (x1 : Int32) (x2 : Int32) (x3 : Int32) (σ : bSto) (hF : f_X2_addHeed x0 x1 x2 x3 σ = some σ') : bAJ X 0 [(0, .ref x0), (1, .int x1), (2, .int x2), (3, .int x3)] [] σ := by
  rw [f_X2_addHeed] at hF
  refine b_aload_n (pc := 0) C dX2_addHeed_0 rfl 0 rfl ?_
  refine b_getI (pc := 1) C dX2_addHeed_1 fl_X2_41 (Hh.1 _ _ (shF hx0)) rfl ?_
  refine b_bipush (pc := 4) C dX2_addHeed_4 bp_9 ?_
  refine b_icmp_lt (tgt := 10) (pc := 6) C dX2_addHeed_6 rfl (fun hc1 => ?_) (fun hc1 => ?_)
  · rw [if_pos hc1] at hF
    refine b_aload_n (pc := 10) C dX2_addHeed_10 rfl 0 rfl ?_
    refine b_getS (pc := 11) C dX2_addHeed_11 fl_X2_25 (Hh.1 _ _ (shF hx0)) rfl ?_
    refine b_aload_n (pc := 14) C dX2_addHeed_14 rfl 0 rfl ?_
    refine b_getI (pc := 15) C dX2_addHeed_15 fl_X2_41 (Hh.1 _ _ (shF hx0)) rfl ?_
    refine b_iload_n (pc := 18) C dX2_addHeed_18 rfl 1 rfl ?_
    obtain ⟨hb4, hF⟩ := bif_n hF
    obtain ⟨σ2, e3, hF⟩ := blet_e hF
    refine b_iast (pc := 19) C dX2_addHeed_19 (Hh.1 _ _ (sa_2_4 hx0)) hb4 e3 ?_
    refine b_aload_n (pc := 20) C dX2_addHeed_20 rfl 0 rfl ?_
    refine b_getS (pc := 21) C dX2_addHeed_21 fl_X2_28 (Hh.1 _ _ (shF hx0)) rfl ?_
    refine b_aload_n (pc := 24) C dX2_addHeed_24 rfl 0 rfl ?_
    refine b_getI (pc := 25) C dX2_addHeed_25 fl_X2_41 (Hh.1 _ _ (shF hx0)) rfl ?_
    refine b_iload_n (pc := 28) C dX2_addHeed_28 rfl 2 rfl ?_
    obtain ⟨hb7, hF⟩ := bif_n hF
    obtain ⟨σ5, e6, hF⟩ := blet_e hF
    refine b_iast (pc := 29) C dX2_addHeed_29 (Hh.1 _ _ (sa_2_5 hx0)) hb7 e6 ?_
    refine b_aload_n (pc := 30) C dX2_addHeed_30 rfl 0 rfl ?_
    refine b_getS (pc := 31) C dX2_addHeed_31 fl_X2_31 (Hh.1 _ _ (shF hx0)) rfl ?_
    refine b_aload_n (pc := 34) C dX2_addHeed_34 rfl 0 rfl ?_
    refine b_getI (pc := 35) C dX2_addHeed_35 fl_X2_41 (Hh.1 _ _ (shF hx0)) rfl ?_
    refine b_iload_n (pc := 38) C dX2_addHeed_38 rfl 3 rfl ?_
    obtain ⟨hb10, hF⟩ := bif_n hF
    obtain ⟨σ8, e9, hF⟩ := blet_e hF
    refine b_iast (pc := 39) C dX2_addHeed_39 (Hh.1 _ _ (sa_2_6 hx0)) hb10 e9 ?_
    refine b_aload_n (pc := 40) C dX2_addHeed_40 rfl 0 rfl ?_
    refine b_dup (pc := 41) C dX2_addHeed_41 rfl ?_
    refine b_getI (pc := 42) C dX2_addHeed_42 fl_X2_41 (Hh.1 _ _ (shF hx0)) rfl ?_
    refine b_iconst (pc := 45) C dX2_addHeed_45 ic_1 ?_
    refine b_iadd (pc := 46) C dX2_addHeed_46 ?_
    obtain ⟨σ11, e12, hF⟩ := blet_e hF
    refine b_putI (pc := 47) C dX2_addHeed_47 fp_X2_41 (Hh.1 _ _ (shF hx0)) rfl rfl rfl e12 ?_
    exact b_vret (pc := 50) C Rt dX2_addHeed_50 hF
  · rw [if_neg hc1] at hF
    exact b_vret (pc := 9) C Rt dX2_addHeed_9 hF
set_option maxHeartbeats 4000000 in
set_option maxRecDepth 20000 in
theorem e_X2_addHeed {l : Launch} {G : bG} {ρ : Nat → Nat} {A : Nat → Prop} (d : Nat) (x0 : Nat) (hx0 : kF x0) (x1 : Int32) (x2 : Int32) (x3 : Int32) (σ : bSto) (σ' : bSto) (hF : f_X2_addHeed x0 x1 x2 x3 σ = some σ') : bEv l G bSHf ρ A yX2_addHeed cX2_addHeed 4 none (d + 0) [.ref x0, .int x1, .int x2, .int x3] σ none σ' := b_met (d := d + 0) (by decide +kernel) (Nat.le_of_ble_eq_true rfl) rfl (fun X C Rt h1 h2 h3 => e_X2_addHeed_0 C ⟨fun o q h => by rw [h1]; exact h, fun i h => by rw [h2]; exact h, h3⟩ Rt _ hx0 _ _ _ _ hF)
/-! BenchColony$Now.copyFrom -/
def f_X4_copyFrom (x0 : Nat) (x1 : Nat) (σ : bSto) : Option bSto := blet (bA σ (x0 + 1) (va_cpy (σ.1 (x1 + 1)) (σ.1 (x0 + 1)) (0 : Int32).toNatClampNeg (0 : Int32).toNatClampNeg (7 : Int32).toNatClampNeg)) (fun σ2 => blet (bA σ2 (x0 + 2) (va_cpy (σ2.1 (x1 + 2)) (σ2.1 (x0 + 2)) (0 : Int32).toNatClampNeg (0 : Int32).toNatClampNeg (7 : Int32).toNatClampNeg)) (fun σ5 => blet (bI σ5 x0 2 (σ5.1 x1 2)) (fun σ7 => blet (bI σ7 x0 3 (σ7.1 x1 3)) (fun σ9 => some σ9))))
set_option maxHeartbeats 4000000 in
set_option maxRecDepth 20000 in
theorem e_X4_copyFrom_0 {X : bX} {l : Launch} {G : bG} {ρ : Nat → Nat} {A : Nat → Prop} {d : Nat} {σ' : bSto} (C : bCX X cX4_copyFrom RX4 (d + 0)) (Hh : bH X l G bSHf ρ A 2) (Rt : bRX X none none σ') (x0 : Nat) (hx0 : kN x0) (x1 : Nat) (hx1 : kN x1) (σ : bSto) (hF : f_X4_copyFrom x0 x1 σ = some σ') : bAJ X 0 [(0, .ref x0), (1, .ref x1)] [] σ := by
  rw [f_X4_copyFrom] at hF
  refine b_aload_n (pc := 0) C dX4_copyFrom_0 rfl 1 rfl ?_
  refine b_getS (pc := 1) C dX4_copyFrom_1 fl_X4_9 (Hh.1 _ _ (shN hx1)) rfl ?_
  refine b_iconst (pc := 4) C dX4_copyFrom_4 ic_0 ?_
  refine b_aload_n (pc := 5) C dX4_copyFrom_5 rfl 0 rfl ?_
  refine b_getS (pc := 6) C dX4_copyFrom_6 fl_X4_9 (Hh.1 _ _ (shN hx0)) rfl ?_
  refine b_iconst (pc := 9) C dX4_copyFrom_9 ic_0 ?_
  refine b_bipush (pc := 10) C dX4_copyFrom_10 bp_7 ?_
  obtain ⟨σ2, e3, hF⟩ := blet_e hF
  refine b_copy (pc := 12) C dX4_copyFrom_12 ww_X4_31 wArr (Hh.1 _ _ (sa_4_0 hx1)) (Hh.1 _ _ (sa_4_0 hx0)) (Nat.le_of_ble_eq_true rfl) (by decide) e3 ?_
  refine b_aload_n (pc := 15) C dX4_copyFrom_15 rfl 1 rfl ?_
  refine b_getS (pc := 16) C dX4_copyFrom_16 fl_X4_15 (Hh.1 _ _ (shN hx1)) rfl ?_
  refine b_iconst (pc := 19) C dX4_copyFrom_19 ic_0 ?_
  refine b_aload_n (pc := 20) C dX4_copyFrom_20 rfl 0 rfl ?_
  refine b_getS (pc := 21) C dX4_copyFrom_21 fl_X4_15 (Hh.1 _ _ (shN hx0)) rfl ?_
  refine b_iconst (pc := 24) C dX4_copyFrom_24 ic_0 ?_
  refine b_bipush (pc := 25) C dX4_copyFrom_25 bp_7 ?_
  obtain ⟨σ5, e6, hF⟩ := blet_e hF
  refine b_copy (pc := 27) C dX4_copyFrom_27 ww_X4_31 wArr (Hh.1 _ _ (sa_4_1 hx1)) (Hh.1 _ _ (sa_4_1 hx0)) (Nat.le_of_ble_eq_true rfl) (by decide) e6 ?_
  refine b_aload_n (pc := 30) C dX4_copyFrom_30 rfl 0 rfl ?_
  refine b_aload_n (pc := 31) C dX4_copyFrom_31 rfl 1 rfl ?_
  refine b_getI (pc := 32) C dX4_copyFrom_32 fl_X4_24 (Hh.1 _ _ (shN hx1)) rfl ?_
  obtain ⟨σ7, e8, hF⟩ := blet_e hF
  refine b_putI (pc := 35) C dX4_copyFrom_35 fp_X4_24 (Hh.1 _ _ (shN hx0)) rfl rfl rfl e8 ?_
  refine b_aload_n (pc := 38) C dX4_copyFrom_38 rfl 0 rfl ?_
  refine b_aload_n (pc := 39) C dX4_copyFrom_39 rfl 1 rfl ?_
  refine b_getI (pc := 40) C dX4_copyFrom_40 fl_X4_28 (Hh.1 _ _ (shN hx1)) rfl ?_
  obtain ⟨σ9, e10, hF⟩ := blet_e hF
  refine b_putI (pc := 43) C dX4_copyFrom_43 fp_X4_28 (Hh.1 _ _ (shN hx0)) rfl rfl rfl e10 ?_
  exact b_vret (pc := 46) C Rt dX4_copyFrom_46 hF
set_option maxHeartbeats 4000000 in
set_option maxRecDepth 20000 in
theorem e_X4_copyFrom {l : Launch} {G : bG} {ρ : Nat → Nat} {A : Nat → Prop} (d : Nat) (x0 : Nat) (hx0 : kN x0) (x1 : Nat) (hx1 : kN x1) (σ : bSto) (σ' : bSto) (hF : f_X4_copyFrom x0 x1 σ = some σ') : bEv l G bSHf ρ A yX4_copyFrom cX4_copyFrom 2 none (d + 0) [.ref x0, .ref x1] σ none σ' := b_met (d := d + 0) (by decide +kernel) (Nat.le_of_ble_eq_true rfl) rfl (fun X C Rt h1 h2 h3 => e_X4_copyFrom_0 C ⟨fun o q h => by rw [h1]; exact h, fun i h => by rw [h2]; exact h, h3⟩ Rt _ hx0 _ hx1 _ hF)
/-! BenchColony$Hall.has -/
def f_X3_has_J16  (σ : bSto) : Option (Int32 × bSto) := some ((0 : Int32), σ)
def f_X3_has (x0 : Nat) (x1 : Int32) (σ : bSto) : Option (Int32 × bSto) := (if x1 < 0 then f_X3_has_J16  σ else (if (σ.1 x0 5) ≤ x1 then f_X3_has_J16  σ else some ((1 : Int32), σ)))
set_option maxHeartbeats 4000000 in
set_option maxRecDepth 20000 in
theorem e_X3_has_J16 {X : bX} {l : Launch} {G : bG} {ρ : Nat → Nat} {A : Nat → Prop} {d : Nat} {r : Int32} {σ' : bSto} (C : bCX X cX3_has RX3 (d + 0)) (Hh : bH X l G bSHf ρ A 2) (Rt : bRX X (some .boolean) (some (.int r)) σ')  (σ : bSto) (hF : f_X3_has_J16  σ = some (r, σ')) : bAJ X 16 [] [] σ := by
  rw [f_X3_has_J16] at hF
  refine b_iconst (pc := 16) C dX3_has_16 ic_0 ?_
  exact b_zret (pc := 17) C Rt dX3_has_17 rfl hF
set_option maxHeartbeats 4000000 in
set_option maxRecDepth 20000 in
theorem e_X3_has_0 {X : bX} {l : Launch} {G : bG} {ρ : Nat → Nat} {A : Nat → Prop} {d : Nat} {r : Int32} {σ' : bSto} (C : bCX X cX3_has RX3 (d + 0)) (Hh : bH X l G bSHf ρ A 2) (Rt : bRX X (some .boolean) (some (.int r)) σ') (x0 : Nat) (hx0 : kH x0) (x1 : Int32) (σ : bSto) (hF : f_X3_has x0 x1 σ = some (r, σ')) : bAJ X 0 [(0, .ref x0), (1, .int x1)] [] σ := by
  rw [f_X3_has] at hF
  refine b_iload_n (pc := 0) C dX3_has_0 rfl 1 rfl ?_
  refine b_if_lt (tgt := 16) (pc := 1) C dX3_has_1 rfl (fun hc1 => ?_) (fun hc1 => ?_)
  · rw [if_pos hc1] at hF
    exact b_sub [] rfl (e_X3_has_J16 C Hh Rt  _ hF)
  · rw [if_neg hc1] at hF
    refine b_iload_n (pc := 4) C dX3_has_4 rfl 1 rfl ?_
    refine b_aload_n (pc := 5) C dX3_has_5 rfl 0 rfl ?_
    refine b_getI (pc := 6) C dX3_has_6 fl_X3_27 (Hh.1 _ _ (shH hx0)) rfl ?_
    refine b_icmp_ge (tgt := 16) (pc := 9) C dX3_has_9 rfl (fun hc2 => ?_) (fun hc2 => ?_)
    · rw [if_pos hc2] at hF
      exact b_sub [] rfl (e_X3_has_J16 C Hh Rt  _ hF)
    · rw [if_neg hc2] at hF
      refine b_iconst (pc := 12) C dX3_has_12 ic_1 ?_
      refine b_goto (tgt := 17) (pc := 13) C dX3_has_13 rfl ?_
      exact b_zret (pc := 17) C Rt dX3_has_17 rfl hF
set_option maxHeartbeats 4000000 in
set_option maxRecDepth 20000 in
theorem e_X3_has {l : Launch} {G : bG} {ρ : Nat → Nat} {A : Nat → Prop} (d : Nat) (x0 : Nat) (hx0 : kH x0) (x1 : Int32) (σ : bSto) (r : Int32) (σ' : bSto) (hF : f_X3_has x0 x1 σ = some (r, σ')) : bEv l G bSHf ρ A yX3_has cX3_has 2 (some .boolean) (d + 0) [.ref x0, .int x1] σ (some (.int r)) σ' := b_met (d := d + 0) (by decide +kernel) (Nat.le_of_ble_eq_true rfl) rfl (fun X C Rt h1 h2 h3 => e_X3_has_0 C ⟨fun o q h => by rw [h1]; exact h, fun i h => by rw [h2]; exact h, h3⟩ Rt _ hx0 _ _ hF)
/-! BenchColony$Hall.heatAlone -/
def f_X3_heatAlone (x0 : Nat) (x1 : Int32) (x2 : Int32) (σ : bSto) : Option (Int32 × bSto) := if x1 < 0 ∨ 6 ≤ x1.toNatClampNeg then none else bbd (f_J9_abs_0f7a4 ((σ.1 (x0 + 2) x1.toNatClampNeg) - (σ.1 x0 8)) σ) (fun v4 σ3 => if x1 < 0 ∨ 6 ≤ x1.toNatClampNeg then none else bbd (f_J9_abs_0f7a4 ((σ3.1 (x0 + 3) x1.toNatClampNeg) - (σ3.1 x0 9)) σ3) (fun v8 σ7 => blet (v4 + v8) (fun x3_9 => bbd (f_J9_max_7cf53 (0 : Int32) (x2 - ((4 : Int32) * x3_9)) σ7) (fun v13 σ12 => some (v13, σ12)))))
set_option maxHeartbeats 4000000 in
set_option maxRecDepth 20000 in
theorem e_X3_heatAlone_0 {X : bX} {l : Launch} {G : bG} {ρ : Nat → Nat} {A : Nat → Prop} {d : Nat} {r : Int32} {σ' : bSto} (C : bCX X cX3_heatAlone RX3 (d + 1)) (Hh : bH X l G bSHf ρ A 4) (Rt : bRX X (some .int) (some (.int r)) σ') (x0 : Nat) (hx0 : kH x0) (x1 : Int32) (x2 : Int32) (σ : bSto) (hF : f_X3_heatAlone x0 x1 x2 σ = some (r, σ')) : bAJ X 0 [(0, .ref x0), (1, .int x1), (2, .int x2)] [] σ := by
  rw [f_X3_heatAlone] at hF
  refine b_aload_n (pc := 0) C dX3_heatAlone_0 rfl 0 rfl ?_
  refine b_getS (pc := 1) C dX3_heatAlone_1 fl_X3_15 (Hh.1 _ _ (shH hx0)) rfl ?_
  refine b_iload_n (pc := 4) C dX3_heatAlone_4 rfl 1 rfl ?_
  obtain ⟨hb1, hF⟩ := bif_n hF
  refine b_iald (pc := 5) C dX3_heatAlone_5 (Hh.1 _ _ (sa_3_1 hx0)) hb1 ?_
  refine b_aload_n (pc := 6) C dX3_heatAlone_6 rfl 0 rfl ?_
  refine b_getI (pc := 7) C dX3_heatAlone_7 fl_X3_40 (Hh.1 _ _ (shH hx0)) rfl ?_
  refine b_isub (pc := 10) C dX3_heatAlone_10 ?_
  obtain ⟨v4, σ3, hc2, hF⟩ := bbd_e hF
  refine b_cS1i (d' := (d + 0)) (pc := 11) C dX3_heatAlone_11 mm_X3_46 (Nat.le_of_ble_eq_true rfl) (by omega) (Hh.2.2 _ _ _ _ _ _ _ _ _ (lvl_eq (by omega) (e_J9_abs_0f7a4 (d + 0) ((σ.1 (x0 + 2) x1.toNatClampNeg) - (σ.1 x0 8)) _ _ _ hc2))) ?_
  refine b_aload_n (pc := 14) C dX3_heatAlone_14 rfl 0 rfl ?_
  refine b_getS (pc := 15) C dX3_heatAlone_15 fl_X3_18 (Hh.1 _ _ (shH hx0)) rfl ?_
  refine b_iload_n (pc := 18) C dX3_heatAlone_18 rfl 1 rfl ?_
  obtain ⟨hb5, hF⟩ := bif_n hF
  refine b_iald (pc := 19) C dX3_heatAlone_19 (Hh.1 _ _ (sa_3_2 hx0)) hb5 ?_
  refine b_aload_n (pc := 20) C dX3_heatAlone_20 rfl 0 rfl ?_
  refine b_getI (pc := 21) C dX3_heatAlone_21 fl_X3_43 (Hh.1 _ _ (shH hx0)) rfl ?_
  refine b_isub (pc := 24) C dX3_heatAlone_24 ?_
  obtain ⟨v8, σ7, hc6, hF⟩ := bbd_e hF
  refine b_cS1i (d' := (d + 0)) (pc := 25) C dX3_heatAlone_25 mm_X3_46 (Nat.le_of_ble_eq_true rfl) (by omega) (Hh.2.2 _ _ _ _ _ _ _ _ _ (lvl_eq (by omega) (e_J9_abs_0f7a4 (d + 0) ((σ3.1 (x0 + 3) x1.toNatClampNeg) - (σ3.1 x0 9)) _ _ _ hc6))) ?_
  refine b_iadd (pc := 28) C dX3_heatAlone_28 ?_
  obtain ⟨x3_9, e10, hF⟩ := blet_e hF
  refine b_istore_n (L' := [(3, .int x3_9), (0, .ref x0), (1, .int x1), (2, .int x2)]) (pc := 29) C dX3_heatAlone_29 rfl e10 (Hh.2.1 _ (Nat.le_of_ble_eq_true rfl)) rfl ?_
  refine b_iconst (pc := 30) C dX3_heatAlone_30 ic_0 ?_
  refine b_iload_n (pc := 31) C dX3_heatAlone_31 rfl 3 rfl ?_
  refine b_iconst (pc := 32) C dX3_heatAlone_32 ic_4 ?_
  refine b_iload_n (pc := 33) C dX3_heatAlone_33 rfl 0 rfl ?_
  refine b_imul (pc := 34) C dX3_heatAlone_34 ?_
  refine b_isub (pc := 35) C dX3_heatAlone_35 ?_
  obtain ⟨v13, σ12, hc11, hF⟩ := bbd_e hF
  refine b_cS2i (d' := (d + 0)) (pc := 36) C dX3_heatAlone_36 mm_X3_52 (Nat.le_of_ble_eq_true rfl) (by omega) (Hh.2.2 _ _ _ _ _ _ _ _ _ (lvl_eq (by omega) (e_J9_max_7cf53 (d + 0) (0 : Int32) (x2 - ((4 : Int32) * x3_9)) _ _ _ hc11))) ?_
  exact b_iret (pc := 39) C Rt dX3_heatAlone_39 hF
set_option maxHeartbeats 4000000 in
set_option maxRecDepth 20000 in
theorem e_X3_heatAlone {l : Launch} {G : bG} {ρ : Nat → Nat} {A : Nat → Prop} (d : Nat) (x0 : Nat) (hx0 : kH x0) (x1 : Int32) (x2 : Int32) (σ : bSto) (r : Int32) (σ' : bSto) (hF : f_X3_heatAlone x0 x1 x2 σ = some (r, σ')) : bEv l G bSHf ρ A yX3_heatAlone cX3_heatAlone 4 (some .int) (d + 1) [.ref x0, .int x1, .int x2] σ (some (.int r)) σ' := b_met (d := d + 1) (by decide +kernel) (Nat.le_of_ble_eq_true rfl) rfl (fun X C Rt h1 h2 h3 => e_X3_heatAlone_0 C ⟨fun o q h => by rw [h1]; exact h, fun i h => by rw [h2]; exact h, h3⟩ Rt _ hx0 _ _ _ hF)
/-! BenchColony$Folk.has -/
def f_X2_has_J16  (σ : bSto) : Option (Int32 × bSto) := some ((0 : Int32), σ)
def f_X2_has (x0 : Nat) (x1 : Int32) (σ : bSto) : Option (Int32 × bSto) := (if x1 < 0 then f_X2_has_J16  σ else (if (σ.1 x0 7) ≤ x1 then f_X2_has_J16  σ else some ((1 : Int32), σ)))
set_option maxHeartbeats 4000000 in
set_option maxRecDepth 20000 in
theorem e_X2_has_J16 {X : bX} {l : Launch} {G : bG} {ρ : Nat → Nat} {A : Nat → Prop} {d : Nat} {r : Int32} {σ' : bSto} (C : bCX X cX2_has RX2 (d + 0)) (Hh : bH X l G bSHf ρ A 2) (Rt : bRX X (some .boolean) (some (.int r)) σ')  (σ : bSto) (hF : f_X2_has_J16  σ = some (r, σ')) : bAJ X 16 [] [] σ := by
  rw [f_X2_has_J16] at hF
  refine b_iconst (pc := 16) C dX2_has_16 ic_0 ?_
  exact b_zret (pc := 17) C Rt dX2_has_17 rfl hF
set_option maxHeartbeats 4000000 in
set_option maxRecDepth 20000 in
theorem e_X2_has_0 {X : bX} {l : Launch} {G : bG} {ρ : Nat → Nat} {A : Nat → Prop} {d : Nat} {r : Int32} {σ' : bSto} (C : bCX X cX2_has RX2 (d + 0)) (Hh : bH X l G bSHf ρ A 2) (Rt : bRX X (some .boolean) (some (.int r)) σ') (x0 : Nat) (hx0 : kF x0) (x1 : Int32) (σ : bSto) (hF : f_X2_has x0 x1 σ = some (r, σ')) : bAJ X 0 [(0, .ref x0), (1, .int x1)] [] σ := by
  rw [f_X2_has] at hF
  refine b_iload_n (pc := 0) C dX2_has_0 rfl 1 rfl ?_
  refine b_if_lt (tgt := 16) (pc := 1) C dX2_has_1 rfl (fun hc1 => ?_) (fun hc1 => ?_)
  · rw [if_pos hc1] at hF
    exact b_sub [] rfl (e_X2_has_J16 C Hh Rt  _ hF)
  · rw [if_neg hc1] at hF
    refine b_iload_n (pc := 4) C dX2_has_4 rfl 1 rfl ?_
    refine b_aload_n (pc := 5) C dX2_has_5 rfl 0 rfl ?_
    refine b_getI (pc := 6) C dX2_has_6 fl_X2_34 (Hh.1 _ _ (shF hx0)) rfl ?_
    refine b_icmp_ge (tgt := 16) (pc := 9) C dX2_has_9 rfl (fun hc2 => ?_) (fun hc2 => ?_)
    · rw [if_pos hc2] at hF
      exact b_sub [] rfl (e_X2_has_J16 C Hh Rt  _ hF)
    · rw [if_neg hc2] at hF
      refine b_iconst (pc := 12) C dX2_has_12 ic_1 ?_
      refine b_goto (tgt := 17) (pc := 13) C dX2_has_13 rfl ?_
      exact b_zret (pc := 17) C Rt dX2_has_17 rfl hF
set_option maxHeartbeats 4000000 in
set_option maxRecDepth 20000 in
theorem e_X2_has {l : Launch} {G : bG} {ρ : Nat → Nat} {A : Nat → Prop} (d : Nat) (x0 : Nat) (hx0 : kF x0) (x1 : Int32) (σ : bSto) (r : Int32) (σ' : bSto) (hF : f_X2_has x0 x1 σ = some (r, σ')) : bEv l G bSHf ρ A yX2_has cX2_has 2 (some .boolean) (d + 0) [.ref x0, .int x1] σ (some (.int r)) σ' := b_met (d := d + 0) (by decide +kernel) (Nat.le_of_ble_eq_true rfl) rfl (fun X C Rt h1 h2 h3 => e_X2_has_0 C ⟨fun o q h => by rw [h1]; exact h, fun i h => by rw [h2]; exact h, h3⟩ Rt _ hx0 _ _ hF)
/-! BenchColony$Folk.sameTown -/
def f_X2_sameTown_L4 : Nat → Nat → Int32 → Int32 → Int32 → bSto → Option (Int32 × bSto)
  | 0, _, _, _, _, _ => none
  | n + 1, x0, x1, x2, x3, σ => (if (σ.1 x0 7) ≤ x3 then some (x2, σ) else (if x3 = x1 then blet (x3 + (1 : Int32)) (fun x3_3 => f_X2_sameTown_L4 n x0 x1 x2 x3_3 σ) else if x3 < 0 ∨ 7 ≤ x3.toNatClampNeg then none else if x1 < 0 ∨ 7 ≤ x1.toNatClampNeg then none else (if (lg_cmp (σ.2.1 (x0 + 2) x3.toNatClampNeg) (σ.2.1 (x0 + 2) x1.toNatClampNeg)) = 0 then blet (x2 ||| ((1 : Int32) <<< (x3 &&& 31))) (fun x2_10 => blet (x3 + (1 : Int32)) (fun x3_12 => f_X2_sameTown_L4 n x0 x1 x2_10 x3_12 σ)) else blet (x3 + (1 : Int32)) (fun x3_8 => f_X2_sameTown_L4 n x0 x1 x2 x3_8 σ))))
def f_X2_sameTown (x0 : Nat) (x1 : Int32) (σ : bSto) : Option (Int32 × bSto) := bl1 (f_X2_sameTown_L4 bFU x0 x1 (0 : Int32) (0 : Int32) σ) (fun x2_1 σ2 => some (x2_1, σ2))
set_option maxHeartbeats 4000000 in
set_option maxRecDepth 20000 in
theorem e_X2_sameTown_L4 {X : bX} {l : Launch} {G : bG} {ρ : Nat → Nat} {A : Nat → Prop} {d : Nat} {r : Int32} {σ' : bSto} (C : bCX X cX2_sameTown RX2 (d + 0)) (Hh : bH X l G bSHf ρ A 4) (Rt : bRX X (some .int) (some (.int r)) σ') : ∀ (n : Nat) (x0 : Nat) (hx0 : kF x0) (x1 : Int32) (x2 : Int32) (x3 : Int32) (σ : bSto) (q : (Int32 × bSto)), f_X2_sameTown_L4 n x0 x1 x2 x3 σ = some q → (∀ (x2 : Int32) (s : bSto), q = (x2, s) → bAJ X 45 [(2, .int x2)] [] s) → bAJ X 4 [(0, .ref x0), (1, .int x1), (2, .int x2), (3, .int x3)] [] σ := by
  intro n
  induction n with
  | zero => intro x0 hx0 x1 x2 x3 σ q hF; rw [f_X2_sameTown_L4] at hF; cases hF
  | succ n ih =>
    intro x0 hx0 x1 x2 x3 σ q hF hx
    rw [f_X2_sameTown_L4] at hF
    refine b_iload_n (pc := 4) C dX2_sameTown_4 rfl 3 rfl ?_
    refine b_aload_n (pc := 5) C dX2_sameTown_5 rfl 0 rfl ?_
    refine b_getI (pc := 6) C dX2_sameTown_6 fl_X2_34 (Hh.1 _ _ (shF hx0)) rfl ?_
    refine b_icmp_ge (tgt := 45) (pc := 9) C dX2_sameTown_9 rfl (fun hc1 => ?_) (fun hc1 => ?_)
    · rw [if_pos hc1] at hF
      exact b_sub [2] rfl (hx _ _ (Option.some.inj hF).symm )
    · rw [if_neg hc1] at hF
      refine b_iload_n (pc := 12) C dX2_sameTown_12 rfl 3 rfl ?_
      refine b_iload_n (pc := 13) C dX2_sameTown_13 rfl 1 rfl ?_
      refine b_icmp_eq (tgt := 39) (pc := 14) C dX2_sameTown_14 rfl (fun hc2 => ?_) (fun hc2 => ?_)
      · rw [if_pos hc2] at hF
        obtain ⟨x3_3, e4, hF⟩ := blet_e hF
        refine b_iinc (L' := [(3, .int x3_3), (0, .ref x0), (1, .int x1), (2, .int x2)]) (pc := 39) C dX2_sameTown_39 3 rfl ic_1 e4 (Hh.2.1 _ (Nat.le_of_ble_eq_true rfl)) rfl ?_
        refine b_goto (tgt := 4) (pc := 42) C dX2_sameTown_42 rfl ?_
        exact b_sub [1, 2, 3, 0] rfl (ih _ hx0 x1 x2 x3_3 _ _ hF hx)
      · rw [if_neg hc2] at hF
        refine b_aload_n (pc := 17) C dX2_sameTown_17 rfl 0 rfl ?_
        refine b_getS (pc := 18) C dX2_sameTown_18 fl_X2_15 (Hh.1 _ _ (shF hx0)) rfl ?_
        refine b_iload_n (pc := 21) C dX2_sameTown_21 rfl 3 rfl ?_
        obtain ⟨hb5, hF⟩ := bif_n hF
        refine b_lald (pc := 22) C dX2_sameTown_22 (Hh.1 _ _ (sa_2_1 hx0)) hb5 ?_
        refine b_aload_n (pc := 23) C dX2_sameTown_23 rfl 0 rfl ?_
        refine b_getS (pc := 24) C dX2_sameTown_24 fl_X2_15 (Hh.1 _ _ (shF hx0)) rfl ?_
        refine b_iload_n (pc := 27) C dX2_sameTown_27 rfl 1 rfl ?_
        obtain ⟨hb6, hF⟩ := bif_n hF
        refine b_lald (pc := 28) C dX2_sameTown_28 (Hh.1 _ _ (sa_2_1 hx0)) hb6 ?_
        refine b_lcmp (pc := 29) C dX2_sameTown_29 ?_
        refine b_if_ne (tgt := 39) (pc := 30) C dX2_sameTown_30 rfl (fun hc7 => ?_) (fun hc7 => ?_)
        · rw [if_neg hc7] at hF
          obtain ⟨x3_8, e9, hF⟩ := blet_e hF
          refine b_iinc (L' := [(3, .int x3_8), (0, .ref x0), (1, .int x1), (2, .int x2)]) (pc := 39) C dX2_sameTown_39 3 rfl ic_1 e9 (Hh.2.1 _ (Nat.le_of_ble_eq_true rfl)) rfl ?_
          refine b_goto (tgt := 4) (pc := 42) C dX2_sameTown_42 rfl ?_
          exact b_sub [1, 2, 3, 0] rfl (ih _ hx0 x1 x2 x3_8 _ _ hF hx)
        · rw [if_pos hc7] at hF
          refine b_iload_n (pc := 33) C dX2_sameTown_33 rfl 2 rfl ?_
          refine b_iconst (pc := 34) C dX2_sameTown_34 ic_1 ?_
          refine b_iload_n (pc := 35) C dX2_sameTown_35 rfl 3 rfl ?_
          refine b_ishl (pc := 36) C dX2_sameTown_36 ?_
          refine b_ior (pc := 37) C dX2_sameTown_37 ?_
          obtain ⟨x2_10, e11, hF⟩ := blet_e hF
          refine b_istore_n (L' := [(2, .int x2_10), (0, .ref x0), (1, .int x1), (3, .int x3)]) (pc := 38) C dX2_sameTown_38 rfl e11 (Hh.2.1 _ (Nat.le_of_ble_eq_true rfl)) rfl ?_
          obtain ⟨x3_12, e13, hF⟩ := blet_e hF
          refine b_iinc (L' := [(3, .int x3_12), (2, .int x2_10), (0, .ref x0), (1, .int x1)]) (pc := 39) C dX2_sameTown_39 3 rfl ic_1 e13 (Hh.2.1 _ (Nat.le_of_ble_eq_true rfl)) rfl ?_
          refine b_goto (tgt := 4) (pc := 42) C dX2_sameTown_42 rfl ?_
          exact b_sub [2, 3, 1, 0] rfl (ih _ hx0 x1 x2_10 x3_12 _ _ hF hx)
set_option maxHeartbeats 4000000 in
set_option maxRecDepth 20000 in
theorem e_X2_sameTown_0 {X : bX} {l : Launch} {G : bG} {ρ : Nat → Nat} {A : Nat → Prop} {d : Nat} {r : Int32} {σ' : bSto} (C : bCX X cX2_sameTown RX2 (d + 0)) (Hh : bH X l G bSHf ρ A 4) (Rt : bRX X (some .int) (some (.int r)) σ') (x0 : Nat) (hx0 : kF x0) (x1 : Int32) (σ : bSto) (hF : f_X2_sameTown x0 x1 σ = some (r, σ')) : bAJ X 0 [(0, .ref x0), (1, .int x1)] [] σ := by
  rw [f_X2_sameTown] at hF
  refine b_iconst (pc := 0) C dX2_sameTown_0 ic_0 ?_
  refine b_istore_n (L' := [(2, .int (0 : Int32)), (0, .ref x0), (1, .int x1)]) (pc := 1) C dX2_sameTown_1 rfl rfl (Hh.2.1 _ (Nat.le_of_ble_eq_true rfl)) rfl ?_
  refine b_iconst (pc := 2) C dX2_sameTown_2 ic_0 ?_
  refine b_istore_n (L' := [(3, .int (0 : Int32)), (2, .int (0 : Int32)), (0, .ref x0), (1, .int x1)]) (pc := 3) C dX2_sameTown_3 rfl rfl (Hh.2.1 _ (Nat.le_of_ble_eq_true rfl)) rfl ?_
  obtain ⟨x2_1, σ2, hq1, hF⟩ := bl1_e hF
  refine b_sub [2, 3, 1, 0] rfl (e_X2_sameTown_L4 C Hh Rt bFU _ hx0 x1 (0 : Int32) (0 : Int32) _ _ hq1 (fun _ _ e  => ?_))
  cases e
  refine b_iload_n (pc := 45) C dX2_sameTown_45 rfl 0 rfl ?_
  exact b_iret (pc := 46) C Rt dX2_sameTown_46 hF
set_option maxHeartbeats 4000000 in
set_option maxRecDepth 20000 in
theorem e_X2_sameTown {l : Launch} {G : bG} {ρ : Nat → Nat} {A : Nat → Prop} (d : Nat) (x0 : Nat) (hx0 : kF x0) (x1 : Int32) (σ : bSto) (r : Int32) (σ' : bSto) (hF : f_X2_sameTown x0 x1 σ = some (r, σ')) : bEv l G bSHf ρ A yX2_sameTown cX2_sameTown 4 (some .int) (d + 0) [.ref x0, .int x1] σ (some (.int r)) σ' := b_met (d := d + 0) (by decide +kernel) (Nat.le_of_ble_eq_true rfl) rfl (fun X C Rt h1 h2 h3 => e_X2_sameTown_0 C ⟨fun o q h => by rw [h1]; exact h, fun i h => by rw [h2]; exact h, h3⟩ Rt _ hx0 _ _ hF)
/-! BenchColony$Folk.ofKind -/
def f_X2_ofKind_L4 : Nat → Nat → Int32 → Int32 → Int32 → bSto → Option (Int32 × bSto)
  | 0, _, _, _, _, _ => none
  | n + 1, x0, x1, x2, x3, σ => (if (σ.1 x0 7) ≤ x3 then some (x2, σ) else if x3 < 0 ∨ 7 ≤ x3.toNatClampNeg then none else (if (σ.1 (x0 + 1) x3.toNatClampNeg) = x1 then blet (x2 ||| ((1 : Int32) <<< (x3 &&& 31))) (fun x2_6 => blet (x3 + (1 : Int32)) (fun x3_8 => f_X2_ofKind_L4 n x0 x1 x2_6 x3_8 σ)) else blet (x3 + (1 : Int32)) (fun x3_4 => f_X2_ofKind_L4 n x0 x1 x2 x3_4 σ)))
def f_X2_ofKind (x0 : Nat) (x1 : Int32) (σ : bSto) : Option (Int32 × bSto) := bl1 (f_X2_ofKind_L4 bFU x0 x1 (0 : Int32) (0 : Int32) σ) (fun x2_1 σ2 => some (x2_1, σ2))
set_option maxHeartbeats 4000000 in
set_option maxRecDepth 20000 in
theorem e_X2_ofKind_L4 {X : bX} {l : Launch} {G : bG} {ρ : Nat → Nat} {A : Nat → Prop} {d : Nat} {r : Int32} {σ' : bSto} (C : bCX X cX2_ofKind RX2 (d + 0)) (Hh : bH X l G bSHf ρ A 4) (Rt : bRX X (some .int) (some (.int r)) σ') : ∀ (n : Nat) (x0 : Nat) (hx0 : kF x0) (x1 : Int32) (x2 : Int32) (x3 : Int32) (σ : bSto) (q : (Int32 × bSto)), f_X2_ofKind_L4 n x0 x1 x2 x3 σ = some q → (∀ (x2 : Int32) (s : bSto), q = (x2, s) → bAJ X 34 [(2, .int x2)] [] s) → bAJ X 4 [(0, .ref x0), (1, .int x1), (2, .int x2), (3, .int x3)] [] σ := by
  intro n
  induction n with
  | zero => intro x0 hx0 x1 x2 x3 σ q hF; rw [f_X2_ofKind_L4] at hF; cases hF
  | succ n ih =>
    intro x0 hx0 x1 x2 x3 σ q hF hx
    rw [f_X2_ofKind_L4] at hF
    refine b_iload_n (pc := 4) C dX2_ofKind_4 rfl 3 rfl ?_
    refine b_aload_n (pc := 5) C dX2_ofKind_5 rfl 0 rfl ?_
    refine b_getI (pc := 6) C dX2_ofKind_6 fl_X2_34 (Hh.1 _ _ (shF hx0)) rfl ?_
    refine b_icmp_ge (tgt := 34) (pc := 9) C dX2_ofKind_9 rfl (fun hc1 => ?_) (fun hc1 => ?_)
    · rw [if_pos hc1] at hF
      exact b_sub [2] rfl (hx _ _ (Option.some.inj hF).symm )
    · rw [if_neg hc1] at hF
      refine b_aload_n (pc := 12) C dX2_ofKind_12 rfl 0 rfl ?_
      refine b_getS (pc := 13) C dX2_ofKind_13 fl_X2_9 (Hh.1 _ _ (shF hx0)) rfl ?_
      refine b_iload_n (pc := 16) C dX2_ofKind_16 rfl 3 rfl ?_
      obtain ⟨hb2, hF⟩ := bif_n hF
      refine b_iald (pc := 17) C dX2_ofKind_17 (Hh.1 _ _ (sa_2_0 hx0)) hb2 ?_
      refine b_iload_n (pc := 18) C dX2_ofKind_18 rfl 1 rfl ?_
      refine b_icmp_ne (tgt := 28) (pc := 19) C dX2_ofKind_19 rfl (fun hc3 => ?_) (fun hc3 => ?_)
      · rw [if_neg hc3] at hF
        obtain ⟨x3_4, e5, hF⟩ := blet_e hF
        refine b_iinc (L' := [(3, .int x3_4), (0, .ref x0), (1, .int x1), (2, .int x2)]) (pc := 28) C dX2_ofKind_28 3 rfl ic_1 e5 (Hh.2.1 _ (Nat.le_of_ble_eq_true rfl)) rfl ?_
        refine b_goto (tgt := 4) (pc := 31) C dX2_ofKind_31 rfl ?_
        exact b_sub [1, 2, 3, 0] rfl (ih _ hx0 x1 x2 x3_4 _ _ hF hx)
      · rw [if_pos hc3] at hF
        refine b_iload_n (pc := 22) C dX2_ofKind_22 rfl 2 rfl ?_
        refine b_iconst (pc := 23) C dX2_ofKind_23 ic_1 ?_
        refine b_iload_n (pc := 24) C dX2_ofKind_24 rfl 3 rfl ?_
        refine b_ishl (pc := 25) C dX2_ofKind_25 ?_
        refine b_ior (pc := 26) C dX2_ofKind_26 ?_
        obtain ⟨x2_6, e7, hF⟩ := blet_e hF
        refine b_istore_n (L' := [(2, .int x2_6), (0, .ref x0), (1, .int x1), (3, .int x3)]) (pc := 27) C dX2_ofKind_27 rfl e7 (Hh.2.1 _ (Nat.le_of_ble_eq_true rfl)) rfl ?_
        obtain ⟨x3_8, e9, hF⟩ := blet_e hF
        refine b_iinc (L' := [(3, .int x3_8), (2, .int x2_6), (0, .ref x0), (1, .int x1)]) (pc := 28) C dX2_ofKind_28 3 rfl ic_1 e9 (Hh.2.1 _ (Nat.le_of_ble_eq_true rfl)) rfl ?_
        refine b_goto (tgt := 4) (pc := 31) C dX2_ofKind_31 rfl ?_
        exact b_sub [2, 3, 1, 0] rfl (ih _ hx0 x1 x2_6 x3_8 _ _ hF hx)
set_option maxHeartbeats 4000000 in
set_option maxRecDepth 20000 in
theorem e_X2_ofKind_0 {X : bX} {l : Launch} {G : bG} {ρ : Nat → Nat} {A : Nat → Prop} {d : Nat} {r : Int32} {σ' : bSto} (C : bCX X cX2_ofKind RX2 (d + 0)) (Hh : bH X l G bSHf ρ A 4) (Rt : bRX X (some .int) (some (.int r)) σ') (x0 : Nat) (hx0 : kF x0) (x1 : Int32) (σ : bSto) (hF : f_X2_ofKind x0 x1 σ = some (r, σ')) : bAJ X 0 [(0, .ref x0), (1, .int x1)] [] σ := by
  rw [f_X2_ofKind] at hF
  refine b_iconst (pc := 0) C dX2_ofKind_0 ic_0 ?_
  refine b_istore_n (L' := [(2, .int (0 : Int32)), (0, .ref x0), (1, .int x1)]) (pc := 1) C dX2_ofKind_1 rfl rfl (Hh.2.1 _ (Nat.le_of_ble_eq_true rfl)) rfl ?_
  refine b_iconst (pc := 2) C dX2_ofKind_2 ic_0 ?_
  refine b_istore_n (L' := [(3, .int (0 : Int32)), (2, .int (0 : Int32)), (0, .ref x0), (1, .int x1)]) (pc := 3) C dX2_ofKind_3 rfl rfl (Hh.2.1 _ (Nat.le_of_ble_eq_true rfl)) rfl ?_
  obtain ⟨x2_1, σ2, hq1, hF⟩ := bl1_e hF
  refine b_sub [2, 3, 1, 0] rfl (e_X2_ofKind_L4 C Hh Rt bFU _ hx0 x1 (0 : Int32) (0 : Int32) _ _ hq1 (fun _ _ e  => ?_))
  cases e
  refine b_iload_n (pc := 34) C dX2_ofKind_34 rfl 0 rfl ?_
  exact b_iret (pc := 35) C Rt dX2_ofKind_35 hF
set_option maxHeartbeats 4000000 in
set_option maxRecDepth 20000 in
theorem e_X2_ofKind {l : Launch} {G : bG} {ρ : Nat → Nat} {A : Nat → Prop} (d : Nat) (x0 : Nat) (hx0 : kF x0) (x1 : Int32) (σ : bSto) (r : Int32) (σ' : bSto) (hF : f_X2_ofKind x0 x1 σ = some (r, σ')) : bEv l G bSHf ρ A yX2_ofKind cX2_ofKind 4 (some .int) (d + 0) [.ref x0, .int x1] σ (some (.int r)) σ' := b_met (d := d + 0) (by decide +kernel) (Nat.le_of_ble_eq_true rfl) rfl (fun X C Rt h1 h2 h3 => e_X2_ofKind_0 C ⟨fun o q h => by rw [h1]; exact h, fun i h => by rw [h2]; exact h, h3⟩ Rt _ hx0 _ _ hF)
/-! BenchColony$Folk.gentlemen -/
def f_X2_gentlemen (x0 : Nat) (σ : bSto) : Option (Int32 × bSto) := bbd (f_X2_ofKind x0 (1 : Int32) σ) (fun v3 σ2 => bbd (f_X2_ofKind x0 (0 : Int32) σ2) (fun v6 σ5 => some ((v3 ||| v6), σ5)))
set_option maxHeartbeats 4000000 in
set_option maxRecDepth 20000 in
theorem e_X2_gentlemen_0 {X : bX} {l : Launch} {G : bG} {ρ : Nat → Nat} {A : Nat → Prop} {d : Nat} {r : Int32} {σ' : bSto} (C : bCX X cX2_gentlemen RX2 (d + 1)) (Hh : bH X l G bSHf ρ A 1) (Rt : bRX X (some .int) (some (.int r)) σ') (x0 : Nat) (hx0 : kF x0) (σ : bSto) (hF : f_X2_gentlemen x0 σ = some (r, σ')) : bAJ X 0 [(0, .ref x0)] [] σ := by
  rw [f_X2_gentlemen] at hF
  refine b_aload_n (pc := 0) C dX2_gentlemen_0 rfl 0 rfl ?_
  refine b_iconst (pc := 1) C dX2_gentlemen_1 ic_1 ?_
  obtain ⟨v3, σ2, hc1, hF⟩ := bbd_e hF
  refine b_cV1i (d' := (d + 0)) (pc := 2) C dX2_gentlemen_2 mm_X2_50 (Hh.1 _ _ (shF hx0)) rfl (Nat.le_of_ble_eq_true rfl) (by omega) (Hh.2.2 _ _ _ _ _ _ _ _ _ (lvl_eq (by omega) (e_X2_ofKind (d + 0) _ hx0 (1 : Int32) _ _ _ hc1))) ?_
  refine b_aload_n (pc := 5) C dX2_gentlemen_5 rfl 0 rfl ?_
  refine b_iconst (pc := 6) C dX2_gentlemen_6 ic_0 ?_
  obtain ⟨v6, σ5, hc4, hF⟩ := bbd_e hF
  refine b_cV1i (d' := (d + 0)) (pc := 7) C dX2_gentlemen_7 mm_X2_50 (Hh.1 _ _ (shF hx0)) rfl (Nat.le_of_ble_eq_true rfl) (by omega) (Hh.2.2 _ _ _ _ _ _ _ _ _ (lvl_eq (by omega) (e_X2_ofKind (d + 0) _ hx0 (0 : Int32) _ _ _ hc4))) ?_
  refine b_ior (pc := 10) C dX2_gentlemen_10 ?_
  exact b_iret (pc := 11) C Rt dX2_gentlemen_11 hF
set_option maxHeartbeats 4000000 in
set_option maxRecDepth 20000 in
theorem e_X2_gentlemen {l : Launch} {G : bG} {ρ : Nat → Nat} {A : Nat → Prop} (d : Nat) (x0 : Nat) (hx0 : kF x0) (σ : bSto) (r : Int32) (σ' : bSto) (hF : f_X2_gentlemen x0 σ = some (r, σ')) : bEv l G bSHf ρ A yX2_gentlemen cX2_gentlemen 1 (some .int) (d + 1) [.ref x0] σ (some (.int r)) σ' := b_met (d := d + 1) (by decide +kernel) (Nat.le_of_ble_eq_true rfl) rfl (fun X C Rt h1 h2 h3 => e_X2_gentlemen_0 C ⟨fun o q h => by rw [h1]; exact h, fun i h => by rw [h2]; exact h, h3⟩ Rt _ hx0 _ hF)
/-! BenchColony$Folk.everybody -/
def f_X2_everybody (x0 : Nat) (σ : bSto) : Option (Int32 × bSto) := some ((((1 : Int32) <<< ((σ.1 x0 7) &&& 31)) - (1 : Int32)), σ)
set_option maxHeartbeats 4000000 in
set_option maxRecDepth 20000 in
theorem e_X2_everybody_0 {X : bX} {l : Launch} {G : bG} {ρ : Nat → Nat} {A : Nat → Prop} {d : Nat} {r : Int32} {σ' : bSto} (C : bCX X cX2_everybody RX2 (d + 0)) (Hh : bH X l G bSHf ρ A 1) (Rt : bRX X (some .int) (some (.int r)) σ') (x0 : Nat) (hx0 : kF x0) (σ : bSto) (hF : f_X2_everybody x0 σ = some (r, σ')) : bAJ X 0 [(0, .ref x0)] [] σ := by
  rw [f_X2_everybody] at hF
  refine b_iconst (pc := 0) C dX2_everybody_0 ic_1 ?_
  refine b_aload_n (pc := 1) C dX2_everybody_1 rfl 0 rfl ?_
  refine b_getI (pc := 2) C dX2_everybody_2 fl_X2_34 (Hh.1 _ _ (shF hx0)) rfl ?_
  refine b_ishl (pc := 5) C dX2_everybody_5 ?_
  refine b_iconst (pc := 6) C dX2_everybody_6 ic_1 ?_
  refine b_isub (pc := 7) C dX2_everybody_7 ?_
  exact b_iret (pc := 8) C Rt dX2_everybody_8 hF
set_option maxHeartbeats 4000000 in
set_option maxRecDepth 20000 in
theorem e_X2_everybody {l : Launch} {G : bG} {ρ : Nat → Nat} {A : Nat → Prop} (d : Nat) (x0 : Nat) (hx0 : kF x0) (σ : bSto) (r : Int32) (σ' : bSto) (hF : f_X2_everybody x0 σ = some (r, σ')) : bEv l G bSHf ρ A yX2_everybody cX2_everybody 1 (some .int) (d + 0) [.ref x0] σ (some (.int r)) σ' := b_met (d := d + 0) (by decide +kernel) (Nat.le_of_ble_eq_true rfl) rfl (fun X C Rt h1 h2 h3 => e_X2_everybody_0 C ⟨fun o q h => by rw [h1]; exact h, fun i h => by rw [h2]; exact h, h3⟩ Rt _ hx0 _ hF)
/-! BenchColony$Folk.marriable -/
def f_X2_marriable (x0 : Nat) (x1 : Int32) (σ : bSto) : Option (Int32 × bSto) := bbd (f_X2_ofKind x0 (3 : Int32) σ) (fun v3 σ2 => (if ((v3 >>> (x1 &&& 31)) &&& (1 : Int32)) = (1 : Int32) then some ((0 : Int32), σ2) else bbd (f_X2_sameTown x0 x1 σ2) (fun v7 σ6 => if x1 < 0 ∨ 7 ≤ x1.toNatClampNeg then none else some (((v7 &&& ((σ6.1 (x0 + 4) x1.toNatClampNeg) ^^^ (-1 : Int32))) &&& (v3 ^^^ (-1 : Int32))), σ6))))
set_option maxHeartbeats 4000000 in
set_option maxRecDepth 20000 in
theorem e_X2_marriable_0 {X : bX} {l : Launch} {G : bG} {ρ : Nat → Nat} {A : Nat → Prop} {d : Nat} {r : Int32} {σ' : bSto} (C : bCX X cX2_marriable RX2 (d + 1)) (Hh : bH X l G bSHf ρ A 3) (Rt : bRX X (some .int) (some (.int r)) σ') (x0 : Nat) (hx0 : kF x0) (x1 : Int32) (σ : bSto) (hF : f_X2_marriable x0 x1 σ = some (r, σ')) : bAJ X 0 [(0, .ref x0), (1, .int x1)] [] σ := by
  rw [f_X2_marriable] at hF
  refine b_aload_n (pc := 0) C dX2_marriable_0 rfl 0 rfl ?_
  refine b_iconst (pc := 1) C dX2_marriable_1 ic_3 ?_
  obtain ⟨v3, σ2, hc1, hF⟩ := bbd_e hF
  refine b_cV1i (d' := (d + 0)) (pc := 2) C dX2_marriable_2 mm_X2_50 (Hh.1 _ _ (shF hx0)) rfl (Nat.le_of_ble_eq_true rfl) (by omega) (Hh.2.2 _ _ _ _ _ _ _ _ _ (lvl_eq (by omega) (e_X2_ofKind (d + 0) _ hx0 (3 : Int32) _ _ _ hc1))) ?_
  refine b_istore_n (L' := [(2, .int v3), (0, .ref x0), (1, .int x1)]) (pc := 5) C dX2_marriable_5 rfl rfl (Hh.2.1 _ (Nat.le_of_ble_eq_true rfl)) rfl ?_
  refine b_iload_n (pc := 6) C dX2_marriable_6 rfl 0 rfl ?_
  refine b_iload_n (pc := 7) C dX2_marriable_7 rfl 2 rfl ?_
  refine b_ishr (pc := 8) C dX2_marriable_8 ?_
  refine b_iconst (pc := 9) C dX2_marriable_9 ic_1 ?_
  refine b_iand (pc := 10) C dX2_marriable_10 ?_
  refine b_iconst (pc := 11) C dX2_marriable_11 ic_1 ?_
  refine b_icmp_ne (tgt := 19) (pc := 12) C dX2_marriable_12 rfl (fun hc4 => ?_) (fun hc4 => ?_)
  · rw [if_neg hc4] at hF
    refine b_aload_n (pc := 19) C dX2_marriable_19 rfl 1 rfl ?_
    refine b_iload_n (pc := 20) C dX2_marriable_20 rfl 2 rfl ?_
    obtain ⟨v7, σ6, hc5, hF⟩ := bbd_e hF
    refine b_cV1i (d' := (d + 0)) (pc := 21) C dX2_marriable_21 mm_X2_54 (Hh.1 _ _ (shF hx0)) rfl (Nat.le_of_ble_eq_true rfl) (by omega) (Hh.2.2 _ _ _ _ _ _ _ _ _ (lvl_eq (by omega) (e_X2_sameTown (d + 0) _ hx0 x1 _ _ _ hc5))) ?_
    refine b_aload_n (pc := 24) C dX2_marriable_24 rfl 1 rfl ?_
    refine b_getS (pc := 25) C dX2_marriable_25 fl_X2_22 (Hh.1 _ _ (shF hx0)) rfl ?_
    refine b_iload_n (pc := 28) C dX2_marriable_28 rfl 2 rfl ?_
    obtain ⟨hb8, hF⟩ := bif_n hF
    refine b_iald (pc := 29) C dX2_marriable_29 (Hh.1 _ _ (sa_2_3 hx0)) hb8 ?_
    refine b_iconst (pc := 30) C dX2_marriable_30 ic_m1 ?_
    refine b_ixor (pc := 31) C dX2_marriable_31 ?_
    refine b_iand (pc := 32) C dX2_marriable_32 ?_
    refine b_iload_n (pc := 33) C dX2_marriable_33 rfl 0 rfl ?_
    refine b_iconst (pc := 34) C dX2_marriable_34 ic_m1 ?_
    refine b_ixor (pc := 35) C dX2_marriable_35 ?_
    refine b_iand (pc := 36) C dX2_marriable_36 ?_
    exact b_iret (pc := 37) C Rt dX2_marriable_37 hF
  · rw [if_pos hc4] at hF
    refine b_iconst (pc := 15) C dX2_marriable_15 ic_0 ?_
    refine b_goto (tgt := 37) (pc := 16) C dX2_marriable_16 rfl ?_
    exact b_iret (pc := 37) C Rt dX2_marriable_37 hF
set_option maxHeartbeats 4000000 in
set_option maxRecDepth 20000 in
theorem e_X2_marriable {l : Launch} {G : bG} {ρ : Nat → Nat} {A : Nat → Prop} (d : Nat) (x0 : Nat) (hx0 : kF x0) (x1 : Int32) (σ : bSto) (r : Int32) (σ' : bSto) (hF : f_X2_marriable x0 x1 σ = some (r, σ')) : bEv l G bSHf ρ A yX2_marriable cX2_marriable 3 (some .int) (d + 1) [.ref x0, .int x1] σ (some (.int r)) σ' := b_met (d := d + 1) (by decide +kernel) (Nat.le_of_ble_eq_true rfl) rfl (fun X C Rt h1 h2 h3 => e_X2_marriable_0 C ⟨fun o q h => by rw [h1]; exact h, fun i h => by rw [h2]; exact h, h3⟩ Rt _ hx0 _ _ hF)
/-! BenchColony$Folk.eatersAhead -/
def f_X2_eatersAhead_J26 (x2 : Int32) (x3 : Int32) (s0 : Int32) (σ : bSto) : Option (Int32 × bSto) := (if s0 = 0 then bbd (f_J6_bitCount_0f7a4 (x2 ||| x3) σ) (fun v4 σ3 => some (v4, σ3)) else bbd (f_J6_bitCount_0f7a4 (x2 &&& x3) σ) (fun v7 σ6 => some (v7, σ6)))
def f_X2_eatersAhead (x0 : Nat) (x1 : Int32) (σ : bSto) : Option (Int32 × bSto) := bbd (f_X2_ofKind x0 (3 : Int32) σ) (fun v3 σ2 => blet (((1 : Int32) <<< (x1 &&& 31)) - (1 : Int32)) (fun x3_4 => (if ((v3 >>> (x1 &&& 31)) &&& (1 : Int32)) = (1 : Int32) then f_X2_eatersAhead_J26 v3 x3_4 (1 : Int32) σ2 else f_X2_eatersAhead_J26 v3 x3_4 (0 : Int32) σ2)))
set_option maxHeartbeats 4000000 in
set_option maxRecDepth 20000 in
theorem e_X2_eatersAhead_J26 {X : bX} {l : Launch} {G : bG} {ρ : Nat → Nat} {A : Nat → Prop} {d : Nat} {r : Int32} {σ' : bSto} (C : bCX X cX2_eatersAhead RX2 (d + 1)) (Hh : bH X l G bSHf ρ A 5) (Rt : bRX X (some .int) (some (.int r)) σ') (x2 : Int32) (x3 : Int32) (s0 : Int32) (σ : bSto) (hF : f_X2_eatersAhead_J26 x2 x3 s0 σ = some (r, σ')) : bAJ X 26 [(2, .int x2), (3, .int x3)] [.int s0] σ := by
  rw [f_X2_eatersAhead_J26] at hF
  refine b_istore (L' := [(4, .int s0), (2, .int x2), (3, .int x3)]) (pc := 26) C dX2_eatersAhead_26 rfl (Hh.2.1 _ (Nat.le_of_ble_eq_true rfl)) rfl ?_
  refine b_iload (pc := 28) C dX2_eatersAhead_28 0 rfl ?_
  refine b_if_eq (tgt := 39) (pc := 30) C dX2_eatersAhead_30 rfl (fun hc1 => ?_) (fun hc1 => ?_)
  · rw [if_pos hc1] at hF
    refine b_iload_n (pc := 39) C dX2_eatersAhead_39 rfl 1 rfl ?_
    refine b_iload_n (pc := 40) C dX2_eatersAhead_40 rfl 2 rfl ?_
    refine b_ior (pc := 41) C dX2_eatersAhead_41 ?_
    obtain ⟨v4, σ3, hc2, hF⟩ := bbd_e hF
    refine b_cS1i (d' := (d + 0)) (pc := 42) C dX2_eatersAhead_42 mm_X2_57 (Nat.le_of_ble_eq_true rfl) (by omega) (Hh.2.2 _ _ _ _ _ _ _ _ _ (lvl_eq (by omega) (e_J6_bitCount_0f7a4 (d + 0) (x2 ||| x3) _ _ _ hc2))) ?_
    exact b_iret (pc := 45) C Rt dX2_eatersAhead_45 hF
  · rw [if_neg hc1] at hF
    refine b_iload_n (pc := 33) C dX2_eatersAhead_33 rfl 1 rfl ?_
    refine b_iload_n (pc := 34) C dX2_eatersAhead_34 rfl 2 rfl ?_
    refine b_iand (pc := 35) C dX2_eatersAhead_35 ?_
    refine b_goto (tgt := 42) (pc := 36) C dX2_eatersAhead_36 rfl ?_
    obtain ⟨v7, σ6, hc5, hF⟩ := bbd_e hF
    refine b_cS1i (d' := (d + 0)) (pc := 42) C dX2_eatersAhead_42 mm_X2_57 (Nat.le_of_ble_eq_true rfl) (by omega) (Hh.2.2 _ _ _ _ _ _ _ _ _ (lvl_eq (by omega) (e_J6_bitCount_0f7a4 (d + 0) (x2 &&& x3) _ _ _ hc5))) ?_
    exact b_iret (pc := 45) C Rt dX2_eatersAhead_45 hF
set_option maxHeartbeats 4000000 in
set_option maxRecDepth 20000 in
theorem e_X2_eatersAhead_0 {X : bX} {l : Launch} {G : bG} {ρ : Nat → Nat} {A : Nat → Prop} {d : Nat} {r : Int32} {σ' : bSto} (C : bCX X cX2_eatersAhead RX2 (d + 1)) (Hh : bH X l G bSHf ρ A 5) (Rt : bRX X (some .int) (some (.int r)) σ') (x0 : Nat) (hx0 : kF x0) (x1 : Int32) (σ : bSto) (hF : f_X2_eatersAhead x0 x1 σ = some (r, σ')) : bAJ X 0 [(0, .ref x0), (1, .int x1)] [] σ := by
  rw [f_X2_eatersAhead] at hF
  refine b_aload_n (pc := 0) C dX2_eatersAhead_0 rfl 0 rfl ?_
  refine b_iconst (pc := 1) C dX2_eatersAhead_1 ic_3 ?_
  obtain ⟨v3, σ2, hc1, hF⟩ := bbd_e hF
  refine b_cV1i (d' := (d + 0)) (pc := 2) C dX2_eatersAhead_2 mm_X2_50 (Hh.1 _ _ (shF hx0)) rfl (Nat.le_of_ble_eq_true rfl) (by omega) (Hh.2.2 _ _ _ _ _ _ _ _ _ (lvl_eq (by omega) (e_X2_ofKind (d + 0) _ hx0 (3 : Int32) _ _ _ hc1))) ?_
  refine b_istore_n (L' := [(2, .int v3), (0, .ref x0), (1, .int x1)]) (pc := 5) C dX2_eatersAhead_5 rfl rfl (Hh.2.1 _ (Nat.le_of_ble_eq_true rfl)) rfl ?_
  refine b_iconst (pc := 6) C dX2_eatersAhead_6 ic_1 ?_
  refine b_iload_n (pc := 7) C dX2_eatersAhead_7 rfl 2 rfl ?_
  refine b_ishl (pc := 8) C dX2_eatersAhead_8 ?_
  refine b_iconst (pc := 9) C dX2_eatersAhead_9 ic_1 ?_
  refine b_isub (pc := 10) C dX2_eatersAhead_10 ?_
  obtain ⟨x3_4, e5, hF⟩ := blet_e hF
  refine b_istore_n (L' := [(3, .int x3_4), (2, .int v3), (0, .ref x0), (1, .int x1)]) (pc := 11) C dX2_eatersAhead_11 rfl e5 (Hh.2.1 _ (Nat.le_of_ble_eq_true rfl)) rfl ?_
  refine b_iload_n (pc := 12) C dX2_eatersAhead_12 rfl 1 rfl ?_
  refine b_iload_n (pc := 13) C dX2_eatersAhead_13 rfl 3 rfl ?_
  refine b_ishr (pc := 14) C dX2_eatersAhead_14 ?_
  refine b_iconst (pc := 15) C dX2_eatersAhead_15 ic_1 ?_
  refine b_iand (pc := 16) C dX2_eatersAhead_16 ?_
  refine b_iconst (pc := 17) C dX2_eatersAhead_17 ic_1 ?_
  refine b_icmp_ne (tgt := 25) (pc := 18) C dX2_eatersAhead_18 rfl (fun hc6 => ?_) (fun hc6 => ?_)
  · rw [if_neg hc6] at hF
    refine b_iconst (pc := 25) C dX2_eatersAhead_25 ic_0 ?_
    exact b_sub [1, 0] rfl (e_X2_eatersAhead_J26 C Hh Rt v3 x3_4 (0 : Int32) _ hF)
  · rw [if_pos hc6] at hF
    refine b_iconst (pc := 21) C dX2_eatersAhead_21 ic_1 ?_
    refine b_goto (tgt := 26) (pc := 22) C dX2_eatersAhead_22 rfl ?_
    exact b_sub [1, 0] rfl (e_X2_eatersAhead_J26 C Hh Rt v3 x3_4 (1 : Int32) _ hF)
set_option maxHeartbeats 4000000 in
set_option maxRecDepth 20000 in
theorem e_X2_eatersAhead {l : Launch} {G : bG} {ρ : Nat → Nat} {A : Nat → Prop} (d : Nat) (x0 : Nat) (hx0 : kF x0) (x1 : Int32) (σ : bSto) (r : Int32) (σ' : bSto) (hF : f_X2_eatersAhead x0 x1 σ = some (r, σ')) : bEv l G bSHf ρ A yX2_eatersAhead cX2_eatersAhead 5 (some .int) (d + 1) [.ref x0, .int x1] σ (some (.int r)) σ' := b_met (d := d + 1) (by decide +kernel) (Nat.le_of_ble_eq_true rfl) rfl (fun X C Rt h1 h2 h3 => e_X2_eatersAhead_0 C ⟨fun o q h => by rw [h1]; exact h, fun i h => by rw [h2]; exact h, h3⟩ Rt _ hx0 _ _ hF)
/-! BenchColony$Now.writeTo -/
def f_X4_writeTo (x0 : Nat) (x1 : Nat) (σ : bSto) : Option bSto := (if (16 : Int32) ≤ (Int32.ofNat (bln x1)) then if (0 : Int32) < 0 ∨ (0 : Int32) < 0 ∨ (7 : Int32) < 0 ∨ 7 < (0 : Int32).toNatClampNeg + (7 : Int32).toNatClampNeg ∨ (bln x1) < (0 : Int32).toNatClampNeg + (7 : Int32).toNatClampNeg then none else blet (bA σ x1 (va_cpy (σ.1 (x0 + 1)) (σ.1 x1) (0 : Int32).toNatClampNeg (0 : Int32).toNatClampNeg (7 : Int32).toNatClampNeg)) (fun σ3 => if (0 : Int32) < 0 ∨ (7 : Int32) < 0 ∨ (7 : Int32) < 0 ∨ 7 < (0 : Int32).toNatClampNeg + (7 : Int32).toNatClampNeg ∨ (bln x1) < (7 : Int32).toNatClampNeg + (7 : Int32).toNatClampNeg then none else blet (bA σ3 x1 (va_cpy (σ3.1 (x0 + 2)) (σ3.1 x1) (0 : Int32).toNatClampNeg (7 : Int32).toNatClampNeg (7 : Int32).toNatClampNeg)) (fun σ6 => if (14 : Int32) < 0 ∨ (bln x1) ≤ (14 : Int32).toNatClampNeg then none else blet (bI σ6 x1 (14 : Int32).toNatClampNeg (σ6.1 x0 2)) (fun σ8 => if (15 : Int32) < 0 ∨ (bln x1) ≤ (15 : Int32).toNatClampNeg then none else blet (bI σ8 x1 (15 : Int32).toNatClampNeg (σ8.1 x0 3)) (fun σ11 => some σ11)))) else some σ)
set_option maxHeartbeats 4000000 in
set_option maxRecDepth 20000 in
theorem e_X4_writeTo_0 {X : bX} {l : Launch} {G : bG} {ρ : Nat → Nat} {A : Nat → Prop} {d : Nat} {σ' : bSto} (C : bCX X cX4_writeTo RX4 (d + 0)) (Hh : bH X l G bSHf ρ A 2) (Rt : bRX X none none σ') (x0 : Nat) (hx0 : kN x0) (x1 : Nat) (hx1 : kIA x1) (σ : bSto) (hF : f_X4_writeTo x0 x1 σ = some σ') : bAJ X 0 [(0, .ref x0), (1, .ref x1)] [] σ := by
  rw [f_X4_writeTo] at hF
  refine b_aload_n (pc := 0) C dX4_writeTo_0 rfl 1 rfl ?_
  refine b_alen 0 (by decide) (pc := 1) C dX4_writeTo_1 (Hh.1 _ _ hx1) rfl ?_
  refine b_bipush (pc := 2) C dX4_writeTo_2 bp_16 ?_
  refine b_icmp_ge (tgt := 8) (pc := 4) C dX4_writeTo_4 rfl (fun hc1 => ?_) (fun hc1 => ?_)
  · rw [if_pos hc1] at hF
    refine b_aload_n (pc := 8) C dX4_writeTo_8 rfl 0 rfl ?_
    refine b_getS (pc := 9) C dX4_writeTo_9 fl_X4_9 (Hh.1 _ _ (shN hx0)) rfl ?_
    refine b_iconst (pc := 12) C dX4_writeTo_12 ic_0 ?_
    refine b_aload_n (pc := 13) C dX4_writeTo_13 rfl 1 rfl ?_
    refine b_iconst (pc := 14) C dX4_writeTo_14 ic_0 ?_
    refine b_bipush (pc := 15) C dX4_writeTo_15 bp_7 ?_
    obtain ⟨hb2, hF⟩ := bif_n hF
    obtain ⟨σ3, e4, hF⟩ := blet_e hF
    refine b_copy (pc := 17) C dX4_writeTo_17 ww_X4_31 wArr (Hh.1 _ _ (sa_4_0 hx0)) (Hh.1 _ _ hx1) (Nat.le_of_ble_eq_true rfl) hb2 e4 ?_
    refine b_aload_n (pc := 20) C dX4_writeTo_20 rfl 0 rfl ?_
    refine b_getS (pc := 21) C dX4_writeTo_21 fl_X4_15 (Hh.1 _ _ (shN hx0)) rfl ?_
    refine b_iconst (pc := 24) C dX4_writeTo_24 ic_0 ?_
    refine b_aload_n (pc := 25) C dX4_writeTo_25 rfl 1 rfl ?_
    refine b_bipush (pc := 26) C dX4_writeTo_26 bp_7 ?_
    refine b_bipush (pc := 28) C dX4_writeTo_28 bp_7 ?_
    obtain ⟨hb5, hF⟩ := bif_n hF
    obtain ⟨σ6, e7, hF⟩ := blet_e hF
    refine b_copy (pc := 30) C dX4_writeTo_30 ww_X4_31 wArr (Hh.1 _ _ (sa_4_1 hx0)) (Hh.1 _ _ hx1) (Nat.le_of_ble_eq_true rfl) hb5 e7 ?_
    refine b_aload_n (pc := 33) C dX4_writeTo_33 rfl 1 rfl ?_
    refine b_bipush (pc := 34) C dX4_writeTo_34 bp_14 ?_
    refine b_aload_n (pc := 36) C dX4_writeTo_36 rfl 0 rfl ?_
    refine b_getI (pc := 37) C dX4_writeTo_37 fl_X4_24 (Hh.1 _ _ (shN hx0)) rfl ?_
    obtain ⟨hb10, hF⟩ := bif_n hF
    obtain ⟨σ8, e9, hF⟩ := blet_e hF
    refine b_iast (pc := 40) C dX4_writeTo_40 (Hh.1 _ _ hx1) hb10 e9 ?_
    refine b_aload_n (pc := 41) C dX4_writeTo_41 rfl 1 rfl ?_
    refine b_bipush (pc := 42) C dX4_writeTo_42 bp_15 ?_
    refine b_aload_n (pc := 44) C dX4_writeTo_44 rfl 0 rfl ?_
    refine b_getI (pc := 45) C dX4_writeTo_45 fl_X4_28 (Hh.1 _ _ (shN hx0)) rfl ?_
    obtain ⟨hb13, hF⟩ := bif_n hF
    obtain ⟨σ11, e12, hF⟩ := blet_e hF
    refine b_iast (pc := 48) C dX4_writeTo_48 (Hh.1 _ _ hx1) hb13 e12 ?_
    exact b_vret (pc := 49) C Rt dX4_writeTo_49 hF
  · rw [if_neg hc1] at hF
    exact b_vret (pc := 7) C Rt dX4_writeTo_7 hF
set_option maxHeartbeats 4000000 in
set_option maxRecDepth 20000 in
theorem e_X4_writeTo {l : Launch} {G : bG} {ρ : Nat → Nat} {A : Nat → Prop} (d : Nat) (x0 : Nat) (hx0 : kN x0) (x1 : Nat) (hx1 : kIA x1) (σ : bSto) (σ' : bSto) (hF : f_X4_writeTo x0 x1 σ = some σ') : bEv l G bSHf ρ A yX4_writeTo cX4_writeTo 2 none (d + 0) [.ref x0, .ref x1] σ none σ' := b_met (d := d + 0) (by decide +kernel) (Nat.le_of_ble_eq_true rfl) rfl (fun X C Rt h1 h2 h3 => e_X4_writeTo_0 C ⟨fun o q h => by rw [h1]; exact h, fun i h => by rw [h2]; exact h, h3⟩ Rt _ hx0 _ hx1 _ hF)
/-! BenchColony$Folk.firstEaters -/
def f_X2_firstEaters_L4 : Nat → Nat → Int32 → Int32 → Int32 → bSto → Option (Int32 × bSto)
  | 0, _, _, _, _, _ => none
  | n + 1, x0, x1, x2, x3, σ => (if (σ.1 x0 7) ≤ x3 then some (x2, σ) else bbd (f_X2_eatersAhead x0 x3 σ) (fun v4 σ3 => (if x1 ≤ v4 then blet (x3 + (1 : Int32)) (fun x3_6 => f_X2_firstEaters_L4 n x0 x1 x2 x3_6 σ3) else blet (x2 ||| ((1 : Int32) <<< (x3 &&& 31))) (fun x2_8 => blet (x3 + (1 : Int32)) (fun x3_10 => f_X2_firstEaters_L4 n x0 x1 x2_8 x3_10 σ3)))))
def f_X2_firstEaters (x0 : Nat) (x1 : Int32) (σ : bSto) : Option (Int32 × bSto) := bl1 (f_X2_firstEaters_L4 bFU x0 x1 (0 : Int32) (0 : Int32) σ) (fun x2_1 σ2 => some (x2_1, σ2))
set_option maxHeartbeats 4000000 in
set_option maxRecDepth 20000 in
theorem e_X2_firstEaters_L4 {X : bX} {l : Launch} {G : bG} {ρ : Nat → Nat} {A : Nat → Prop} {d : Nat} {r : Int32} {σ' : bSto} (C : bCX X cX2_firstEaters RX2 (d + 2)) (Hh : bH X l G bSHf ρ A 4) (Rt : bRX X (some .int) (some (.int r)) σ') : ∀ (n : Nat) (x0 : Nat) (hx0 : kF x0) (x1 : Int32) (x2 : Int32) (x3 : Int32) (σ : bSto) (q : (Int32 × bSto)), f_X2_firstEaters_L4 n x0 x1 x2 x3 σ = some q → (∀ (x2 : Int32) (s : bSto), q = (x2, s) → bAJ X 33 [(2, .int x2)] [] s) → bAJ X 4 [(0, .ref x0), (1, .int x1), (2, .int x2), (3, .int x3)] [] σ := by
  intro n
  induction n with
  | zero => intro x0 hx0 x1 x2 x3 σ q hF; rw [f_X2_firstEaters_L4] at hF; cases hF
  | succ n ih =>
    intro x0 hx0 x1 x2 x3 σ q hF hx
    rw [f_X2_firstEaters_L4] at hF
    refine b_iload_n (pc := 4) C dX2_firstEaters_4 rfl 3 rfl ?_
    refine b_aload_n (pc := 5) C dX2_firstEaters_5 rfl 0 rfl ?_
    refine b_getI (pc := 6) C dX2_firstEaters_6 fl_X2_34 (Hh.1 _ _ (shF hx0)) rfl ?_
    refine b_icmp_ge (tgt := 33) (pc := 9) C dX2_firstEaters_9 rfl (fun hc1 => ?_) (fun hc1 => ?_)
    · rw [if_pos hc1] at hF
      exact b_sub [2] rfl (hx _ _ (Option.some.inj hF).symm )
    · rw [if_neg hc1] at hF
      refine b_aload_n (pc := 12) C dX2_firstEaters_12 rfl 0 rfl ?_
      refine b_iload_n (pc := 13) C dX2_firstEaters_13 rfl 3 rfl ?_
      obtain ⟨v4, σ3, hc2, hF⟩ := bbd_e hF
      refine b_cV1i (d' := (d + 1)) (pc := 14) C dX2_firstEaters_14 mm_X2_62 (Hh.1 _ _ (shF hx0)) rfl (Nat.le_of_ble_eq_true rfl) (by omega) (Hh.2.2 _ _ _ _ _ _ _ _ _ (lvl_eq (by omega) (e_X2_eatersAhead (d + 0) _ hx0 x3 _ _ _ hc2))) ?_
      refine b_iload_n (pc := 17) C dX2_firstEaters_17 rfl 1 rfl ?_
      refine b_icmp_ge (tgt := 27) (pc := 18) C dX2_firstEaters_18 rfl (fun hc5 => ?_) (fun hc5 => ?_)
      · rw [if_pos hc5] at hF
        obtain ⟨x3_6, e7, hF⟩ := blet_e hF
        refine b_iinc (L' := [(3, .int x3_6), (0, .ref x0), (1, .int x1), (2, .int x2)]) (pc := 27) C dX2_firstEaters_27 3 rfl ic_1 e7 (Hh.2.1 _ (Nat.le_of_ble_eq_true rfl)) rfl ?_
        refine b_goto (tgt := 4) (pc := 30) C dX2_firstEaters_30 rfl ?_
        exact b_sub [1, 2, 3, 0] rfl (ih _ hx0 x1 x2 x3_6 _ _ hF hx)
      · rw [if_neg hc5] at hF
        refine b_iload_n (pc := 21) C dX2_firstEaters_21 rfl 2 rfl ?_
        refine b_iconst (pc := 22) C dX2_firstEaters_22 ic_1 ?_
        refine b_iload_n (pc := 23) C dX2_firstEaters_23 rfl 3 rfl ?_
        refine b_ishl (pc := 24) C dX2_firstEaters_24 ?_
        refine b_ior (pc := 25) C dX2_firstEaters_25 ?_
        obtain ⟨x2_8, e9, hF⟩ := blet_e hF
        refine b_istore_n (L' := [(2, .int x2_8), (0, .ref x0), (1, .int x1), (3, .int x3)]) (pc := 26) C dX2_firstEaters_26 rfl e9 (Hh.2.1 _ (Nat.le_of_ble_eq_true rfl)) rfl ?_
        obtain ⟨x3_10, e11, hF⟩ := blet_e hF
        refine b_iinc (L' := [(3, .int x3_10), (2, .int x2_8), (0, .ref x0), (1, .int x1)]) (pc := 27) C dX2_firstEaters_27 3 rfl ic_1 e11 (Hh.2.1 _ (Nat.le_of_ble_eq_true rfl)) rfl ?_
        refine b_goto (tgt := 4) (pc := 30) C dX2_firstEaters_30 rfl ?_
        exact b_sub [2, 3, 1, 0] rfl (ih _ hx0 x1 x2_8 x3_10 _ _ hF hx)
set_option maxHeartbeats 4000000 in
set_option maxRecDepth 20000 in
theorem e_X2_firstEaters_0 {X : bX} {l : Launch} {G : bG} {ρ : Nat → Nat} {A : Nat → Prop} {d : Nat} {r : Int32} {σ' : bSto} (C : bCX X cX2_firstEaters RX2 (d + 2)) (Hh : bH X l G bSHf ρ A 4) (Rt : bRX X (some .int) (some (.int r)) σ') (x0 : Nat) (hx0 : kF x0) (x1 : Int32) (σ : bSto) (hF : f_X2_firstEaters x0 x1 σ = some (r, σ')) : bAJ X 0 [(0, .ref x0), (1, .int x1)] [] σ := by
  rw [f_X2_firstEaters] at hF
  refine b_iconst (pc := 0) C dX2_firstEaters_0 ic_0 ?_
  refine b_istore_n (L' := [(2, .int (0 : Int32)), (0, .ref x0), (1, .int x1)]) (pc := 1) C dX2_firstEaters_1 rfl rfl (Hh.2.1 _ (Nat.le_of_ble_eq_true rfl)) rfl ?_
  refine b_iconst (pc := 2) C dX2_firstEaters_2 ic_0 ?_
  refine b_istore_n (L' := [(3, .int (0 : Int32)), (2, .int (0 : Int32)), (0, .ref x0), (1, .int x1)]) (pc := 3) C dX2_firstEaters_3 rfl rfl (Hh.2.1 _ (Nat.le_of_ble_eq_true rfl)) rfl ?_
  obtain ⟨x2_1, σ2, hq1, hF⟩ := bl1_e hF
  refine b_sub [2, 3, 1, 0] rfl (e_X2_firstEaters_L4 C Hh Rt bFU _ hx0 x1 (0 : Int32) (0 : Int32) _ _ hq1 (fun _ _ e  => ?_))
  cases e
  refine b_iload_n (pc := 33) C dX2_firstEaters_33 rfl 0 rfl ?_
  exact b_iret (pc := 34) C Rt dX2_firstEaters_34 hF
set_option maxHeartbeats 4000000 in
set_option maxRecDepth 20000 in
theorem e_X2_firstEaters {l : Launch} {G : bG} {ρ : Nat → Nat} {A : Nat → Prop} (d : Nat) (x0 : Nat) (hx0 : kF x0) (x1 : Int32) (σ : bSto) (r : Int32) (σ' : bSto) (hF : f_X2_firstEaters x0 x1 σ = some (r, σ')) : bEv l G bSHf ρ A yX2_firstEaters cX2_firstEaters 4 (some .int) (d + 2) [.ref x0, .int x1] σ (some (.int r)) σ' := b_met (d := d + 2) (by decide +kernel) (Nat.le_of_ble_eq_true rfl) rfl (fun X C Rt h1 h2 h3 => e_X2_firstEaters_0 C ⟨fun o q h => by rw [h1]; exact h, fun i h => by rw [h2]; exact h, h3⟩ Rt _ hx0 _ _ hF)
/-! BenchColony$Now.readFrom -/
def f_X4_readFrom (x0 : Nat) (x1 : Nat) (σ : bSto) : Option bSto := (if (16 : Int32) ≤ (Int32.ofNat (bln x1)) then if (0 : Int32) < 0 ∨ (0 : Int32) < 0 ∨ (7 : Int32) < 0 ∨ (bln x1) < (0 : Int32).toNatClampNeg + (7 : Int32).toNatClampNeg ∨ 7 < (0 : Int32).toNatClampNeg + (7 : Int32).toNatClampNeg then none else blet (bA σ (x0 + 1) (va_cpy (σ.1 x1) (σ.1 (x0 + 1)) (0 : Int32).toNatClampNeg (0 : Int32).toNatClampNeg (7 : Int32).toNatClampNeg)) (fun σ3 => if (7 : Int32) < 0 ∨ (0 : Int32) < 0 ∨ (7 : Int32) < 0 ∨ (bln x1) < (7 : Int32).toNatClampNeg + (7 : Int32).toNatClampNeg ∨ 7 < (0 : Int32).toNatClampNeg + (7 : Int32).toNatClampNeg then none else blet (bA σ3 (x0 + 2) (va_cpy (σ3.1 x1) (σ3.1 (x0 + 2)) (7 : Int32).toNatClampNeg (0 : Int32).toNatClampNeg (7 : Int32).toNatClampNeg)) (fun σ6 => if (14 : Int32) < 0 ∨ (bln x1) ≤ (14 : Int32).toNatClampNeg then none else blet (bI σ6 x0 2 (σ6.1 x1 (14 : Int32).toNatClampNeg)) (fun σ9 => if (15 : Int32) < 0 ∨ (bln x1) ≤ (15 : Int32).toNatClampNeg then none else blet (bI σ9 x0 3 (σ9.1 x1 (15 : Int32).toNatClampNeg)) (fun σ12 => some σ12)))) else some σ)
set_option maxHeartbeats 4000000 in
set_option maxRecDepth 20000 in
theorem e_X4_readFrom_0 {X : bX} {l : Launch} {G : bG} {ρ : Nat → Nat} {A : Nat → Prop} {d : Nat} {σ' : bSto} (C : bCX X cX4_readFrom RX4 (d + 0)) (Hh : bH X l G bSHf ρ A 2) (Rt : bRX X none none σ') (x0 : Nat) (hx0 : kN x0) (x1 : Nat) (hx1 : kIA x1) (σ : bSto) (hF : f_X4_readFrom x0 x1 σ = some σ') : bAJ X 0 [(0, .ref x0), (1, .ref x1)] [] σ := by
  rw [f_X4_readFrom] at hF
  refine b_aload_n (pc := 0) C dX4_readFrom_0 rfl 1 rfl ?_
  refine b_alen 0 (by decide) (pc := 1) C dX4_readFrom_1 (Hh.1 _ _ hx1) rfl ?_
  refine b_bipush (pc := 2) C dX4_readFrom_2 bp_16 ?_
  refine b_icmp_ge (tgt := 8) (pc := 4) C dX4_readFrom_4 rfl (fun hc1 => ?_) (fun hc1 => ?_)
  · rw [if_pos hc1] at hF
    refine b_aload_n (pc := 8) C dX4_readFrom_8 rfl 1 rfl ?_
    refine b_iconst (pc := 9) C dX4_readFrom_9 ic_0 ?_
    refine b_aload_n (pc := 10) C dX4_readFrom_10 rfl 0 rfl ?_
    refine b_getS (pc := 11) C dX4_readFrom_11 fl_X4_9 (Hh.1 _ _ (shN hx0)) rfl ?_
    refine b_iconst (pc := 14) C dX4_readFrom_14 ic_0 ?_
    refine b_bipush (pc := 15) C dX4_readFrom_15 bp_7 ?_
    obtain ⟨hb2, hF⟩ := bif_n hF
    obtain ⟨σ3, e4, hF⟩ := blet_e hF
    refine b_copy (pc := 17) C dX4_readFrom_17 ww_X4_31 wArr (Hh.1 _ _ hx1) (Hh.1 _ _ (sa_4_0 hx0)) (Nat.le_of_ble_eq_true rfl) hb2 e4 ?_
    refine b_aload_n (pc := 20) C dX4_readFrom_20 rfl 1 rfl ?_
    refine b_bipush (pc := 21) C dX4_readFrom_21 bp_7 ?_
    refine b_aload_n (pc := 23) C dX4_readFrom_23 rfl 0 rfl ?_
    refine b_getS (pc := 24) C dX4_readFrom_24 fl_X4_15 (Hh.1 _ _ (shN hx0)) rfl ?_
    refine b_iconst (pc := 27) C dX4_readFrom_27 ic_0 ?_
    refine b_bipush (pc := 28) C dX4_readFrom_28 bp_7 ?_
    obtain ⟨hb5, hF⟩ := bif_n hF
    obtain ⟨σ6, e7, hF⟩ := blet_e hF
    refine b_copy (pc := 30) C dX4_readFrom_30 ww_X4_31 wArr (Hh.1 _ _ hx1) (Hh.1 _ _ (sa_4_1 hx0)) (Nat.le_of_ble_eq_true rfl) hb5 e7 ?_
    refine b_aload_n (pc := 33) C dX4_readFrom_33 rfl 0 rfl ?_
    refine b_aload_n (pc := 34) C dX4_readFrom_34 rfl 1 rfl ?_
    refine b_bipush (pc := 35) C dX4_readFrom_35 bp_14 ?_
    obtain ⟨hb8, hF⟩ := bif_n hF
    refine b_iald (pc := 37) C dX4_readFrom_37 (Hh.1 _ _ hx1) hb8 ?_
    obtain ⟨σ9, e10, hF⟩ := blet_e hF
    refine b_putI (pc := 38) C dX4_readFrom_38 fp_X4_24 (Hh.1 _ _ (shN hx0)) rfl rfl rfl e10 ?_
    refine b_aload_n (pc := 41) C dX4_readFrom_41 rfl 0 rfl ?_
    refine b_aload_n (pc := 42) C dX4_readFrom_42 rfl 1 rfl ?_
    refine b_bipush (pc := 43) C dX4_readFrom_43 bp_15 ?_
    obtain ⟨hb11, hF⟩ := bif_n hF
    refine b_iald (pc := 45) C dX4_readFrom_45 (Hh.1 _ _ hx1) hb11 ?_
    obtain ⟨σ12, e13, hF⟩ := blet_e hF
    refine b_putI (pc := 46) C dX4_readFrom_46 fp_X4_28 (Hh.1 _ _ (shN hx0)) rfl rfl rfl e13 ?_
    exact b_vret (pc := 49) C Rt dX4_readFrom_49 hF
  · rw [if_neg hc1] at hF
    exact b_vret (pc := 7) C Rt dX4_readFrom_7 hF
set_option maxHeartbeats 4000000 in
set_option maxRecDepth 20000 in
theorem e_X4_readFrom {l : Launch} {G : bG} {ρ : Nat → Nat} {A : Nat → Prop} (d : Nat) (x0 : Nat) (hx0 : kN x0) (x1 : Nat) (hx1 : kIA x1) (σ : bSto) (σ' : bSto) (hF : f_X4_readFrom x0 x1 σ = some σ') : bEv l G bSHf ρ A yX4_readFrom cX4_readFrom 2 none (d + 0) [.ref x0, .ref x1] σ none σ' := b_met (d := d + 0) (by decide +kernel) (Nat.le_of_ble_eq_true rfl) rfl (fun X C Rt h1 h2 h3 => e_X4_readFrom_0 C ⟨fun o q h => by rw [h1]; exact h, fun i h => by rw [h2]; exact h, h3⟩ Rt _ hx0 _ hx1 _ hF)
