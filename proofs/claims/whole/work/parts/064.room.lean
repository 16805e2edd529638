/-! BenchColony$Room.clear -/
def f_X7_clear (x0 : Nat) (σ : bSto) : Option bSto := blet (bI σ x0 4 (0 : Int32)) (fun σ1 => bbv (f_X3_clear (x0 + 1) σ1) (fun σ4 => bbv (f_X2_clear (x0 + 7) σ4) (fun σ6 => bbv (f_X10_clear (x0 + 15) σ6) (fun σ8 => bbv (f_X4_clear (x0 + 20) σ8) (fun σ10 => some σ10)))))
set_option maxHeartbeats 4000000 in
set_option maxRecDepth 20000 in
theorem e_X7_clear_0 {X : bX} {l : Launch} {G : bG} {ρ : Nat → Nat} {A : Nat → Prop} {d : Nat} {σ' : bSto} (C : bCX X cX7_clear RX7 (d + 2)) (Hh : bH X l G bSHf ρ A 1) (Rt : bRX X none none σ') (x0 : Nat) (hx0 : kR x0) (σ : bSto) (hF : f_X7_clear x0 σ = some σ') : bAJ X 0 [(0, .ref x0)] [] σ := by
  rw [f_X7_clear] at hF
  refine b_aload_n (pc := 0) C dX7_clear_0 rfl 0 rfl ?_
  refine b_iconst (pc := 1) C dX7_clear_1 ic_0 ?_
  obtain ⟨σ1, e2, hF⟩ := blet_e hF
  refine b_putI (pc := 2) C dX7_clear_2 fp_X7_39 (Hh.1 _ _ (shR hx0)) rfl rfl rfl e2 ?_
  refine b_aload_n (pc := 5) C dX7_clear_5 rfl 0 rfl ?_
  refine b_getS (pc := 6) C dX7_clear_6 fl_X7_12 (Hh.1 _ _ (shR hx0)) rfl ?_
  obtain ⟨σ4, hc3, hF⟩ := bbv_e hF
  refine b_cV0v (d' := (d + 1)) (pc := 9) C dX7_clear_9 mm_X7_43 (Hh.1 _ _ (shH (kk_7_0 hx0))) rfl (Nat.le_of_ble_eq_true rfl) (by omega) (Hh.2.2 _ _ _ _ _ _ _ _ _ (lvl_eq (by omega) (e_X3_clear (d + 1) _ (kk_7_0 hx0) _ _ hc3))) ?_
  refine b_aload_n (pc := 12) C dX7_clear_12 rfl 0 rfl ?_
  refine b_getS (pc := 13) C dX7_clear_13 fl_X7_21 (Hh.1 _ _ (shR hx0)) rfl ?_
  obtain ⟨σ6, hc5, hF⟩ := bbv_e hF
  refine b_cV0v (d' := (d + 1)) (pc := 16) C dX7_clear_16 mm_X7_46 (Hh.1 _ _ (shF (kk_7_1 hx0))) rfl (Nat.le_of_ble_eq_true rfl) (by omega) (Hh.2.2 _ _ _ _ _ _ _ _ _ (lvl_eq (by omega) (e_X2_clear (d + 0) _ (kk_7_1 hx0) _ _ hc5))) ?_
  refine b_aload_n (pc := 19) C dX7_clear_19 rfl 0 rfl ?_
  refine b_getS (pc := 20) C dX7_clear_20 fl_X7_28 (Hh.1 _ _ (shR hx0)) rfl ?_
  obtain ⟨σ8, hc7, hF⟩ := bbv_e hF
  refine b_cV0v (d' := (d + 1)) (pc := 23) C dX7_clear_23 mm_X7_47 (Hh.1 _ _ (shT (kk_7_2 hx0))) rfl (Nat.le_of_ble_eq_true rfl) (by omega) (Hh.2.2 _ _ _ _ _ _ _ _ _ (lvl_eq (by omega) (e_X10_clear (d + 1) _ (kk_7_2 hx0) _ _ hc7))) ?_
  refine b_aload_n (pc := 26) C dX7_clear_26 rfl 0 rfl ?_
  refine b_getS (pc := 27) C dX7_clear_27 fl_X7_35 (Hh.1 _ _ (shR hx0)) rfl ?_
  obtain ⟨σ10, hc9, hF⟩ := bbv_e hF
  refine b_cV0v (d' := (d + 1)) (pc := 30) C dX7_clear_30 mm_X7_48 (Hh.1 _ _ (shN (kk_7_3 hx0))) rfl (Nat.le_of_ble_eq_true rfl) (by omega) (Hh.2.2 _ _ _ _ _ _ _ _ _ (lvl_eq (by omega) (e_X4_clear (d + 0) _ (kk_7_3 hx0) _ _ hc9))) ?_
  exact b_vret (pc := 33) C Rt dX7_clear_33 hF
set_option maxHeartbeats 4000000 in
set_option maxRecDepth 20000 in
theorem e_X7_clear {l : Launch} {G : bG} {ρ : Nat → Nat} {A : Nat → Prop} (d : Nat) (x0 : Nat) (hx0 : kR x0) (σ : bSto) (σ' : bSto) (hF : f_X7_clear x0 σ = some σ') : bEv l G bSHf ρ A yX7_clear cX7_clear 1 none (d + 2) [.ref x0] σ none σ' := b_met (d := d + 2) (by decide +kernel) (Nat.le_of_ble_eq_true rfl) rfl (fun X C Rt h1 h2 h3 => e_X7_clear_0 C ⟨fun o q h => by rw [h1]; exact h, fun i h => by rw [h2]; exact h, h3⟩ Rt _ hx0 _ hF)
/-! BenchColony$Room.allows -/
def f_X7_allows_J47  (σ : bSto) : Option (Int32 × bSto) := some ((0 : Int32), σ)
def f_X7_allows (x0 : Nat) (x1 : Int32) (x2 : Int32) (σ : bSto) : Option (Int32 × bSto) := if x1 < 0 ∨ 7 ≤ x1.toNatClampNeg then none else blet (σ.1 ((x0 + 7) + 1) x1.toNatClampNeg) (fun x3_2 => (if x3_2 < 0 then f_X7_allows_J47  σ else (if (4 : Int32) ≤ x3_2 then f_X7_allows_J47  σ else if x3_2 < 0 ∨ 4 ≤ x3_2.toNatClampNeg then none else if x2 < 0 ∨ 6 ≤ x2.toNatClampNeg then none else (if (((bsorts x3_2.toNatClampNeg) >>> ((σ.1 ((x0 + 1) + 1) x2.toNatClampNeg) &&& 31)) &&& (1 : Int32)) = (1 : Int32) then some ((1 : Int32), σ) else f_X7_allows_J47  σ))))
set_option maxHeartbeats 4000000 in
set_option maxRecDepth 20000 in
theorem e_X7_allows_J47 {X : bX} {l : Launch} {G : bG} {ρ : Nat → Nat} {A : Nat → Prop} {d : Nat} {r : Int32} {σ' : bSto} (C : bCX X cX7_allows RX7 (d + 0)) (Hh : bH X l G bSHf ρ A 4) (Rt : bRX X (some .boolean) (some (.int r)) σ')  (σ : bSto) (hF : f_X7_allows_J47  σ = some (r, σ')) : bAJ X 47 [] [] σ := by
  rw [f_X7_allows_J47] at hF
  refine b_iconst (pc := 47) C dX7_allows_47 ic_0 ?_
  exact b_zret (pc := 48) C Rt dX7_allows_48 rfl hF
set_option maxHeartbeats 4000000 in
set_option maxRecDepth 20000 in
theorem e_X7_allows_0 {X : bX} {l : Launch} {G : bG} {ρ : Nat → Nat} {A : Nat → Prop} {d : Nat} {r : Int32} {σ' : bSto} (C : bCX X cX7_allows RX7 (d + 0)) (Hh : bH X l G bSHf ρ A 4) (Rt : bRX X (some .boolean) (some (.int r)) σ') (x0 : Nat) (hx0 : kR x0) (x1 : Int32) (x2 : Int32) (σ : bSto) (hF : f_X7_allows x0 x1 x2 σ = some (r, σ')) : bAJ X 0 [(0, .ref x0), (1, .int x1), (2, .int x2)] [] σ := by
  rw [f_X7_allows] at hF
  refine b_aload_n (pc := 0) C dX7_allows_0 rfl 0 rfl ?_
  refine b_getS (pc := 1) C dX7_allows_1 fl_X7_21 (Hh.1 _ _ (shR hx0)) rfl ?_
  refine b_getS (pc := 4) C dX7_allows_4 fl_X7_49 (Hh.1 _ _ (shF (kk_7_1 hx0))) rfl ?_
  refine b_iload_n (pc := 7) C dX7_allows_7 rfl 1 rfl ?_
  obtain ⟨hb1, hF⟩ := bif_n hF
  refine b_iald (pc := 8) C dX7_allows_8 (Hh.1 _ _ (sa_2_0 (kk_7_1 hx0))) hb1 ?_
  obtain ⟨x3_2, e3, hF⟩ := blet_e hF
  refine b_istore_n (L' := [(3, .int x3_2), (0, .ref x0), (1, .int x1), (2, .int x2)]) (pc := 9) C dX7_allows_9 rfl e3 (Hh.2.1 _ (Nat.le_of_ble_eq_true rfl)) rfl ?_
  refine b_iload_n (pc := 10) C dX7_allows_10 rfl 0 rfl ?_
  refine b_if_lt (tgt := 47) (pc := 11) C dX7_allows_11 rfl (fun hc4 => ?_) (fun hc4 => ?_)
  · rw [if_pos hc4] at hF
    exact b_sub [] rfl (e_X7_allows_J47 C Hh Rt  _ hF)
  · rw [if_neg hc4] at hF
    refine b_iload_n (pc := 14) C dX7_allows_14 rfl 0 rfl ?_
    refine b_gsorts (pc := 15) C dX7_allows_15 ?_
    refine b_tlen (pc := 18) C dX7_allows_18 ?_
    refine b_icmp_ge (tgt := 47) (pc := 19) C dX7_allows_19 rfl (fun hc5 => ?_) (fun hc5 => ?_)
    · rw [if_pos hc5] at hF
      exact b_sub [] rfl (e_X7_allows_J47 C Hh Rt  _ hF)
    · rw [if_neg hc5] at hF
      refine b_gsorts (pc := 22) C dX7_allows_22 ?_
      refine b_iload_n (pc := 25) C dX7_allows_25 rfl 0 rfl ?_
      obtain ⟨hb6, hF⟩ := bif_n hF
      refine b_tald (pc := 26) C dX7_allows_26 hb6 ?_
      refine b_aload_n (pc := 27) C dX7_allows_27 rfl 1 rfl ?_
      refine b_getS (pc := 28) C dX7_allows_28 fl_X7_12 (Hh.1 _ _ (shR hx0)) rfl ?_
      refine b_getS (pc := 31) C dX7_allows_31 fl_X7_56 (Hh.1 _ _ (shH (kk_7_0 hx0))) rfl ?_
      refine b_iload_n (pc := 34) C dX7_allows_34 rfl 3 rfl ?_
      obtain ⟨hb7, hF⟩ := bif_n hF
      refine b_iald (pc := 35) C dX7_allows_35 (Hh.1 _ _ (sa_3_0 (kk_7_0 hx0))) hb7 ?_
      refine b_ishr (pc := 36) C dX7_allows_36 ?_
      refine b_iconst (pc := 37) C dX7_allows_37 ic_1 ?_
      refine b_iand (pc := 38) C dX7_allows_38 ?_
      refine b_iconst (pc := 39) C dX7_allows_39 ic_1 ?_
      refine b_icmp_ne (tgt := 47) (pc := 40) C dX7_allows_40 rfl (fun hc8 => ?_) (fun hc8 => ?_)
      · rw [if_neg hc8] at hF
        exact b_sub [] rfl (e_X7_allows_J47 C Hh Rt  _ hF)
      · rw [if_pos hc8] at hF
        refine b_iconst (pc := 43) C dX7_allows_43 ic_1 ?_
        refine b_goto (tgt := 48) (pc := 44) C dX7_allows_44 rfl ?_
        exact b_zret (pc := 48) C Rt dX7_allows_48 rfl hF
set_option maxHeartbeats 4000000 in
set_option maxRecDepth 20000 in
theorem e_X7_allows {l : Launch} {G : bG} {ρ : Nat → Nat} {A : Nat → Prop} (d : Nat) (x0 : Nat) (hx0 : kR x0) (x1 : Int32) (x2 : Int32) (σ : bSto) (r : Int32) (σ' : bSto) (hF : f_X7_allows x0 x1 x2 σ = some (r, σ')) : bEv l G bSHf ρ A yX7_allows cX7_allows 4 (some .boolean) (d + 0) [.ref x0, .int x1, .int x2] σ (some (.int r)) σ' := b_met (d := d + 0) (by decide +kernel) (Nat.le_of_ble_eq_true rfl) rfl (fun X C Rt h1 h2 h3 => e_X7_allows_0 C ⟨fun o q h => by rw [h1]; exact h, fun i h => by rw [h2]; exact h, h3⟩ Rt _ hx0 _ _ _ hF)
/-! BenchColony$Room.hasFreeSeat -/
def f_X7_hasFreeSeat (x0 : Nat) (x1 : Nat) (x2 : Int32) (σ : bSto) : Option (Int32 × bSto) := bbd (f_X4_sitters x1 x2 σ) (fun v3 σ2 => bbd (f_J6_bitCount_0f7a4 v3 σ2) (fun v6 σ5 => if x2 < 0 ∨ 6 ≤ x2.toNatClampNeg then none else (if (σ5.1 ((x0 + 1) + 4) x2.toNatClampNeg) ≤ v6 then some ((0 : Int32), σ5) else some ((1 : Int32), σ5))))
set_option maxHeartbeats 4000000 in
set_option maxRecDepth 20000 in
theorem e_X7_hasFreeSeat_0 {X : bX} {l : Launch} {G : bG} {ρ : Nat → Nat} {A : Nat → Prop} {d : Nat} {r : Int32} {σ' : bSto} (C : bCX X cX7_hasFreeSeat RX7 (d + 1)) (Hh : bH X l G bSHf ρ A 3) (Rt : bRX X (some .boolean) (some (.int r)) σ') (x0 : Nat) (hx0 : kR x0) (x1 : Nat) (hx1 : kN x1) (x2 : Int32) (σ : bSto) (hF : f_X7_hasFreeSeat x0 x1 x2 σ = some (r, σ')) : bAJ X 0 [(0, .ref x0), (1, .ref x1), (2, .int x2)] [] σ := by
  rw [f_X7_hasFreeSeat] at hF
  refine b_aload_n (pc := 0) C dX7_hasFreeSeat_0 rfl 1 rfl ?_
  refine b_iload_n (pc := 1) C dX7_hasFreeSeat_1 rfl 2 rfl ?_
  obtain ⟨v3, σ2, hc1, hF⟩ := bbd_e hF
  refine b_cV1i (d' := (d + 0)) (pc := 2) C dX7_hasFreeSeat_2 mm_X7_59 (Hh.1 _ _ (shN hx1)) rfl (Nat.le_of_ble_eq_true rfl) (by omega) (Hh.2.2 _ _ _ _ _ _ _ _ _ (lvl_eq (by omega) (e_X4_sitters (d + 0) _ hx1 x2 _ _ _ hc1))) ?_
  obtain ⟨v6, σ5, hc4, hF⟩ := bbd_e hF
  refine b_cS1i (d' := (d + 0)) (pc := 5) C dX7_hasFreeSeat_5 mm_X7_63 (Nat.le_of_ble_eq_true rfl) (by omega) (Hh.2.2 _ _ _ _ _ _ _ _ _ (lvl_eq (by omega) (e_J6_bitCount_0f7a4 (d + 0) v3 _ _ _ hc4))) ?_
  refine b_aload_n (pc := 8) C dX7_hasFreeSeat_8 rfl 0 rfl ?_
  refine b_getS (pc := 9) C dX7_hasFreeSeat_9 fl_X7_12 (Hh.1 _ _ (shR hx0)) rfl ?_
  refine b_getS (pc := 12) C dX7_hasFreeSeat_12 fl_X7_68 (Hh.1 _ _ (shH (kk_7_0 hx0))) rfl ?_
  refine b_iload_n (pc := 15) C dX7_hasFreeSeat_15 rfl 2 rfl ?_
  obtain ⟨hb7, hF⟩ := bif_n hF
  refine b_iald (pc := 16) C dX7_hasFreeSeat_16 (Hh.1 _ _ (sa_3_3 (kk_7_0 hx0))) hb7 ?_
  refine b_icmp_ge (tgt := 24) (pc := 17) C dX7_hasFreeSeat_17 rfl (fun hc8 => ?_) (fun hc8 => ?_)
  · rw [if_pos hc8] at hF
    refine b_iconst (pc := 24) C dX7_hasFreeSeat_24 ic_0 ?_
    exact b_zret (pc := 25) C Rt dX7_hasFreeSeat_25 rfl hF
  · rw [if_neg hc8] at hF
    refine b_iconst (pc := 20) C dX7_hasFreeSeat_20 ic_1 ?_
    refine b_goto (tgt := 25) (pc := 21) C dX7_hasFreeSeat_21 rfl ?_
    exact b_zret (pc := 25) C Rt dX7_hasFreeSeat_25 rfl hF
set_option maxHeartbeats 4000000 in
set_option maxRecDepth 20000 in
theorem e_X7_hasFreeSeat {l : Launch} {G : bG} {ρ : Nat → Nat} {A : Nat → Prop} (d : Nat) (x0 : Nat) (hx0 : kR x0) (x1 : Nat) (hx1 : kN x1) (x2 : Int32) (σ : bSto) (r : Int32) (σ' : bSto) (hF : f_X7_hasFreeSeat x0 x1 x2 σ = some (r, σ')) : bEv l G bSHf ρ A yX7_hasFreeSeat cX7_hasFreeSeat 3 (some .boolean) (d + 1) [.ref x0, .ref x1, .int x2] σ (some (.int r)) σ' := b_met (d := d + 1) (by decide +kernel) (Nat.le_of_ble_eq_true rfl) rfl (fun X C Rt h1 h2 h3 => e_X7_hasFreeSeat_0 C ⟨fun o q h => by rw [h1]; exact h, fun i h => by rw [h2]; exact h, h3⟩ Rt _ hx0 _ hx1 _ _ hF)
/-! BenchColony$Room.warmth -/
def f_X7_warmth (x0 : Nat) (x1 : Nat) (x2 : Int32) (σ : bSto) : Option (Int32 × bSto) := bbd (f_X3_heatAlone (x0 + 1) x2 (σ.1 (x0 + 1) 10) σ) (fun v3 σ2 => bbd (f_X4_sitters x1 x2 σ2) (fun v6 σ5 => bbd (f_J6_bitCount_0f7a4 v6 σ5) (fun v9 σ8 => some ((v3 + ((3 : Int32) * v9)), σ8))))
set_option maxHeartbeats 4000000 in
set_option maxRecDepth 20000 in
theorem e_X7_warmth_0 {X : bX} {l : Launch} {G : bG} {ρ : Nat → Nat} {A : Nat → Prop} {d : Nat} {r : Int32} {σ' : bSto} (C : bCX X cX7_warmth RX7 (d + 2)) (Hh : bH X l G bSHf ρ A 3) (Rt : bRX X (some .int) (some (.int r)) σ') (x0 : Nat) (hx0 : kR x0) (x1 : Nat) (hx1 : kN x1) (x2 : Int32) (σ : bSto) (hF : f_X7_warmth x0 x1 x2 σ = some (r, σ')) : bAJ X 0 [(0, .ref x0), (1, .ref x1), (2, .int x2)] [] σ := by
  rw [f_X7_warmth] at hF
  refine b_aload_n (pc := 0) C dX7_warmth_0 rfl 0 rfl ?_
  refine b_getS (pc := 1) C dX7_warmth_1 fl_X7_12 (Hh.1 _ _ (shR hx0)) rfl ?_
  refine b_iload_n (pc := 4) C dX7_warmth_4 rfl 2 rfl ?_
  refine b_aload_n (pc := 5) C dX7_warmth_5 rfl 0 rfl ?_
  refine b_getS (pc := 6) C dX7_warmth_6 fl_X7_12 (Hh.1 _ _ (shR hx0)) rfl ?_
  refine b_getI (pc := 9) C dX7_warmth_9 fl_X7_79 (Hh.1 _ _ (shH (kk_7_0 hx0))) rfl ?_
  obtain ⟨v3, σ2, hc1, hF⟩ := bbd_e hF
  refine b_cV2i (d' := (d + 1)) (pc := 12) C dX7_warmth_12 mm_X7_82 (Hh.1 _ _ (shH (kk_7_0 hx0))) rfl (Nat.le_of_ble_eq_true rfl) (by omega) (Hh.2.2 _ _ _ _ _ _ _ _ _ (lvl_eq (by omega) (e_X3_heatAlone (d + 0) _ (kk_7_0 hx0) x2 (σ.1 (x0 + 1) 10) _ _ _ hc1))) ?_
  refine b_iconst (pc := 15) C dX7_warmth_15 ic_3 ?_
  refine b_aload_n (pc := 16) C dX7_warmth_16 rfl 1 rfl ?_
  refine b_iload_n (pc := 17) C dX7_warmth_17 rfl 2 rfl ?_
  obtain ⟨v6, σ5, hc4, hF⟩ := bbd_e hF
  refine b_cV1i (d' := (d + 1)) (pc := 18) C dX7_warmth_18 mm_X7_59 (Hh.1 _ _ (shN hx1)) rfl (Nat.le_of_ble_eq_true rfl) (by omega) (Hh.2.2 _ _ _ _ _ _ _ _ _ (lvl_eq (by omega) (e_X4_sitters (d + 1) _ hx1 x2 _ _ _ hc4))) ?_
  obtain ⟨v9, σ8, hc7, hF⟩ := bbd_e hF
  refine b_cS1i (d' := (d + 1)) (pc := 21) C dX7_warmth_21 mm_X7_63 (Nat.le_of_ble_eq_true rfl) (by omega) (Hh.2.2 _ _ _ _ _ _ _ _ _ (lvl_eq (by omega) (e_J6_bitCount_0f7a4 (d + 1) v6 _ _ _ hc7))) ?_
  refine b_imul (pc := 24) C dX7_warmth_24 ?_
  refine b_iadd (pc := 25) C dX7_warmth_25 ?_
  exact b_iret (pc := 26) C Rt dX7_warmth_26 hF
set_option maxHeartbeats 4000000 in
set_option maxRecDepth 20000 in
theorem e_X7_warmth {l : Launch} {G : bG} {ρ : Nat → Nat} {A : Nat → Prop} (d : Nat) (x0 : Nat) (hx0 : kR x0) (x1 : Nat) (hx1 : kN x1) (x2 : Int32) (σ : bSto) (r : Int32) (σ' : bSto) (hF : f_X7_warmth x0 x1 x2 σ = some (r, σ')) : bEv l G bSHf ρ A yX7_warmth cX7_warmth 3 (some .int) (d + 2) [.ref x0, .ref x1, .int x2] σ (some (.int r)) σ' := b_met (d := d + 2) (by decide +kernel) (Nat.le_of_ble_eq_true rfl) rfl (fun X C Rt h1 h2 h3 => e_X7_warmth_0 C ⟨fun o q h => by rw [h1]; exact h, fun i h => by rw [h2]; exact h, h3⟩ Rt _ hx0 _ hx1 _ _ hF)
/-! BenchColony$Room.isContent -/
def f_X7_isContent (x0 : Nat) (x1 : Nat) (x2 : Int32) (x3 : Int32) (σ : bSto) : Option (Int32 × bSto) := if x2 < 0 ∨ 7 ≤ x2.toNatClampNeg then none else blet (σ.1 (x1 + 1) x2.toNatClampNeg) (fun x4_2 => bbd (f_X3_has (x0 + 1) x4_2 σ) (fun v6 σ5 => (if v6 = 0 then some ((0 : Int32), σ5) else bbd (f_X3_heatAlone (x0 + 1) x4_2 x3 σ5) (fun v10 σ9 => if x2 < 0 ∨ 7 ≤ x2.toNatClampNeg then none else (if (σ9.1 ((x0 + 7) + 3) x2.toNatClampNeg) ≤ v10 then if x2 < 0 ∨ 7 ≤ x2.toNatClampNeg then none else (if (σ9.1 ((x0 + 7) + 1) x2.toNatClampNeg) = (2 : Int32) then bbd (f_X4_sitters x1 x4_2 σ9) (fun v17 σ16 => bbd (f_X2_gentlemen (x0 + 7) σ16) (fun v20 σ19 => (if (v17 &&& v20) = 0 then some ((1 : Int32), σ19) else some ((0 : Int32), σ19)))) else some ((1 : Int32), σ9)) else some ((0 : Int32), σ9))))))
set_option maxHeartbeats 4000000 in
set_option maxRecDepth 20000 in
theorem e_X7_isContent_0 {X : bX} {l : Launch} {G : bG} {ρ : Nat → Nat} {A : Nat → Prop} {d : Nat} {r : Int32} {σ' : bSto} (C : bCX X cX7_isContent RX7 (d + 2)) (Hh : bH X l G bSHf ρ A 5) (Rt : bRX X (some .boolean) (some (.int r)) σ') (x0 : Nat) (hx0 : kR x0) (x1 : Nat) (hx1 : kN x1) (x2 : Int32) (x3 : Int32) (σ : bSto) (hF : f_X7_isContent x0 x1 x2 x3 σ = some (r, σ')) : bAJ X 0 [(0, .ref x0), (1, .ref x1), (2, .int x2), (3, .int x3)] [] σ := by
  rw [f_X7_isContent] at hF
  refine b_aload_n (pc := 0) C dX7_isContent_0 rfl 1 rfl ?_
  refine b_getS (pc := 1) C dX7_isContent_1 fl_X7_97 (Hh.1 _ _ (shN hx1)) rfl ?_
  refine b_iload_n (pc := 4) C dX7_isContent_4 rfl 2 rfl ?_
  obtain ⟨hb1, hF⟩ := bif_n hF
  refine b_iald (pc := 5) C dX7_isContent_5 (Hh.1 _ _ (sa_4_0 hx1)) hb1 ?_
  obtain ⟨x4_2, e3, hF⟩ := blet_e hF
  refine b_istore (L' := [(4, .int x4_2), (0, .ref x0), (1, .ref x1), (2, .int x2), (3, .int x3)]) (pc := 6) C dX7_isContent_6 e3 (Hh.2.1 _ (Nat.le_of_ble_eq_true rfl)) rfl ?_
  refine b_aload_n (pc := 8) C dX7_isContent_8 rfl 1 rfl ?_
  refine b_getS (pc := 9) C dX7_isContent_9 fl_X7_12 (Hh.1 _ _ (shR hx0)) rfl ?_
  refine b_iload (pc := 12) C dX7_isContent_12 0 rfl ?_
  obtain ⟨v6, σ5, hc4, hF⟩ := bbd_e hF
  refine b_cV1i (d' := (d + 1)) (pc := 14) C dX7_isContent_14 mm_X7_100 (Hh.1 _ _ (shH (kk_7_0 hx0))) rfl (Nat.le_of_ble_eq_true rfl) (by omega) (Hh.2.2 _ _ _ _ _ _ _ _ _ (lvl_eq (by omega) (e_X3_has (d + 1) _ (kk_7_0 hx0) x4_2 _ _ _ hc4))) ?_
  refine b_if_eq (tgt := 42) (pc := 17) C dX7_isContent_17 rfl (fun hc7 => ?_) (fun hc7 => ?_)
  · rw [if_pos hc7] at hF
    refine b_iconst (pc := 42) C dX7_isContent_42 ic_0 ?_
    exact b_zret (pc := 43) C Rt dX7_isContent_43 rfl hF
  · rw [if_neg hc7] at hF
    refine b_aload_n (pc := 20) C dX7_isContent_20 rfl 1 rfl ?_
    refine b_getS (pc := 21) C dX7_isContent_21 fl_X7_12 (Hh.1 _ _ (shR hx0)) rfl ?_
    refine b_iload (pc := 24) C dX7_isContent_24 0 rfl ?_
    refine b_iload_n (pc := 26) C dX7_isContent_26 rfl 4 rfl ?_
    obtain ⟨v10, σ9, hc8, hF⟩ := bbd_e hF
    refine b_cV2i (d' := (d + 1)) (pc := 27) C dX7_isContent_27 mm_X7_82 (Hh.1 _ _ (shH (kk_7_0 hx0))) rfl (Nat.le_of_ble_eq_true rfl) (by omega) (Hh.2.2 _ _ _ _ _ _ _ _ _ (lvl_eq (by omega) (e_X3_heatAlone (d + 0) _ (kk_7_0 hx0) x4_2 x3 _ _ _ hc8))) ?_
    refine b_aload_n (pc := 30) C dX7_isContent_30 rfl 1 rfl ?_
    refine b_getS (pc := 31) C dX7_isContent_31 fl_X7_21 (Hh.1 _ _ (shR hx0)) rfl ?_
    refine b_getS (pc := 34) C dX7_isContent_34 fl_X7_86 (Hh.1 _ _ (shF (kk_7_1 hx0))) rfl ?_
    refine b_iload_n (pc := 37) C dX7_isContent_37 rfl 3 rfl ?_
    obtain ⟨hb11, hF⟩ := bif_n hF
    refine b_iald (pc := 38) C dX7_isContent_38 (Hh.1 _ _ (sa_2_2 (kk_7_1 hx0))) hb11 ?_
    refine b_icmp_ge (tgt := 44) (pc := 39) C dX7_isContent_39 rfl (fun hc12 => ?_) (fun hc12 => ?_)
    · rw [if_pos hc12] at hF
      refine b_aload_n (pc := 44) C dX7_isContent_44 rfl 1 rfl ?_
      refine b_getS (pc := 45) C dX7_isContent_45 fl_X7_21 (Hh.1 _ _ (shR hx0)) rfl ?_
      refine b_getS (pc := 48) C dX7_isContent_48 fl_X7_49 (Hh.1 _ _ (shF (kk_7_1 hx0))) rfl ?_
      refine b_iload_n (pc := 51) C dX7_isContent_51 rfl 3 rfl ?_
      obtain ⟨hb13, hF⟩ := bif_n hF
      refine b_iald (pc := 52) C dX7_isContent_52 (Hh.1 _ _ (sa_2_0 (kk_7_1 hx0))) hb13 ?_
      refine b_iconst (pc := 53) C dX7_isContent_53 ic_2 ?_
      refine b_icmp_ne (tgt := 74) (pc := 54) C dX7_isContent_54 rfl (fun hc14 => ?_) (fun hc14 => ?_)
      · rw [if_neg hc14] at hF
        refine b_iconst (pc := 74) C dX7_isContent_74 ic_1 ?_
        refine b_goto (tgt := 79) (pc := 75) C dX7_isContent_75 rfl ?_
        exact b_zret (pc := 79) C Rt dX7_isContent_79 rfl hF
      · rw [if_pos hc14] at hF
        refine b_aload_n (pc := 57) C dX7_isContent_57 rfl 2 rfl ?_
        refine b_iload (pc := 58) C dX7_isContent_58 0 rfl ?_
        obtain ⟨v17, σ16, hc15, hF⟩ := bbd_e hF
        refine b_cV1i (d' := (d + 1)) (pc := 60) C dX7_isContent_60 mm_X7_59 (Hh.1 _ _ (shN hx1)) rfl (Nat.le_of_ble_eq_true rfl) (by omega) (Hh.2.2 _ _ _ _ _ _ _ _ _ (lvl_eq (by omega) (e_X4_sitters (d + 1) _ hx1 x4_2 _ _ _ hc15))) ?_
        refine b_aload_n (pc := 63) C dX7_isContent_63 rfl 1 rfl ?_
        refine b_getS (pc := 64) C dX7_isContent_64 fl_X7_21 (Hh.1 _ _ (shR hx0)) rfl ?_
        obtain ⟨v20, σ19, hc18, hF⟩ := bbd_e hF
        refine b_cV0i (d' := (d + 1)) (pc := 67) C dX7_isContent_67 mm_X7_104 (Hh.1 _ _ (shF (kk_7_1 hx0))) rfl (Nat.le_of_ble_eq_true rfl) (by omega) (Hh.2.2 _ _ _ _ _ _ _ _ _ (lvl_eq (by omega) (e_X2_gentlemen (d + 0) _ (kk_7_1 hx0) _ _ _ hc18))) ?_
        refine b_iand (pc := 70) C dX7_isContent_70 ?_
        refine b_if_ne (tgt := 78) (pc := 71) C dX7_isContent_71 rfl (fun hc21 => ?_) (fun hc21 => ?_)
        · rw [if_neg hc21] at hF
          refine b_iconst (pc := 78) C dX7_isContent_78 ic_0 ?_
          exact b_zret (pc := 79) C Rt dX7_isContent_79 rfl hF
        · rw [if_pos hc21] at hF
          refine b_iconst (pc := 74) C dX7_isContent_74 ic_1 ?_
          refine b_goto (tgt := 79) (pc := 75) C dX7_isContent_75 rfl ?_
          exact b_zret (pc := 79) C Rt dX7_isContent_79 rfl hF
    · rw [if_neg hc12] at hF
      refine b_iconst (pc := 42) C dX7_isContent_42 ic_0 ?_
      exact b_zret (pc := 43) C Rt dX7_isContent_43 rfl hF
set_option maxHeartbeats 4000000 in
set_option maxRecDepth 20000 in
theorem e_X7_isContent {l : Launch} {G : bG} {ρ : Nat → Nat} {A : Nat → Prop} (d : Nat) (x0 : Nat) (hx0 : kR x0) (x1 : Nat) (hx1 : kN x1) (x2 : Int32) (x3 : Int32) (σ : bSto) (r : Int32) (σ' : bSto) (hF : f_X7_isContent x0 x1 x2 x3 σ = some (r, σ')) : bEv l G bSHf ρ A yX7_isContent cX7_isContent 5 (some .boolean) (d + 2) [.ref x0, .ref x1, .int x2, .int x3] σ (some (.int r)) σ' := b_met (d := d + 2) (by decide +kernel) (Nat.le_of_ble_eq_true rfl) rfl (fun X C Rt h1 h2 h3 => e_X7_isContent_0 C ⟨fun o q h => by rw [h1]; exact h, fun i h => by rw [h2]; exact h, h3⟩ Rt _ hx0 _ hx1 _ _ _ hF)
/-! BenchColony$Room.contentBits -/
def f_X7_contentBits_L5 : Nat → Nat → Nat → Int32 → Int32 → Int32 → bSto → Option (Int32 × bSto)
  | 0, _, _, _, _, _, _ => none
  | n + 1, x0, x1, x2, x3, x4, σ => (if (σ.1 (x0 + 7) 7) ≤ x4 then some (x3, σ) else bbd (f_X7_isContent x0 x1 x4 x2 σ) (fun v4 σ3 => (if v4 = 0 then blet (x4 + (1 : Int32)) (fun x4_6 => f_X7_contentBits_L5 n x0 x1 x2 x3 x4_6 σ3) else blet (x3 ||| ((1 : Int32) <<< (x4 &&& 31))) (fun x3_8 => blet (x4 + (1 : Int32)) (fun x4_10 => f_X7_contentBits_L5 n x0 x1 x2 x3_8 x4_10 σ3)))))
def f_X7_contentBits (x0 : Nat) (x1 : Nat) (x2 : Int32) (σ : bSto) : Option (Int32 × bSto) := bl1 (f_X7_contentBits_L5 bFU x0 x1 x2 (0 : Int32) (0 : Int32) σ) (fun x3_1 σ2 => some (x3_1, σ2))
set_option maxHeartbeats 4000000 in
set_option maxRecDepth 20000 in
theorem e_X7_contentBits_L5 {X : bX} {l : Launch} {G : bG} {ρ : Nat → Nat} {A : Nat → Prop} {d : Nat} {r : Int32} {σ' : bSto} (C : bCX X cX7_contentBits RX7 (d + 3)) (Hh : bH X l G bSHf ρ A 5) (Rt : bRX X (some .int) (some (.int r)) σ') : ∀ (n : Nat) (x0 : Nat) (hx0 : kR x0) (x1 : Nat) (hx1 : kN x1) (x2 : Int32) (x3 : Int32) (x4 : Int32) (σ : bSto) (q : (Int32 × bSto)), f_X7_contentBits_L5 n x0 x1 x2 x3 x4 σ = some q → (∀ (x3 : Int32) (s : bSto), q = (x3, s) → bAJ X 41 [(3, .int x3)] [] s) → bAJ X 5 [(0, .ref x0), (1, .ref x1), (2, .int x2), (3, .int x3), (4, .int x4)] [] σ := by
  intro n
  induction n with
  | zero => intro x0 hx0 x1 hx1 x2 x3 x4 σ q hF; rw [f_X7_contentBits_L5] at hF; cases hF
  | succ n ih =>
    intro x0 hx0 x1 hx1 x2 x3 x4 σ q hF hx
    rw [f_X7_contentBits_L5] at hF
    refine b_iload (pc := 5) C dX7_contentBits_5 4 rfl ?_
    refine b_aload_n (pc := 7) C dX7_contentBits_7 rfl 0 rfl ?_
    refine b_getS (pc := 8) C dX7_contentBits_8 fl_X7_21 (Hh.1 _ _ (shR hx0)) rfl ?_
    refine b_getI (pc := 11) C dX7_contentBits_11 fl_X7_108 (Hh.1 _ _ (shF (kk_7_1 hx0))) rfl ?_
    refine b_icmp_ge (tgt := 41) (pc := 14) C dX7_contentBits_14 rfl (fun hc1 => ?_) (fun hc1 => ?_)
    · rw [if_pos hc1] at hF
      exact b_sub [3] rfl (hx _ _ (Option.some.inj hF).symm )
    · rw [if_neg hc1] at hF
      refine b_aload_n (pc := 17) C dX7_contentBits_17 rfl 0 rfl ?_
      refine b_aload_n (pc := 18) C dX7_contentBits_18 rfl 1 rfl ?_
      refine b_iload (pc := 19) C dX7_contentBits_19 4 rfl ?_
      refine b_iload_n (pc := 21) C dX7_contentBits_21 rfl 2 rfl ?_
      obtain ⟨v4, σ3, hc2, hF⟩ := bbd_e hF
      refine b_cV3i (d' := (d + 2)) (pc := 22) C dX7_contentBits_22 mm_X7_109 (Hh.1 _ _ (shR hx0)) rfl (Nat.le_of_ble_eq_true rfl) (by omega) (Hh.2.2 _ _ _ _ _ _ _ _ _ (lvl_eq (by omega) (e_X7_isContent (d + 0) _ hx0 _ hx1 x4 x2 _ _ _ hc2))) ?_
      refine b_if_eq (tgt := 35) (pc := 25) C dX7_contentBits_25 rfl (fun hc5 => ?_) (fun hc5 => ?_)
      · rw [if_pos hc5] at hF
        obtain ⟨x4_6, e7, hF⟩ := blet_e hF
        refine b_iinc (L' := [(4, .int x4_6), (0, .ref x0), (1, .ref x1), (2, .int x2), (3, .int x3)]) (pc := 35) C dX7_contentBits_35 4 rfl ic_1 e7 (Hh.2.1 _ (Nat.le_of_ble_eq_true rfl)) rfl ?_
        refine b_goto (tgt := 5) (pc := 38) C dX7_contentBits_38 rfl ?_
        exact b_sub [1, 2, 3, 4, 0] rfl (ih _ hx0 _ hx1 x2 x3 x4_6 _ _ hF hx)
      · rw [if_neg hc5] at hF
        refine b_iload_n (pc := 28) C dX7_contentBits_28 rfl 3 rfl ?_
        refine b_iconst (pc := 29) C dX7_contentBits_29 ic_1 ?_
        refine b_iload (pc := 30) C dX7_contentBits_30 4 rfl ?_
        refine b_ishl (pc := 32) C dX7_contentBits_32 ?_
        refine b_ior (pc := 33) C dX7_contentBits_33 ?_
        obtain ⟨x3_8, e9, hF⟩ := blet_e hF
        refine b_istore_n (L' := [(3, .int x3_8), (0, .ref x0), (1, .ref x1), (2, .int x2), (4, .int x4)]) (pc := 34) C dX7_contentBits_34 rfl e9 (Hh.2.1 _ (Nat.le_of_ble_eq_true rfl)) rfl ?_
        obtain ⟨x4_10, e11, hF⟩ := blet_e hF
        refine b_iinc (L' := [(4, .int x4_10), (3, .int x3_8), (0, .ref x0), (1, .ref x1), (2, .int x2)]) (pc := 35) C dX7_contentBits_35 4 rfl ic_1 e11 (Hh.2.1 _ (Nat.le_of_ble_eq_true rfl)) rfl ?_
        refine b_goto (tgt := 5) (pc := 38) C dX7_contentBits_38 rfl ?_
        exact b_sub [2, 3, 4, 1, 0] rfl (ih _ hx0 _ hx1 x2 x3_8 x4_10 _ _ hF hx)
set_option maxHeartbeats 4000000 in
set_option maxRecDepth 20000 in
theorem e_X7_contentBits_0 {X : bX} {l : Launch} {G : bG} {ρ : Nat → Nat} {A : Nat → Prop} {d : Nat} {r : Int32} {σ' : bSto} (C : bCX X cX7_contentBits RX7 (d + 3)) (Hh : bH X l G bSHf ρ A 5) (Rt : bRX X (some .int) (some (.int r)) σ') (x0 : Nat) (hx0 : kR x0) (x1 : Nat) (hx1 : kN x1) (x2 : Int32) (σ : bSto) (hF : f_X7_contentBits x0 x1 x2 σ = some (r, σ')) : bAJ X 0 [(0, .ref x0), (1, .ref x1), (2, .int x2)] [] σ := by
  rw [f_X7_contentBits] at hF
  refine b_iconst (pc := 0) C dX7_contentBits_0 ic_0 ?_
  refine b_istore_n (L' := [(3, .int (0 : Int32)), (0, .ref x0), (1, .ref x1), (2, .int x2)]) (pc := 1) C dX7_contentBits_1 rfl rfl (Hh.2.1 _ (Nat.le_of_ble_eq_true rfl)) rfl ?_
  refine b_iconst (pc := 2) C dX7_contentBits_2 ic_0 ?_
  refine b_istore (L' := [(4, .int (0 : Int32)), (3, .int (0 : Int32)), (0, .ref x0), (1, .ref x1), (2, .int x2)]) (pc := 3) C dX7_contentBits_3 rfl (Hh.2.1 _ (Nat.le_of_ble_eq_true rfl)) rfl ?_
  obtain ⟨x3_1, σ2, hq1, hF⟩ := bl1_e hF
  refine b_sub [2, 3, 4, 1, 0] rfl (e_X7_contentBits_L5 C Hh Rt bFU _ hx0 _ hx1 x2 (0 : Int32) (0 : Int32) _ _ hq1 (fun _ _ e  => ?_))
  cases e
  refine b_iload_n (pc := 41) C dX7_contentBits_41 rfl 0 rfl ?_
  exact b_iret (pc := 42) C Rt dX7_contentBits_42 hF
set_option maxHeartbeats 4000000 in
set_option maxRecDepth 20000 in
theorem e_X7_contentBits {l : Launch} {G : bG} {ρ : Nat → Nat} {A : Nat → Prop} (d : Nat) (x0 : Nat) (hx0 : kR x0) (x1 : Nat) (hx1 : kN x1) (x2 : Int32) (σ : bSto) (r : Int32) (σ' : bSto) (hF : f_X7_contentBits x0 x1 x2 σ = some (r, σ')) : bEv l G bSHf ρ A yX7_contentBits cX7_contentBits 5 (some .int) (d + 3) [.ref x0, .ref x1, .int x2] σ (some (.int r)) σ' := b_met (d := d + 3) (by decide +kernel) (Nat.le_of_ble_eq_true rfl) rfl (fun X C Rt h1 h2 h3 => e_X7_contentBits_0 C ⟨fun o q h => by rw [h1]; exact h, fun i h => by rw [h2]; exact h, h3⟩ Rt _ hx0 _ hx1 _ _ hF)
/-! BenchColony$Room.warmestFor -/
def f_X7_warmestFor_L9 : Nat → Nat → Nat → Int32 → Int32 → Int32 → Int32 → bSto → Option (Int32 × bSto)
  | 0, _, _, _, _, _, _, _ => none
  | n + 1, x0, x1, x2, x3, x4, x5, σ => (if (σ.1 (x0 + 1) 5) ≤ x5 then some (x3, σ) else bbd (f_X7_allows x0 x2 x5 σ) (fun v4 σ3 => (if v4 = 0 then blet (x5 + (1 : Int32)) (fun x5_6 => f_X7_warmestFor_L9 n x0 x1 x2 x3 x4 x5_6 σ3) else bbd (f_X7_hasFreeSeat x0 x1 x5 σ3) (fun v10 σ9 => (if v10 = 0 then blet (x5 + (1 : Int32)) (fun x5_12 => f_X7_warmestFor_L9 n x0 x1 x2 x3 x4 x5_12 σ9) else bbd (f_X7_warmth x0 x1 x5 σ9) (fun v16 σ15 => (if v16 ≤ x4 then blet (x5 + (1 : Int32)) (fun x5_18 => f_X7_warmestFor_L9 n x0 x1 x2 x3 x4 x5_18 σ15) else bbd (f_X7_warmth x0 x1 x5 σ15) (fun v22 σ21 => blet (x5 + (1 : Int32)) (fun x5_23 => f_X7_warmestFor_L9 n x0 x1 x2 x5 v22 x5_23 σ21)))))))))
def f_X7_warmestFor (x0 : Nat) (x1 : Nat) (x2 : Int32) (σ : bSto) : Option (Int32 × bSto) := bl1 (f_X7_warmestFor_L9 bFU x0 x1 x2 (-2 : Int32) (-1 : Int32) (0 : Int32) σ) (fun x3_1 σ2 => some (x3_1, σ2))
set_option maxHeartbeats 4000000 in
set_option maxRecDepth 20000 in
theorem e_X7_warmestFor_L9 {X : bX} {l : Launch} {G : bG} {ρ : Nat → Nat} {A : Nat → Prop} {d : Nat} {r : Int32} {σ' : bSto} (C : bCX X cX7_warmestFor RX7 (d + 3)) (Hh : bH X l G bSHf ρ A 6) (Rt : bRX X (some .int) (some (.int r)) σ') : ∀ (n : Nat) (x0 : Nat) (hx0 : kR x0) (x1 : Nat) (hx1 : kN x1) (x2 : Int32) (x3 : Int32) (x4 : Int32) (x5 : Int32) (σ : bSto) (q : (Int32 × bSto)), f_X7_warmestFor_L9 n x0 x1 x2 x3 x4 x5 σ = some q → (∀ (x3 : Int32) (s : bSto), q = (x3, s) → bAJ X 71 [(3, .int x3)] [] s) → bAJ X 9 [(0, .ref x0), (1, .ref x1), (2, .int x2), (3, .int x3), (4, .int x4), (5, .int x5)] [] σ := by
  intro n
  induction n with
  | zero => intro x0 hx0 x1 hx1 x2 x3 x4 x5 σ q hF; rw [f_X7_warmestFor_L9] at hF; cases hF
  | succ n ih =>
    intro x0 hx0 x1 hx1 x2 x3 x4 x5 σ q hF hx
    rw [f_X7_warmestFor_L9] at hF
    refine b_iload (pc := 9) C dX7_warmestFor_9 5 rfl ?_
    refine b_aload_n (pc := 11) C dX7_warmestFor_11 rfl 0 rfl ?_
    refine b_getS (pc := 12) C dX7_warmestFor_12 fl_X7_12 (Hh.1 _ _ (shR hx0)) rfl ?_
    refine b_getI (pc := 15) C dX7_warmestFor_15 fl_X7_71 (Hh.1 _ _ (shH (kk_7_0 hx0))) rfl ?_
    refine b_icmp_ge (tgt := 71) (pc := 18) C dX7_warmestFor_18 rfl (fun hc1 => ?_) (fun hc1 => ?_)
    · rw [if_pos hc1] at hF
      exact b_sub [3] rfl (hx _ _ (Option.some.inj hF).symm )
    · rw [if_neg hc1] at hF
      refine b_aload_n (pc := 21) C dX7_warmestFor_21 rfl 0 rfl ?_
      refine b_iload_n (pc := 22) C dX7_warmestFor_22 rfl 2 rfl ?_
      refine b_iload (pc := 23) C dX7_warmestFor_23 5 rfl ?_
      obtain ⟨v4, σ3, hc2, hF⟩ := bbd_e hF
      refine b_cV2i (d' := (d + 2)) (pc := 25) C dX7_warmestFor_25 mm_X7_75 (Hh.1 _ _ (shR hx0)) rfl (Nat.le_of_ble_eq_true rfl) (by omega) (Hh.2.2 _ _ _ _ _ _ _ _ _ (lvl_eq (by omega) (e_X7_allows (d + 2) _ hx0 x2 x5 _ _ _ hc2))) ?_
      refine b_if_eq (tgt := 65) (pc := 28) C dX7_warmestFor_28 rfl (fun hc5 => ?_) (fun hc5 => ?_)
      · rw [if_pos hc5] at hF
        obtain ⟨x5_6, e7, hF⟩ := blet_e hF
        refine b_iinc (L' := [(5, .int x5_6), (0, .ref x0), (1, .ref x1), (2, .int x2), (3, .int x3), (4, .int x4)]) (pc := 65) C dX7_warmestFor_65 5 rfl ic_1 e7 (Hh.2.1 _ (Nat.le_of_ble_eq_true rfl)) rfl ?_
        refine b_goto (tgt := 9) (pc := 68) C dX7_warmestFor_68 rfl ?_
        exact b_sub [1, 2, 3, 4, 5, 0] rfl (ih _ hx0 _ hx1 x2 x3 x4 x5_6 _ _ hF hx)
      · rw [if_neg hc5] at hF
        refine b_aload_n (pc := 31) C dX7_warmestFor_31 rfl 0 rfl ?_
        refine b_aload_n (pc := 32) C dX7_warmestFor_32 rfl 1 rfl ?_
        refine b_iload (pc := 33) C dX7_warmestFor_33 5 rfl ?_
        obtain ⟨v10, σ9, hc8, hF⟩ := bbd_e hF
        refine b_cV2i (d' := (d + 2)) (pc := 35) C dX7_warmestFor_35 mm_X7_89 (Hh.1 _ _ (shR hx0)) rfl (Nat.le_of_ble_eq_true rfl) (by omega) (Hh.2.2 _ _ _ _ _ _ _ _ _ (lvl_eq (by omega) (e_X7_hasFreeSeat (d + 1) _ hx0 _ hx1 x5 _ _ _ hc8))) ?_
        refine b_if_eq (tgt := 65) (pc := 38) C dX7_warmestFor_38 rfl (fun hc11 => ?_) (fun hc11 => ?_)
        · rw [if_pos hc11] at hF
          obtain ⟨x5_12, e13, hF⟩ := blet_e hF
          refine b_iinc (L' := [(5, .int x5_12), (0, .ref x0), (1, .ref x1), (2, .int x2), (3, .int x3), (4, .int x4)]) (pc := 65) C dX7_warmestFor_65 5 rfl ic_1 e13 (Hh.2.1 _ (Nat.le_of_ble_eq_true rfl)) rfl ?_
          refine b_goto (tgt := 9) (pc := 68) C dX7_warmestFor_68 rfl ?_
          exact b_sub [1, 2, 3, 4, 5, 0] rfl (ih _ hx0 _ hx1 x2 x3 x4 x5_12 _ _ hF hx)
        · rw [if_neg hc11] at hF
          refine b_aload_n (pc := 41) C dX7_warmestFor_41 rfl 0 rfl ?_
          refine b_aload_n (pc := 42) C dX7_warmestFor_42 rfl 1 rfl ?_
          refine b_iload (pc := 43) C dX7_warmestFor_43 5 rfl ?_
          obtain ⟨v16, σ15, hc14, hF⟩ := bbd_e hF
          refine b_cV2i (d' := (d + 2)) (pc := 45) C dX7_warmestFor_45 mm_X7_93 (Hh.1 _ _ (shR hx0)) rfl (Nat.le_of_ble_eq_true rfl) (by omega) (Hh.2.2 _ _ _ _ _ _ _ _ _ (lvl_eq (by omega) (e_X7_warmth (d + 0) _ hx0 _ hx1 x5 _ _ _ hc14))) ?_
          refine b_iload (pc := 48) C dX7_warmestFor_48 4 rfl ?_
          refine b_icmp_le (tgt := 65) (pc := 50) C dX7_warmestFor_50 rfl (fun hc17 => ?_) (fun hc17 => ?_)
          · rw [if_pos hc17] at hF
            obtain ⟨x5_18, e19, hF⟩ := blet_e hF
            refine b_iinc (L' := [(5, .int x5_18), (0, .ref x0), (1, .ref x1), (2, .int x2), (3, .int x3), (4, .int x4)]) (pc := 65) C dX7_warmestFor_65 5 rfl ic_1 e19 (Hh.2.1 _ (Nat.le_of_ble_eq_true rfl)) rfl ?_
            refine b_goto (tgt := 9) (pc := 68) C dX7_warmestFor_68 rfl ?_
            exact b_sub [1, 2, 3, 4, 5, 0] rfl (ih _ hx0 _ hx1 x2 x3 x4 x5_18 _ _ hF hx)
          · rw [if_neg hc17] at hF
            refine b_iload (pc := 53) C dX7_warmestFor_53 5 rfl ?_
            refine b_istore_n (L' := [(3, .int x5), (0, .ref x0), (1, .ref x1), (2, .int x2), (4, .int x4), (5, .int x5)]) (pc := 55) C dX7_warmestFor_55 rfl rfl (Hh.2.1 _ (Nat.le_of_ble_eq_true rfl)) rfl ?_
            refine b_aload_n (pc := 56) C dX7_warmestFor_56 rfl 1 rfl ?_
            refine b_aload_n (pc := 57) C dX7_warmestFor_57 rfl 2 rfl ?_
            refine b_iload (pc := 58) C dX7_warmestFor_58 5 rfl ?_
            obtain ⟨v22, σ21, hc20, hF⟩ := bbd_e hF
            refine b_cV2i (d' := (d + 2)) (pc := 60) C dX7_warmestFor_60 mm_X7_93 (Hh.1 _ _ (shR hx0)) rfl (Nat.le_of_ble_eq_true rfl) (by omega) (Hh.2.2 _ _ _ _ _ _ _ _ _ (lvl_eq (by omega) (e_X7_warmth (d + 0) _ hx0 _ hx1 x5 _ _ _ hc20))) ?_
            refine b_istore (L' := [(4, .int v22), (3, .int x5), (0, .ref x0), (1, .ref x1), (2, .int x2), (5, .int x5)]) (pc := 63) C dX7_warmestFor_63 rfl (Hh.2.1 _ (Nat.le_of_ble_eq_true rfl)) rfl ?_
            obtain ⟨x5_23, e24, hF⟩ := blet_e hF
            refine b_iinc (L' := [(5, .int x5_23), (4, .int v22), (3, .int x5), (0, .ref x0), (1, .ref x1), (2, .int x2)]) (pc := 65) C dX7_warmestFor_65 5 rfl ic_1 e24 (Hh.2.1 _ (Nat.le_of_ble_eq_true rfl)) rfl ?_
            refine b_goto (tgt := 9) (pc := 68) C dX7_warmestFor_68 rfl ?_
            exact b_sub [3, 4, 5, 2, 1, 0] rfl (ih _ hx0 _ hx1 x2 x5 v22 x5_23 _ _ hF hx)
set_option maxHeartbeats 4000000 in
set_option maxRecDepth 20000 in
theorem e_X7_warmestFor_0 {X : bX} {l : Launch} {G : bG} {ρ : Nat → Nat} {A : Nat → Prop} {d : Nat} {r : Int32} {σ' : bSto} (C : bCX X cX7_warmestFor RX7 (d + 3)) (Hh : bH X l G bSHf ρ A 6) (Rt : bRX X (some .int) (some (.int r)) σ') (x0 : Nat) (hx0 : kR x0) (x1 : Nat) (hx1 : kN x1) (x2 : Int32) (σ : bSto) (hF : f_X7_warmestFor x0 x1 x2 σ = some (r, σ')) : bAJ X 0 [(0, .ref x0), (1, .ref x1), (2, .int x2)] [] σ := by
  rw [f_X7_warmestFor] at hF
  refine b_bipush (pc := 0) C dX7_warmestFor_0 bp_m2 ?_
  refine b_istore_n (L' := [(3, .int (-2 : Int32)), (0, .ref x0), (1, .ref x1), (2, .int x2)]) (pc := 2) C dX7_warmestFor_2 rfl rfl (Hh.2.1 _ (Nat.le_of_ble_eq_true rfl)) rfl ?_
  refine b_iconst (pc := 3) C dX7_warmestFor_3 ic_m1 ?_
  refine b_istore (L' := [(4, .int (-1 : Int32)), (3, .int (-2 : Int32)), (0, .ref x0), (1, .ref x1), (2, .int x2)]) (pc := 4) C dX7_warmestFor_4 rfl (Hh.2.1 _ (Nat.le_of_ble_eq_true rfl)) rfl ?_
  refine b_iconst (pc := 6) C dX7_warmestFor_6 ic_0 ?_
  refine b_istore (L' := [(5, .int (0 : Int32)), (4, .int (-1 : Int32)), (3, .int (-2 : Int32)), (0, .ref x0), (1, .ref x1), (2, .int x2)]) (pc := 7) C dX7_warmestFor_7 rfl (Hh.2.1 _ (Nat.le_of_ble_eq_true rfl)) rfl ?_
  obtain ⟨x3_1, σ2, hq1, hF⟩ := bl1_e hF
  refine b_sub [3, 4, 5, 2, 1, 0] rfl (e_X7_warmestFor_L9 C Hh Rt bFU _ hx0 _ hx1 x2 (-2 : Int32) (-1 : Int32) (0 : Int32) _ _ hq1 (fun _ _ e  => ?_))
  cases e
  refine b_iload_n (pc := 71) C dX7_warmestFor_71 rfl 0 rfl ?_
  exact b_iret (pc := 72) C Rt dX7_warmestFor_72 hF
set_option maxHeartbeats 4000000 in
set_option maxRecDepth 20000 in
theorem e_X7_warmestFor {l : Launch} {G : bG} {ρ : Nat → Nat} {A : Nat → Prop} (d : Nat) (x0 : Nat) (hx0 : kR x0) (x1 : Nat) (hx1 : kN x1) (x2 : Int32) (σ : bSto) (r : Int32) (σ' : bSto) (hF : f_X7_warmestFor x0 x1 x2 σ = some (r, σ')) : bEv l G bSHf ρ A yX7_warmestFor cX7_warmestFor 6 (some .int) (d + 3) [.ref x0, .ref x1, .int x2] σ (some (.int r)) σ' := b_met (d := d + 3) (by decide +kernel) (Nat.le_of_ble_eq_true rfl) rfl (fun X C Rt h1 h2 h3 => e_X7_warmestFor_0 C ⟨fun o q h => by rw [h1]; exact h, fun i h => by rw [h2]; exact h, h3⟩ Rt _ hx0 _ hx1 _ _ hF)
/-! BenchColony$Room.rentNow -/
def f_X7_rentNow_L4 : Nat → Nat → Nat → Int32 → Int32 → bSto → Option (Int32 × bSto)
  | 0, _, _, _, _, _ => none
  | n + 1, x0, x1, x2, x3, σ => (if (σ.1 (x0 + 1) 5) ≤ x3 then some (x2, σ) else if x3 < 0 ∨ 6 ≤ x3.toNatClampNeg then none else bbd (f_X4_sitters x1 x3 σ) (fun v5 σ4 => bbd (f_J6_bitCount_0f7a4 v5 σ4) (fun v8 σ7 => blet (x2 + ((σ.1 ((x0 + 1) + 5) x3.toNatClampNeg) * v8)) (fun x2_9 => blet (x3 + (1 : Int32)) (fun x3_11 => f_X7_rentNow_L4 n x0 x1 x2_9 x3_11 σ7)))))
def f_X7_rentNow (x0 : Nat) (x1 : Nat) (σ : bSto) : Option (Int32 × bSto) := bl1 (f_X7_rentNow_L4 bFU x0 x1 (0 : Int32) (0 : Int32) σ) (fun x2_1 σ2 => some (x2_1, σ2))
set_option maxHeartbeats 4000000 in
set_option maxRecDepth 20000 in
theorem e_X7_rentNow_L4 {X : bX} {l : Launch} {G : bG} {ρ : Nat → Nat} {A : Nat → Prop} {d : Nat} {r : Int32} {σ' : bSto} (C : bCX X cX7_rentNow RX7 (d + 1)) (Hh : bH X l G bSHf ρ A 4) (Rt : bRX X (some .int) (some (.int r)) σ') : ∀ (n : Nat) (x0 : Nat) (hx0 : kR x0) (x1 : Nat) (hx1 : kN x1) (x2 : Int32) (x3 : Int32) (σ : bSto) (q : (Int32 × bSto)), f_X7_rentNow_L4 n x0 x1 x2 x3 σ = some q → (∀ (x2 : Int32) (s : bSto), q = (x2, s) → bAJ X 42 [(2, .int x2)] [] s) → bAJ X 4 [(0, .ref x0), (1, .ref x1), (2, .int x2), (3, .int x3)] [] σ := by
  intro n
  induction n with
  | zero => intro x0 hx0 x1 hx1 x2 x3 σ q hF; rw [f_X7_rentNow_L4] at hF; cases hF
  | succ n ih =>
    intro x0 hx0 x1 hx1 x2 x3 σ q hF hx
    rw [f_X7_rentNow_L4] at hF
    refine b_iload_n (pc := 4) C dX7_rentNow_4 rfl 3 rfl ?_
    refine b_aload_n (pc := 5) C dX7_rentNow_5 rfl 0 rfl ?_
    refine b_getS (pc := 6) C dX7_rentNow_6 fl_X7_12 (Hh.1 _ _ (shR hx0)) rfl ?_
    refine b_getI (pc := 9) C dX7_rentNow_9 fl_X7_71 (Hh.1 _ _ (shH (kk_7_0 hx0))) rfl ?_
    refine b_icmp_ge (tgt := 42) (pc := 12) C dX7_rentNow_12 rfl (fun hc1 => ?_) (fun hc1 => ?_)
    · rw [if_pos hc1] at hF
      exact b_sub [2] rfl (hx _ _ (Option.some.inj hF).symm )
    · rw [if_neg hc1] at hF
      refine b_iload_n (pc := 15) C dX7_rentNow_15 rfl 2 rfl ?_
      refine b_aload_n (pc := 16) C dX7_rentNow_16 rfl 0 rfl ?_
      refine b_getS (pc := 17) C dX7_rentNow_17 fl_X7_12 (Hh.1 _ _ (shR hx0)) rfl ?_
      refine b_getS (pc := 20) C dX7_rentNow_20 fl_X7_116 (Hh.1 _ _ (shH (kk_7_0 hx0))) rfl ?_
      refine b_iload_n (pc := 23) C dX7_rentNow_23 rfl 3 rfl ?_
      obtain ⟨hb2, hF⟩ := bif_n hF
      refine b_iald (pc := 24) C dX7_rentNow_24 (Hh.1 _ _ (sa_3_4 (kk_7_0 hx0))) hb2 ?_
      refine b_aload_n (pc := 25) C dX7_rentNow_25 rfl 1 rfl ?_
      refine b_iload_n (pc := 26) C dX7_rentNow_26 rfl 3 rfl ?_
      obtain ⟨v5, σ4, hc3, hF⟩ := bbd_e hF
      refine b_cV1i (d' := (d + 0)) (pc := 27) C dX7_rentNow_27 mm_X7_59 (Hh.1 _ _ (shN hx1)) rfl (Nat.le_of_ble_eq_true rfl) (by omega) (Hh.2.2 _ _ _ _ _ _ _ _ _ (lvl_eq (by omega) (e_X4_sitters (d + 0) _ hx1 x3 _ _ _ hc3))) ?_
      obtain ⟨v8, σ7, hc6, hF⟩ := bbd_e hF
      refine b_cS1i (d' := (d + 0)) (pc := 30) C dX7_rentNow_30 mm_X7_63 (Nat.le_of_ble_eq_true rfl) (by omega) (Hh.2.2 _ _ _ _ _ _ _ _ _ (lvl_eq (by omega) (e_J6_bitCount_0f7a4 (d + 0) v5 _ _ _ hc6))) ?_
      refine b_imul (pc := 33) C dX7_rentNow_33 ?_
      refine b_iadd (pc := 34) C dX7_rentNow_34 ?_
      obtain ⟨x2_9, e10, hF⟩ := blet_e hF
      refine b_istore_n (L' := [(2, .int x2_9), (0, .ref x0), (1, .ref x1), (3, .int x3)]) (pc := 35) C dX7_rentNow_35 rfl e10 (Hh.2.1 _ (Nat.le_of_ble_eq_true rfl)) rfl ?_
      obtain ⟨x3_11, e12, hF⟩ := blet_e hF
      refine b_iinc (L' := [(3, .int x3_11), (2, .int x2_9), (0, .ref x0), (1, .ref x1)]) (pc := 36) C dX7_rentNow_36 3 rfl ic_1 e12 (Hh.2.1 _ (Nat.le_of_ble_eq_true rfl)) rfl ?_
      refine b_goto (tgt := 4) (pc := 39) C dX7_rentNow_39 rfl ?_
      exact b_sub [2, 3, 1, 0] rfl (ih _ hx0 _ hx1 x2_9 x3_11 _ _ hF hx)
set_option maxHeartbeats 4000000 in
set_option maxRecDepth 20000 in
theorem e_X7_rentNow_0 {X : bX} {l : Launch} {G : bG} {ρ : Nat → Nat} {A : Nat → Prop} {d : Nat} {r : Int32} {σ' : bSto} (C : bCX X cX7_rentNow RX7 (d + 1)) (Hh : bH X l G bSHf ρ A 4) (Rt : bRX X (some .int) (some (.int r)) σ') (x0 : Nat) (hx0 : kR x0) (x1 : Nat) (hx1 : kN x1) (σ : bSto) (hF : f_X7_rentNow x0 x1 σ = some (r, σ')) : bAJ X 0 [(0, .ref x0), (1, .ref x1)] [] σ := by
  rw [f_X7_rentNow] at hF
  refine b_iconst (pc := 0) C dX7_rentNow_0 ic_0 ?_
  refine b_istore_n (L' := [(2, .int (0 : Int32)), (0, .ref x0), (1, .ref x1)]) (pc := 1) C dX7_rentNow_1 rfl rfl (Hh.2.1 _ (Nat.le_of_ble_eq_true rfl)) rfl ?_
  refine b_iconst (pc := 2) C dX7_rentNow_2 ic_0 ?_
  refine b_istore_n (L' := [(3, .int (0 : Int32)), (2, .int (0 : Int32)), (0, .ref x0), (1, .ref x1)]) (pc := 3) C dX7_rentNow_3 rfl rfl (Hh.2.1 _ (Nat.le_of_ble_eq_true rfl)) rfl ?_
  obtain ⟨x2_1, σ2, hq1, hF⟩ := bl1_e hF
  refine b_sub [2, 3, 1, 0] rfl (e_X7_rentNow_L4 C Hh Rt bFU _ hx0 _ hx1 (0 : Int32) (0 : Int32) _ _ hq1 (fun _ _ e  => ?_))
  cases e
  refine b_iload_n (pc := 42) C dX7_rentNow_42 rfl 0 rfl ?_
  exact b_iret (pc := 43) C Rt dX7_rentNow_43 hF
set_option maxHeartbeats 4000000 in
set_option maxRecDepth 20000 in
theorem e_X7_rentNow {l : Launch} {G : bG} {ρ : Nat → Nat} {A : Nat → Prop} (d : Nat) (x0 : Nat) (hx0 : kR x0) (x1 : Nat) (hx1 : kN x1) (σ : bSto) (r : Int32) (σ' : bSto) (hF : f_X7_rentNow x0 x1 σ = some (r, σ')) : bEv l G bSHf ρ A yX7_rentNow cX7_rentNow 4 (some .int) (d + 1) [.ref x0, .ref x1] σ (some (.int r)) σ' := b_met (d := d + 1) (by decide +kernel) (Nat.le_of_ble_eq_true rfl) rfl (fun X C Rt h1 h2 h3 => e_X7_rentNow_0 C ⟨fun o q h => by rw [h1]; exact h, fun i h => by rw [h2]; exact h, h3⟩ Rt _ hx0 _ hx1 _ hF)
/-! BenchColony$Room.leastHeat -/
def f_X7_leastHeat_L13 : Nat → Nat → Nat → Int32 → Int32 → bSto → Option ((Int32 × bSto) ⊕ (bSto))
  | 0, _, _, _, _, _ => none
  | n + 1, x0, x1, x2, x3, σ => (if (60 : Int32) ≤ x3 then some (.inr σ) else bbd (f_X7_contentBits x0 x1 x3 σ) (fun v4 σ3 => bbd (f_J6_bitCount_0f7a4 v4 σ3) (fun v7 σ6 => (if v7 = x2 then some (.inl (x3, σ6)) else blet (x3 + (1 : Int32)) (fun x3_9 => f_X7_leastHeat_L13 n x0 x1 x2 x3_9 σ6)))))
def f_X7_leastHeat (x0 : Nat) (x1 : Nat) (σ : bSto) : Option (Int32 × bSto) := bbd (f_X7_contentBits x0 x1 (60 : Int32) σ) (fun v3 σ2 => bbd (f_J6_bitCount_0f7a4 v3 σ2) (fun v6 σ5 => br0 (f_X7_leastHeat_L13 bFU x0 x1 v6 (1 : Int32) σ5) (fun v s => some (v, s)) (fun σ8 => some ((60 : Int32), σ8))))
set_option maxHeartbeats 4000000 in
set_option maxRecDepth 20000 in
theorem e_X7_leastHeat_L13 {X : bX} {l : Launch} {G : bG} {ρ : Nat → Nat} {A : Nat → Prop} {d : Nat} {r : Int32} {σ' : bSto} (C : bCX X cX7_leastHeat RX7 (d + 4)) (Hh : bH X l G bSHf ρ A 4) (Rt : bRX X (some .int) (some (.int r)) σ') : ∀ (n : Nat) (x0 : Nat) (hx0 : kR x0) (x1 : Nat) (hx1 : kN x1) (x2 : Int32) (x3 : Int32) (σ : bSto) (q : ((Int32 × bSto) ⊕ (bSto))), f_X7_leastHeat_L13 n x0 x1 x2 x3 σ = some q → (∀ (v : Int32) (s : bSto), q = .inl (v, s) → some (v, s) = some (r, σ')) → (∀  (s : bSto), q = .inr s → bAJ X 40 [] [] s) → bAJ X 13 [(0, .ref x0), (1, .ref x1), (2, .int x2), (3, .int x3)] [] σ := by
  intro n
  induction n with
  | zero => intro x0 hx0 x1 hx1 x2 x3 σ q hF; rw [f_X7_leastHeat_L13] at hF; cases hF
  | succ n ih =>
    intro x0 hx0 x1 hx1 x2 x3 σ q hF hr hx
    rw [f_X7_leastHeat_L13] at hF
    refine b_iload_n (pc := 13) C dX7_leastHeat_13 rfl 3 rfl ?_
    refine b_bipush (pc := 14) C dX7_leastHeat_14 bp_60 ?_
    refine b_icmp_ge (tgt := 40) (pc := 16) C dX7_leastHeat_16 rfl (fun hc1 => ?_) (fun hc1 => ?_)
    · rw [if_pos hc1] at hF
      exact b_sub [] rfl (hx  _ (Option.some.inj hF).symm )
    · rw [if_neg hc1] at hF
      refine b_aload_n (pc := 19) C dX7_leastHeat_19 rfl 0 rfl ?_
      refine b_aload_n (pc := 20) C dX7_leastHeat_20 rfl 1 rfl ?_
      refine b_iload_n (pc := 21) C dX7_leastHeat_21 rfl 3 rfl ?_
      obtain ⟨v4, σ3, hc2, hF⟩ := bbd_e hF
      refine b_cV2i (d' := (d + 3)) (pc := 22) C dX7_leastHeat_22 mm_X7_113 (Hh.1 _ _ (shR hx0)) rfl (Nat.le_of_ble_eq_true rfl) (by omega) (Hh.2.2 _ _ _ _ _ _ _ _ _ (lvl_eq (by omega) (e_X7_contentBits (d + 0) _ hx0 _ hx1 x3 _ _ _ hc2))) ?_
      obtain ⟨v7, σ6, hc5, hF⟩ := bbd_e hF
      refine b_cS1i (d' := (d + 3)) (pc := 25) C dX7_leastHeat_25 mm_X7_63 (Nat.le_of_ble_eq_true rfl) (by omega) (Hh.2.2 _ _ _ _ _ _ _ _ _ (lvl_eq (by omega) (e_J6_bitCount_0f7a4 (d + 3) v4 _ _ _ hc5))) ?_
      refine b_iload_n (pc := 28) C dX7_leastHeat_28 rfl 2 rfl ?_
      refine b_icmp_ne (tgt := 34) (pc := 29) C dX7_leastHeat_29 rfl (fun hc8 => ?_) (fun hc8 => ?_)
      · rw [if_neg hc8] at hF
        obtain ⟨x3_9, e10, hF⟩ := blet_e hF
        refine b_iinc (L' := [(3, .int x3_9), (0, .ref x0), (1, .ref x1), (2, .int x2)]) (pc := 34) C dX7_leastHeat_34 3 rfl ic_1 e10 (Hh.2.1 _ (Nat.le_of_ble_eq_true rfl)) rfl ?_
        refine b_goto (tgt := 13) (pc := 37) C dX7_leastHeat_37 rfl ?_
        exact b_sub [1, 2, 3, 0] rfl (ih _ hx0 _ hx1 x2 x3_9 _ _ hF hr hx)
      · rw [if_pos hc8] at hF
        refine b_iload_n (pc := 32) C dX7_leastHeat_32 rfl 3 rfl ?_
        exact b_iret (pc := 33) C Rt dX7_leastHeat_33 (hr _ _ (Option.some.inj hF).symm)
set_option maxHeartbeats 4000000 in
set_option maxRecDepth 20000 in
theorem e_X7_leastHeat_0 {X : bX} {l : Launch} {G : bG} {ρ : Nat → Nat} {A : Nat → Prop} {d : Nat} {r : Int32} {σ' : bSto} (C : bCX X cX7_leastHeat RX7 (d + 4)) (Hh : bH X l G bSHf ρ A 4) (Rt : bRX X (some .int) (some (.int r)) σ') (x0 : Nat) (hx0 : kR x0) (x1 : Nat) (hx1 : kN x1) (σ : bSto) (hF : f_X7_leastHeat x0 x1 σ = some (r, σ')) : bAJ X 0 [(0, .ref x0), (1, .ref x1)] [] σ := by
  rw [f_X7_leastHeat] at hF
  refine b_aload_n (pc := 0) C dX7_leastHeat_0 rfl 0 rfl ?_
  refine b_aload_n (pc := 1) C dX7_leastHeat_1 rfl 1 rfl ?_
  refine b_bipush (pc := 2) C dX7_leastHeat_2 bp_60 ?_
  obtain ⟨v3, σ2, hc1, hF⟩ := bbd_e hF
  refine b_cV2i (d' := (d + 3)) (pc := 4) C dX7_leastHeat_4 mm_X7_113 (Hh.1 _ _ (shR hx0)) rfl (Nat.le_of_ble_eq_true rfl) (by omega) (Hh.2.2 _ _ _ _ _ _ _ _ _ (lvl_eq (by omega) (e_X7_contentBits (d + 0) _ hx0 _ hx1 (60 : Int32) _ _ _ hc1))) ?_
  obtain ⟨v6, σ5, hc4, hF⟩ := bbd_e hF
  refine b_cS1i (d' := (d + 3)) (pc := 7) C dX7_leastHeat_7 mm_X7_63 (Nat.le_of_ble_eq_true rfl) (by omega) (Hh.2.2 _ _ _ _ _ _ _ _ _ (lvl_eq (by omega) (e_J6_bitCount_0f7a4 (d + 3) v3 _ _ _ hc4))) ?_
  refine b_istore_n (L' := [(2, .int v6), (0, .ref x0), (1, .ref x1)]) (pc := 10) C dX7_leastHeat_10 rfl rfl (Hh.2.1 _ (Nat.le_of_ble_eq_true rfl)) rfl ?_
  refine b_iconst (pc := 11) C dX7_leastHeat_11 ic_1 ?_
  refine b_istore_n (L' := [(3, .int (1 : Int32)), (2, .int v6), (0, .ref x0), (1, .ref x1)]) (pc := 12) C dX7_leastHeat_12 rfl rfl (Hh.2.1 _ (Nat.le_of_ble_eq_true rfl)) rfl ?_
  rcases br0_e hF with ⟨v, s, hq7, hF⟩ | ⟨σ8, hq7, hF⟩
  · exact b_sub [2, 3, 1, 0] rfl (e_X7_leastHeat_L13 C Hh Rt bFU _ hx0 _ hx1 v6 (1 : Int32) _ _ hq7 (fun v s e => by cases e; exact hF) (fun  _ e => by cases e))
  · refine b_sub [2, 3, 1, 0] rfl (e_X7_leastHeat_L13 C Hh Rt bFU _ hx0 _ hx1 v6 (1 : Int32) _ _ hq7 (fun v s e => by cases e) (fun  _ e  => ?_))
    cases e
    refine b_bipush (pc := 40) C dX7_leastHeat_40 bp_60 ?_
    exact b_iret (pc := 42) C Rt dX7_leastHeat_42 hF
set_option maxHeartbeats 4000000 in
set_option maxRecDepth 20000 in
theorem e_X7_leastHeat {l : Launch} {G : bG} {ρ : Nat → Nat} {A : Nat → Prop} (d : Nat) (x0 : Nat) (hx0 : kR x0) (x1 : Nat) (hx1 : kN x1) (σ : bSto) (r : Int32) (σ' : bSto) (hF : f_X7_leastHeat x0 x1 σ = some (r, σ')) : bEv l G bSHf ρ A yX7_leastHeat cX7_leastHeat 4 (some .int) (d + 4) [.ref x0, .ref x1] σ (some (.int r)) σ' := b_met (d := d + 4) (by decide +kernel) (Nat.le_of_ble_eq_true rfl) rfl (fun X C Rt h1 h2 h3 => e_X7_leastHeat_0 C ⟨fun o q h => by rw [h1]; exact h, fun i h => by rw [h2]; exact h, h3⟩ Rt _ hx0 _ hx1 _ hF)
/-! BenchColony$Room.benchesFor -/
def f_X7_benchesFor_L4 : Nat → Nat → Int32 → Int32 → Int32 → bSto → Option (Int32 × bSto)
  | 0, _, _, _, _, _ => none
  | n + 1, x0, x1, x2, x3, σ => (if (σ.1 (x0 + 1) 5) ≤ x3 then some (x2, σ) else bbd (f_X7_allows x0 x1 x3 σ) (fun v4 σ3 => (if v4 = 0 then blet (x3 + (1 : Int32)) (fun x3_6 => f_X7_benchesFor_L4 n x0 x1 x2 x3_6 σ3) else bbd (f_X3_heatAlone (x0 + 1) x3 (σ3.1 (x0 + 1) 10) σ3) (fun v10 σ9 => if x1 < 0 ∨ 7 ≤ x1.toNatClampNeg then none else (if v10 < (σ9.1 ((x0 + 7) + 3) x1.toNatClampNeg) then blet (x3 + (1 : Int32)) (fun x3_13 => f_X7_benchesFor_L4 n x0 x1 x2 x3_13 σ9) else blet (x2 ||| ((1 : Int32) <<< (x3 &&& 31))) (fun x2_15 => blet (x3 + (1 : Int32)) (fun x3_17 => f_X7_benchesFor_L4 n x0 x1 x2_15 x3_17 σ9)))))))
def f_X7_benchesFor (x0 : Nat) (x1 : Int32) (σ : bSto) : Option (Int32 × bSto) := bl1 (f_X7_benchesFor_L4 bFU x0 x1 (0 : Int32) (0 : Int32) σ) (fun x2_1 σ2 => some (x2_1, σ2))
set_option maxHeartbeats 4000000 in
set_option maxRecDepth 20000 in
theorem e_X7_benchesFor_L4 {X : bX} {l : Launch} {G : bG} {ρ : Nat → Nat} {A : Nat → Prop} {d : Nat} {r : Int32} {σ' : bSto} (C : bCX X cX7_benchesFor RX7 (d + 2)) (Hh : bH X l G bSHf ρ A 4) (Rt : bRX X (some .int) (some (.int r)) σ') : ∀ (n : Nat) (x0 : Nat) (hx0 : kR x0) (x1 : Int32) (x2 : Int32) (x3 : Int32) (σ : bSto) (q : (Int32 × bSto)), f_X7_benchesFor_L4 n x0 x1 x2 x3 σ = some q → (∀ (x2 : Int32) (s : bSto), q = (x2, s) → bAJ X 63 [(2, .int x2)] [] s) → bAJ X 4 [(0, .ref x0), (1, .int x1), (2, .int x2), (3, .int x3)] [] σ := by
  intro n
  induction n with
  | zero => intro x0 hx0 x1 x2 x3 σ q hF; rw [f_X7_benchesFor_L4] at hF; cases hF
  | succ n ih =>
    intro x0 hx0 x1 x2 x3 σ q hF hx
    rw [f_X7_benchesFor_L4] at hF
    refine b_iload_n (pc := 4) C dX7_benchesFor_4 rfl 3 rfl ?_
    refine b_aload_n (pc := 5) C dX7_benchesFor_5 rfl 0 rfl ?_
    refine b_getS (pc := 6) C dX7_benchesFor_6 fl_X7_12 (Hh.1 _ _ (shR hx0)) rfl ?_
    refine b_getI (pc := 9) C dX7_benchesFor_9 fl_X7_71 (Hh.1 _ _ (shH (kk_7_0 hx0))) rfl ?_
    refine b_icmp_ge (tgt := 63) (pc := 12) C dX7_benchesFor_12 rfl (fun hc1 => ?_) (fun hc1 => ?_)
    · rw [if_pos hc1] at hF
      exact b_sub [2] rfl (hx _ _ (Option.some.inj hF).symm )
    · rw [if_neg hc1] at hF
      refine b_aload_n (pc := 15) C dX7_benchesFor_15 rfl 0 rfl ?_
      refine b_iload_n (pc := 16) C dX7_benchesFor_16 rfl 1 rfl ?_
      refine b_iload_n (pc := 17) C dX7_benchesFor_17 rfl 3 rfl ?_
      obtain ⟨v4, σ3, hc2, hF⟩ := bbd_e hF
      refine b_cV2i (d' := (d + 1)) (pc := 18) C dX7_benchesFor_18 mm_X7_75 (Hh.1 _ _ (shR hx0)) rfl (Nat.le_of_ble_eq_true rfl) (by omega) (Hh.2.2 _ _ _ _ _ _ _ _ _ (lvl_eq (by omega) (e_X7_allows (d + 1) _ hx0 x1 x3 _ _ _ hc2))) ?_
      refine b_if_eq (tgt := 57) (pc := 21) C dX7_benchesFor_21 rfl (fun hc5 => ?_) (fun hc5 => ?_)
      · rw [if_pos hc5] at hF
        obtain ⟨x3_6, e7, hF⟩ := blet_e hF
        refine b_iinc (L' := [(3, .int x3_6), (0, .ref x0), (1, .int x1), (2, .int x2)]) (pc := 57) C dX7_benchesFor_57 3 rfl ic_1 e7 (Hh.2.1 _ (Nat.le_of_ble_eq_true rfl)) rfl ?_
        refine b_goto (tgt := 4) (pc := 60) C dX7_benchesFor_60 rfl ?_
        exact b_sub [1, 2, 3, 0] rfl (ih _ hx0 x1 x2 x3_6 _ _ hF hx)
      · rw [if_neg hc5] at hF
        refine b_aload_n (pc := 24) C dX7_benchesFor_24 rfl 0 rfl ?_
        refine b_getS (pc := 25) C dX7_benchesFor_25 fl_X7_12 (Hh.1 _ _ (shR hx0)) rfl ?_
        refine b_iload_n (pc := 28) C dX7_benchesFor_28 rfl 3 rfl ?_
        refine b_aload_n (pc := 29) C dX7_benchesFor_29 rfl 0 rfl ?_
        refine b_getS (pc := 30) C dX7_benchesFor_30 fl_X7_12 (Hh.1 _ _ (shR hx0)) rfl ?_
        refine b_getI (pc := 33) C dX7_benchesFor_33 fl_X7_79 (Hh.1 _ _ (shH (kk_7_0 hx0))) rfl ?_
        obtain ⟨v10, σ9, hc8, hF⟩ := bbd_e hF
        refine b_cV2i (d' := (d + 1)) (pc := 36) C dX7_benchesFor_36 mm_X7_82 (Hh.1 _ _ (shH (kk_7_0 hx0))) rfl (Nat.le_of_ble_eq_true rfl) (by omega) (Hh.2.2 _ _ _ _ _ _ _ _ _ (lvl_eq (by omega) (e_X3_heatAlone (d + 0) _ (kk_7_0 hx0) x3 (σ3.1 (x0 + 1) 10) _ _ _ hc8))) ?_
        refine b_aload_n (pc := 39) C dX7_benchesFor_39 rfl 0 rfl ?_
        refine b_getS (pc := 40) C dX7_benchesFor_40 fl_X7_21 (Hh.1 _ _ (shR hx0)) rfl ?_
        refine b_getS (pc := 43) C dX7_benchesFor_43 fl_X7_86 (Hh.1 _ _ (shF (kk_7_1 hx0))) rfl ?_
        refine b_iload_n (pc := 46) C dX7_benchesFor_46 rfl 1 rfl ?_
        obtain ⟨hb11, hF⟩ := bif_n hF
        refine b_iald (pc := 47) C dX7_benchesFor_47 (Hh.1 _ _ (sa_2_2 (kk_7_1 hx0))) hb11 ?_
        refine b_icmp_lt (tgt := 57) (pc := 48) C dX7_benchesFor_48 rfl (fun hc12 => ?_) (fun hc12 => ?_)
        · rw [if_pos hc12] at hF
          obtain ⟨x3_13, e14, hF⟩ := blet_e hF
          refine b_iinc (L' := [(3, .int x3_13), (0, .ref x0), (1, .int x1), (2, .int x2)]) (pc := 57) C dX7_benchesFor_57 3 rfl ic_1 e14 (Hh.2.1 _ (Nat.le_of_ble_eq_true rfl)) rfl ?_
          refine b_goto (tgt := 4) (pc := 60) C dX7_benchesFor_60 rfl ?_
          exact b_sub [1, 2, 3, 0] rfl (ih _ hx0 x1 x2 x3_13 _ _ hF hx)
        · rw [if_neg hc12] at hF
          refine b_iload_n (pc := 51) C dX7_benchesFor_51 rfl 2 rfl ?_
          refine b_iconst (pc := 52) C dX7_benchesFor_52 ic_1 ?_
          refine b_iload_n (pc := 53) C dX7_benchesFor_53 rfl 3 rfl ?_
          refine b_ishl (pc := 54) C dX7_benchesFor_54 ?_
          refine b_ior (pc := 55) C dX7_benchesFor_55 ?_
          obtain ⟨x2_15, e16, hF⟩ := blet_e hF
          refine b_istore_n (L' := [(2, .int x2_15), (0, .ref x0), (1, .int x1), (3, .int x3)]) (pc := 56) C dX7_benchesFor_56 rfl e16 (Hh.2.1 _ (Nat.le_of_ble_eq_true rfl)) rfl ?_
          obtain ⟨x3_17, e18, hF⟩ := blet_e hF
          refine b_iinc (L' := [(3, .int x3_17), (2, .int x2_15), (0, .ref x0), (1, .int x1)]) (pc := 57) C dX7_benchesFor_57 3 rfl ic_1 e18 (Hh.2.1 _ (Nat.le_of_ble_eq_true rfl)) rfl ?_
          refine b_goto (tgt := 4) (pc := 60) C dX7_benchesFor_60 rfl ?_
          exact b_sub [2, 3, 1, 0] rfl (ih _ hx0 x1 x2_15 x3_17 _ _ hF hx)
set_option maxHeartbeats 4000000 in
set_option maxRecDepth 20000 in
theorem e_X7_benchesFor_0 {X : bX} {l : Launch} {G : bG} {ρ : Nat → Nat} {A : Nat → Prop} {d : Nat} {r : Int32} {σ' : bSto} (C : bCX X cX7_benchesFor RX7 (d + 2)) (Hh : bH X l G bSHf ρ A 4) (Rt : bRX X (some .int) (some (.int r)) σ') (x0 : Nat) (hx0 : kR x0) (x1 : Int32) (σ : bSto) (hF : f_X7_benchesFor x0 x1 σ = some (r, σ')) : bAJ X 0 [(0, .ref x0), (1, .int x1)] [] σ := by
  rw [f_X7_benchesFor] at hF
  refine b_iconst (pc := 0) C dX7_benchesFor_0 ic_0 ?_
  refine b_istore_n (L' := [(2, .int (0 : Int32)), (0, .ref x0), (1, .int x1)]) (pc := 1) C dX7_benchesFor_1 rfl rfl (Hh.2.1 _ (Nat.le_of_ble_eq_true rfl)) rfl ?_
  refine b_iconst (pc := 2) C dX7_benchesFor_2 ic_0 ?_
  refine b_istore_n (L' := [(3, .int (0 : Int32)), (2, .int (0 : Int32)), (0, .ref x0), (1, .int x1)]) (pc := 3) C dX7_benchesFor_3 rfl rfl (Hh.2.1 _ (Nat.le_of_ble_eq_true rfl)) rfl ?_
  obtain ⟨x2_1, σ2, hq1, hF⟩ := bl1_e hF
  refine b_sub [2, 3, 1, 0] rfl (e_X7_benchesFor_L4 C Hh Rt bFU _ hx0 x1 (0 : Int32) (0 : Int32) _ _ hq1 (fun _ _ e  => ?_))
  cases e
  refine b_iload_n (pc := 63) C dX7_benchesFor_63 rfl 0 rfl ?_
  exact b_iret (pc := 64) C Rt dX7_benchesFor_64 hF
set_option maxHeartbeats 4000000 in
set_option maxRecDepth 20000 in
theorem e_X7_benchesFor {l : Launch} {G : bG} {ρ : Nat → Nat} {A : Nat → Prop} (d : Nat) (x0 : Nat) (hx0 : kR x0) (x1 : Int32) (σ : bSto) (r : Int32) (σ' : bSto) (hF : f_X7_benchesFor x0 x1 σ = some (r, σ')) : bEv l G bSHf ρ A yX7_benchesFor cX7_benchesFor 4 (some .int) (d + 2) [.ref x0, .int x1] σ (some (.int r)) σ' := b_met (d := d + 2) (by decide +kernel) (Nat.le_of_ble_eq_true rfl) rfl (fun X C Rt h1 h2 h3 => e_X7_benchesFor_0 C ⟨fun o q h => by rw [h1]; exact h, fun i h => by rw [h2]; exact h, h3⟩ Rt _ hx0 _ _ hF)
/-! BenchColony$Room.coalWeight -/
def f_X7_coalWeight (x0 : Nat) (x1 : Nat) (x2 : Int32) (σ : bSto) : Option (Int32 × bSto) := bbd (f_X3_heatAlone (x0 + 1) x2 (σ.1 (x0 + 1) 10) σ) (fun v3 σ2 => bbd (f_X4_sitters x1 x2 σ2) (fun v6 σ5 => bbd (f_J6_bitCount_0f7a4 v6 σ5) (fun v9 σ8 => some ((v3 * v9), σ8))))
set_option maxHeartbeats 4000000 in
set_option maxRecDepth 20000 in
theorem e_X7_coalWeight_0 {X : bX} {l : Launch} {G : bG} {ρ : Nat → Nat} {A : Nat → Prop} {d : Nat} {r : Int32} {σ' : bSto} (C : bCX X cX7_coalWeight RX7 (d + 2)) (Hh : bH X l G bSHf ρ A 3) (Rt : bRX X (some .int) (some (.int r)) σ') (x0 : Nat) (hx0 : kR x0) (x1 : Nat) (hx1 : kN x1) (x2 : Int32) (σ : bSto) (hF : f_X7_coalWeight x0 x1 x2 σ = some (r, σ')) : bAJ X 0 [(0, .ref x0), (1, .ref x1), (2, .int x2)] [] σ := by
  rw [f_X7_coalWeight] at hF
  refine b_aload_n (pc := 0) C dX7_coalWeight_0 rfl 0 rfl ?_
  refine b_getS (pc := 1) C dX7_coalWeight_1 fl_X7_12 (Hh.1 _ _ (shR hx0)) rfl ?_
  refine b_iload_n (pc := 4) C dX7_coalWeight_4 rfl 2 rfl ?_
  refine b_aload_n (pc := 5) C dX7_coalWeight_5 rfl 0 rfl ?_
  refine b_getS (pc := 6) C dX7_coalWeight_6 fl_X7_12 (Hh.1 _ _ (shR hx0)) rfl ?_
  refine b_getI (pc := 9) C dX7_coalWeight_9 fl_X7_79 (Hh.1 _ _ (shH (kk_7_0 hx0))) rfl ?_
  obtain ⟨v3, σ2, hc1, hF⟩ := bbd_e hF
  refine b_cV2i (d' := (d + 1)) (pc := 12) C dX7_coalWeight_12 mm_X7_82 (Hh.1 _ _ (shH (kk_7_0 hx0))) rfl (Nat.le_of_ble_eq_true rfl) (by omega) (Hh.2.2 _ _ _ _ _ _ _ _ _ (lvl_eq (by omega) (e_X3_heatAlone (d + 0) _ (kk_7_0 hx0) x2 (σ.1 (x0 + 1) 10) _ _ _ hc1))) ?_
  refine b_aload_n (pc := 15) C dX7_coalWeight_15 rfl 1 rfl ?_
  refine b_iload_n (pc := 16) C dX7_coalWeight_16 rfl 2 rfl ?_
  obtain ⟨v6, σ5, hc4, hF⟩ := bbd_e hF
  refine b_cV1i (d' := (d + 1)) (pc := 17) C dX7_coalWeight_17 mm_X7_59 (Hh.1 _ _ (shN hx1)) rfl (Nat.le_of_ble_eq_true rfl) (by omega) (Hh.2.2 _ _ _ _ _ _ _ _ _ (lvl_eq (by omega) (e_X4_sitters (d + 1) _ hx1 x2 _ _ _ hc4))) ?_
  obtain ⟨v9, σ8, hc7, hF⟩ := bbd_e hF
  refine b_cS1i (d' := (d + 1)) (pc := 20) C dX7_coalWeight_20 mm_X7_63 (Nat.le_of_ble_eq_true rfl) (by omega) (Hh.2.2 _ _ _ _ _ _ _ _ _ (lvl_eq (by omega) (e_J6_bitCount_0f7a4 (d + 1) v6 _ _ _ hc7))) ?_
  refine b_imul (pc := 23) C dX7_coalWeight_23 ?_
  exact b_iret (pc := 24) C Rt dX7_coalWeight_24 hF
set_option maxHeartbeats 4000000 in
set_option maxRecDepth 20000 in
theorem e_X7_coalWeight {l : Launch} {G : bG} {ρ : Nat → Nat} {A : Nat → Prop} (d : Nat) (x0 : Nat) (hx0 : kR x0) (x1 : Nat) (hx1 : kN x1) (x2 : Int32) (σ : bSto) (r : Int32) (σ' : bSto) (hF : f_X7_coalWeight x0 x1 x2 σ = some (r, σ')) : bEv l G bSHf ρ A yX7_coalWeight cX7_coalWeight 3 (some .int) (d + 2) [.ref x0, .ref x1, .int x2] σ (some (.int r)) σ' := b_met (d := d + 2) (by decide +kernel) (Nat.le_of_ble_eq_true rfl) rfl (fun X C Rt h1 h2 h3 => e_X7_coalWeight_0 C ⟨fun o q h => by rw [h1]; exact h, fun i h => by rw [h2]; exact h, h3⟩ Rt _ hx0 _ hx1 _ _ hF)
/-! BenchColony$Room.coalOf -/
def f_X7_coalOf_L6 : Nat → Nat → Nat → Int32 → Int32 → Int32 → Int32 → bSto → Option (Nat × Nat × Int32 × Int32 × Int32 × bSto)
  | 0, _, _, _, _, _, _, _ => none
  | n + 1, x0, x1, x2, x3, x4, x5, σ => (if (σ.1 (x0 + 1) 5) ≤ x5 then some (x0, x1, x2, x3, x4, σ) else bbd (f_X7_coalWeight x0 x1 x5 σ) (fun v4 σ3 => blet (x4 + v4) (fun x4_5 => blet (x5 + (1 : Int32)) (fun x5_7 => f_X7_coalOf_L6 n x0 x1 x2 x3 x4_5 x5_7 σ3))))
def f_X7_coalOf_L49 : Nat → Nat → Nat → Int32 → Int32 → Int32 → Int32 → Int32 → bSto → Option (Nat × Nat × Int32 × Int32 × Int32 × Int32 × bSto)
  | 0, _, _, _, _, _, _, _, _ => none
  | n + 1, x0, x1, x2, x3, x4, x5, x6, σ => (if (σ.1 (x0 + 1) 5) ≤ x6 then some (x0, x1, x2, x3, x4, x5, σ) else bbd (f_X7_coalWeight x0 x1 x6 σ) (fun v4 σ3 => if x4 = 0 then none else blet (x5 - ((x3 * v4) / x4)) (fun x5_6 => blet (x6 + (1 : Int32)) (fun x6_8 => f_X7_coalOf_L49 n x0 x1 x2 x3 x4 x5_6 x6_8 σ3))))
def f_X7_coalOf_J152_100 (k : Nat → Nat → Int32 → Int32 → Int32 → Int32 → Int32 → Int32 → Int32 → bSto → Option (Int32 × Int32 × Int32 × Int32 × bSto)) (x0 : Nat) (x1 : Nat) (x2 : Int32) (x3 : Int32) (x4 : Int32) (x5 : Int32) (x6 : Int32) (x7 : Int32) (x8 : Int32) (σ : bSto) : Option (Int32 × Int32 × Int32 × Int32 × bSto) := blet (x7 + (1 : Int32)) (fun x7_1 => blet (x8 + (1 : Int32)) (fun x8_3 => k x0 x1 x2 x3 x4 x5 x6 x7_1 x8_3 σ))
def f_X7_coalOf_L100 : Nat → Nat → Nat → Int32 → Int32 → Int32 → Int32 → Int32 → Int32 → Int32 → bSto → Option (Int32 × Int32 × Int32 × Int32 × bSto)
  | 0, _, _, _, _, _, _, _, _, _, _ => none
  | n + 1, x0, x1, x2, x3, x4, x5, x6, x7, x8, σ => (if (σ.1 (x0 + 1) 5) ≤ x8 then some (x4, x5, x6, x7, σ) else bbd (f_X7_coalWeight x0 x1 x8 σ) (fun v4 σ3 => if x4 = 0 then none else blet ((x3 * v4) - (x3 * v4) / x4 * x4) (fun x9_6 => if x4 = 0 then none else (if (x6 - x6 / x4 * x4) < x9_6 then f_X7_coalOf_J152_100 (f_X7_coalOf_L100 n) x0 x1 x2 x3 x4 x5 x6 x7 x8 σ3 else if x4 = 0 then none else (if x9_6 = (x6 - x6 / x4 * x4) then (if x2 ≤ x8 then blet (x8 + (1 : Int32)) (fun x8_15 => f_X7_coalOf_L100 n x0 x1 x2 x3 x4 x5 x6 x7 x8_15 σ3) else f_X7_coalOf_J152_100 (f_X7_coalOf_L100 n) x0 x1 x2 x3 x4 x5 x6 x7 x8 σ3) else blet (x8 + (1 : Int32)) (fun x8_12 => f_X7_coalOf_L100 n x0 x1 x2 x3 x4 x5 x6 x7 x8_12 σ3))))))
def f_X7_coalOf (x0 : Nat) (x1 : Nat) (x2 : Int32) (x3 : Int32) (σ : bSto) : Option (Int32 × bSto) := bl5 (f_X7_coalOf_L6 bFU x0 x1 x2 x3 (0 : Int32) (0 : Int32) σ) (fun x0_1 x1_1 x2_1 x3_1 x4_1 σ2 => (if 0 < x4_1 then bl6 (f_X7_coalOf_L49 bFU x0_1 x1_1 x2_1 x3_1 x4_1 x3_1 (0 : Int32) σ2) (fun x0_4 x1_4 x2_4 x3_4 x4_4 x5_4 σ5 => bbd (f_X7_coalWeight x0_4 x1_4 x2_4 σ5) (fun v8 σ7 => blet (x3_4 * v8) (fun x6_9 => bl4 (f_X7_coalOf_L100 bFU x0_4 x1_4 x2_4 x3_4 x4_4 x5_4 x6_9 (0 : Int32) (0 : Int32) σ7) (fun x4_11 x5_11 x6_11 x7_11 σ12 => if x4_11 = 0 then none else (if x5_11 ≤ x7_11 then some (((x6_11 / x4_11) + (0 : Int32)), σ12) else some (((x6_11 / x4_11) + (1 : Int32)), σ12)))))) else some ((0 : Int32), σ2)))
set_option maxHeartbeats 4000000 in
set_option maxRecDepth 20000 in
theorem e_X7_coalOf_L6 {X : bX} {l : Launch} {G : bG} {ρ : Nat → Nat} {A : Nat → Prop} {d : Nat} {r : Int32} {σ' : bSto} (C : bCX X cX7_coalOf RX7 (d + 3)) (Hh : bH X l G bSHf ρ A 10) (Rt : bRX X (some .int) (some (.int r)) σ') : ∀ (n : Nat) (x0 : Nat) (hx0 : kR x0) (x1 : Nat) (hx1 : kN x1) (x2 : Int32) (x3 : Int32) (x4 : Int32) (x5 : Int32) (σ : bSto) (q : (Nat × Nat × Int32 × Int32 × Int32 × bSto)), f_X7_coalOf_L6 n x0 x1 x2 x3 x4 x5 σ = some q → (∀ (x0 : Nat) (x1 : Nat) (x2 : Int32) (x3 : Int32) (x4 : Int32) (s : bSto), q = (x0, x1, x2, x3, x4, s) → kR x0 → kN x1 → bAJ X 36 [(0, .ref x0), (1, .ref x1), (2, .int x2), (3, .int x3), (4, .int x4)] [] s) → bAJ X 6 [(0, .ref x0), (1, .ref x1), (2, .int x2), (3, .int x3), (4, .int x4), (5, .int x5)] [] σ := by
  intro n
  induction n with
  | zero => intro x0 hx0 x1 hx1 x2 x3 x4 x5 σ q hF; rw [f_X7_coalOf_L6] at hF; cases hF
  | succ n ih =>
    intro x0 hx0 x1 hx1 x2 x3 x4 x5 σ q hF hx
    rw [f_X7_coalOf_L6] at hF
    refine b_iload (pc := 6) C dX7_coalOf_6 5 rfl ?_
    refine b_aload_n (pc := 8) C dX7_coalOf_8 rfl 0 rfl ?_
    refine b_getS (pc := 9) C dX7_coalOf_9 fl_X7_12 (Hh.1 _ _ (shR hx0)) rfl ?_
    refine b_getI (pc := 12) C dX7_coalOf_12 fl_X7_71 (Hh.1 _ _ (shH (kk_7_0 hx0))) rfl ?_
    refine b_icmp_ge (tgt := 36) (pc := 15) C dX7_coalOf_15 rfl (fun hc1 => ?_) (fun hc1 => ?_)
    · rw [if_pos hc1] at hF
      exact b_sub [0, 1, 2, 3, 4] rfl (hx _ _ _ _ _ _ (Option.some.inj hF).symm hx0 hx1)
    · rw [if_neg hc1] at hF
      refine b_iload (pc := 18) C dX7_coalOf_18 4 rfl ?_
      refine b_aload_n (pc := 20) C dX7_coalOf_20 rfl 0 rfl ?_
      refine b_aload_n (pc := 21) C dX7_coalOf_21 rfl 1 rfl ?_
      refine b_iload (pc := 22) C dX7_coalOf_22 5 rfl ?_
      obtain ⟨v4, σ3, hc2, hF⟩ := bbd_e hF
      refine b_cV2i (d' := (d + 2)) (pc := 24) C dX7_coalOf_24 mm_X7_119 (Hh.1 _ _ (shR hx0)) rfl (Nat.le_of_ble_eq_true rfl) (by omega) (Hh.2.2 _ _ _ _ _ _ _ _ _ (lvl_eq (by omega) (e_X7_coalWeight (d + 0) _ hx0 _ hx1 x5 _ _ _ hc2))) ?_
      refine b_iadd (pc := 27) C dX7_coalOf_27 ?_
      obtain ⟨x4_5, e6, hF⟩ := blet_e hF
      refine b_istore (L' := [(4, .int x4_5), (0, .ref x0), (1, .ref x1), (2, .int x2), (3, .int x3), (5, .int x5)]) (pc := 28) C dX7_coalOf_28 e6 (Hh.2.1 _ (Nat.le_of_ble_eq_true rfl)) rfl ?_
      obtain ⟨x5_7, e8, hF⟩ := blet_e hF
      refine b_iinc (L' := [(5, .int x5_7), (4, .int x4_5), (0, .ref x0), (1, .ref x1), (2, .int x2), (3, .int x3)]) (pc := 30) C dX7_coalOf_30 5 rfl ic_1 e8 (Hh.2.1 _ (Nat.le_of_ble_eq_true rfl)) rfl ?_
      refine b_goto (tgt := 6) (pc := 33) C dX7_coalOf_33 rfl ?_
      exact b_sub [2, 3, 4, 5, 1, 0] rfl (ih _ hx0 _ hx1 x2 x3 x4_5 x5_7 _ _ hF hx)
set_option maxHeartbeats 4000000 in
set_option maxRecDepth 20000 in
theorem e_X7_coalOf_L49 {X : bX} {l : Launch} {G : bG} {ρ : Nat → Nat} {A : Nat → Prop} {d : Nat} {r : Int32} {σ' : bSto} (C : bCX X cX7_coalOf RX7 (d + 3)) (Hh : bH X l G bSHf ρ A 10) (Rt : bRX X (some .int) (some (.int r)) σ') : ∀ (n : Nat) (x0 : Nat) (hx0 : kR x0) (x1 : Nat) (hx1 : kN x1) (x2 : Int32) (x3 : Int32) (x4 : Int32) (x5 : Int32) (x6 : Int32) (σ : bSto) (q : (Nat × Nat × Int32 × Int32 × Int32 × Int32 × bSto)), f_X7_coalOf_L49 n x0 x1 x2 x3 x4 x5 x6 σ = some q → (∀ (x0 : Nat) (x1 : Nat) (x2 : Int32) (x3 : Int32) (x4 : Int32) (x5 : Int32) (s : bSto), q = (x0, x1, x2, x3, x4, x5, s) → kR x0 → kN x1 → bAJ X 84 [(0, .ref x0), (1, .ref x1), (2, .int x2), (3, .int x3), (4, .int x4), (5, .int x5)] [] s) → bAJ X 49 [(0, .ref x0), (1, .ref x1), (2, .int x2), (3, .int x3), (4, .int x4), (5, .int x5), (6, .int x6)] [] σ := by
  intro n
  induction n with
  | zero => intro x0 hx0 x1 hx1 x2 x3 x4 x5 x6 σ q hF; rw [f_X7_coalOf_L49] at hF; cases hF
  | succ n ih =>
    intro x0 hx0 x1 hx1 x2 x3 x4 x5 x6 σ q hF hx
    rw [f_X7_coalOf_L49] at hF
    refine b_iload (pc := 49) C dX7_coalOf_49 6 rfl ?_
    refine b_aload_n (pc := 51) C dX7_coalOf_51 rfl 0 rfl ?_
    refine b_getS (pc := 52) C dX7_coalOf_52 fl_X7_12 (Hh.1 _ _ (shR hx0)) rfl ?_
    refine b_getI (pc := 55) C dX7_coalOf_55 fl_X7_71 (Hh.1 _ _ (shH (kk_7_0 hx0))) rfl ?_
    refine b_icmp_ge (tgt := 84) (pc := 58) C dX7_coalOf_58 rfl (fun hc1 => ?_) (fun hc1 => ?_)
    · rw [if_pos hc1] at hF
      exact b_sub [0, 1, 2, 3, 4, 5] rfl (hx _ _ _ _ _ _ _ (Option.some.inj hF).symm hx0 hx1)
    · rw [if_neg hc1] at hF
      refine b_iload (pc := 61) C dX7_coalOf_61 5 rfl ?_
      refine b_iload_n (pc := 63) C dX7_coalOf_63 rfl 3 rfl ?_
      refine b_aload_n (pc := 64) C dX7_coalOf_64 rfl 0 rfl ?_
      refine b_aload_n (pc := 65) C dX7_coalOf_65 rfl 1 rfl ?_
      refine b_iload (pc := 66) C dX7_coalOf_66 6 rfl ?_
      obtain ⟨v4, σ3, hc2, hF⟩ := bbd_e hF
      refine b_cV2i (d' := (d + 2)) (pc := 68) C dX7_coalOf_68 mm_X7_119 (Hh.1 _ _ (shR hx0)) rfl (Nat.le_of_ble_eq_true rfl) (by omega) (Hh.2.2 _ _ _ _ _ _ _ _ _ (lvl_eq (by omega) (e_X7_coalWeight (d + 0) _ hx0 _ hx1 x6 _ _ _ hc2))) ?_
      refine b_imul (pc := 71) C dX7_coalOf_71 ?_
      refine b_iload (pc := 72) C dX7_coalOf_72 4 rfl ?_
      obtain ⟨hz5, hF⟩ := bif_n hF
      refine b_idiv (pc := 74) C dX7_coalOf_74 hz5 ?_
      refine b_isub (pc := 75) C dX7_coalOf_75 ?_
      obtain ⟨x5_6, e7, hF⟩ := blet_e hF
      refine b_istore (L' := [(5, .int x5_6), (0, .ref x0), (1, .ref x1), (2, .int x2), (3, .int x3), (4, .int x4), (6, .int x6)]) (pc := 76) C dX7_coalOf_76 e7 (Hh.2.1 _ (Nat.le_of_ble_eq_true rfl)) rfl ?_
      obtain ⟨x6_8, e9, hF⟩ := blet_e hF
      refine b_iinc (L' := [(6, .int x6_8), (5, .int x5_6), (0, .ref x0), (1, .ref x1), (2, .int x2), (3, .int x3), (4, .int x4)]) (pc := 78) C dX7_coalOf_78 6 rfl ic_1 e9 (Hh.2.1 _ (Nat.le_of_ble_eq_true rfl)) rfl ?_
      refine b_goto (tgt := 49) (pc := 81) C dX7_coalOf_81 rfl ?_
      exact b_sub [2, 3, 4, 5, 6, 1, 0] rfl (ih _ hx0 _ hx1 x2 x3 x4 x5_6 x6_8 _ _ hF hx)
set_option maxHeartbeats 4000000 in
set_option maxRecDepth 20000 in
theorem e_X7_coalOf_J152_100 {X : bX} {l : Launch} {G : bG} {ρ : Nat → Nat} {A : Nat → Prop} {d : Nat} {r : Int32} {σ' : bSto} (C : bCX X cX7_coalOf RX7 (d + 3)) (Hh : bH X l G bSHf ρ A 10) (Rt : bRX X (some .int) (some (.int r)) σ') {k : Nat → Nat → Int32 → Int32 → Int32 → Int32 → Int32 → Int32 → Int32 → bSto → Option (Int32 × Int32 × Int32 × Int32 × bSto)} (ih : ∀ (x0 : Nat) (hx0 : kR x0) (x1 : Nat) (hx1 : kN x1) (x2 : Int32) (x3 : Int32) (x4 : Int32) (x5 : Int32) (x6 : Int32) (x7 : Int32) (x8 : Int32) (σ : bSto) (q : (Int32 × Int32 × Int32 × Int32 × bSto)), k x0 x1 x2 x3 x4 x5 x6 x7 x8 σ = some q → (∀ (x4 : Int32) (x5 : Int32) (x6 : Int32) (x7 : Int32) (s : bSto), q = (x4, x5, x6, x7, s) → bAJ X 161 [(4, .int x4), (5, .int x5), (6, .int x6), (7, .int x7)] [] s) → bAJ X 100 [(0, .ref x0), (1, .ref x1), (2, .int x2), (3, .int x3), (4, .int x4), (5, .int x5), (6, .int x6), (7, .int x7), (8, .int x8)] [] σ) (x0 : Nat) (hx0 : kR x0) (x1 : Nat) (hx1 : kN x1) (x2 : Int32) (x3 : Int32) (x4 : Int32) (x5 : Int32) (x6 : Int32) (x7 : Int32) (x8 : Int32) (σ : bSto) (q : (Int32 × Int32 × Int32 × Int32 × bSto)) (hF : f_X7_coalOf_J152_100 k x0 x1 x2 x3 x4 x5 x6 x7 x8 σ = some q) : (∀ (x4 : Int32) (x5 : Int32) (x6 : Int32) (x7 : Int32) (s : bSto), q = (x4, x5, x6, x7, s) → bAJ X 161 [(4, .int x4), (5, .int x5), (6, .int x6), (7, .int x7)] [] s) → bAJ X 152 [(0, .ref x0), (1, .ref x1), (2, .int x2), (3, .int x3), (4, .int x4), (5, .int x5), (6, .int x6), (7, .int x7), (8, .int x8)] [] σ := by
  intro hx
  rw [f_X7_coalOf_J152_100] at hF
  obtain ⟨x7_1, e2, hF⟩ := blet_e hF
  refine b_iinc (L' := [(7, .int x7_1), (0, .ref x0), (1, .ref x1), (2, .int x2), (3, .int x3), (4, .int x4), (5, .int x5), (6, .int x6), (8, .int x8)]) (pc := 152) C dX7_coalOf_152 7 rfl ic_1 e2 (Hh.2.1 _ (Nat.le_of_ble_eq_true rfl)) rfl ?_
  obtain ⟨x8_3, e4, hF⟩ := blet_e hF
  refine b_iinc (L' := [(8, .int x8_3), (7, .int x7_1), (0, .ref x0), (1, .ref x1), (2, .int x2), (3, .int x3), (4, .int x4), (5, .int x5), (6, .int x6)]) (pc := 155) C dX7_coalOf_155 8 rfl ic_1 e4 (Hh.2.1 _ (Nat.le_of_ble_eq_true rfl)) rfl ?_
  refine b_goto (tgt := 100) (pc := 158) C dX7_coalOf_158 rfl ?_
  exact b_sub [2, 3, 4, 5, 6, 7, 8, 1, 0] rfl (ih _ hx0 _ hx1 x2 x3 x4 x5 x6 x7_1 x8_3 _ _ hF hx)
set_option maxHeartbeats 4000000 in
set_option maxRecDepth 20000 in
theorem e_X7_coalOf_L100 {X : bX} {l : Launch} {G : bG} {ρ : Nat → Nat} {A : Nat → Prop} {d : Nat} {r : Int32} {σ' : bSto} (C : bCX X cX7_coalOf RX7 (d + 3)) (Hh : bH X l G bSHf ρ A 10) (Rt : bRX X (some .int) (some (.int r)) σ') : ∀ (n : Nat) (x0 : Nat) (hx0 : kR x0) (x1 : Nat) (hx1 : kN x1) (x2 : Int32) (x3 : Int32) (x4 : Int32) (x5 : Int32) (x6 : Int32) (x7 : Int32) (x8 : Int32) (σ : bSto) (q : (Int32 × Int32 × Int32 × Int32 × bSto)), f_X7_coalOf_L100 n x0 x1 x2 x3 x4 x5 x6 x7 x8 σ = some q → (∀ (x4 : Int32) (x5 : Int32) (x6 : Int32) (x7 : Int32) (s : bSto), q = (x4, x5, x6, x7, s) → bAJ X 161 [(4, .int x4), (5, .int x5), (6, .int x6), (7, .int x7)] [] s) → bAJ X 100 [(0, .ref x0), (1, .ref x1), (2, .int x2), (3, .int x3), (4, .int x4), (5, .int x5), (6, .int x6), (7, .int x7), (8, .int x8)] [] σ := by
  intro n
  induction n with
  | zero => intro x0 hx0 x1 hx1 x2 x3 x4 x5 x6 x7 x8 σ q hF; rw [f_X7_coalOf_L100] at hF; cases hF
  | succ n ih =>
    intro x0 hx0 x1 hx1 x2 x3 x4 x5 x6 x7 x8 σ q hF hx
    rw [f_X7_coalOf_L100] at hF
    refine b_iload (pc := 100) C dX7_coalOf_100 8 rfl ?_
    refine b_aload_n (pc := 102) C dX7_coalOf_102 rfl 0 rfl ?_
    refine b_getS (pc := 103) C dX7_coalOf_103 fl_X7_12 (Hh.1 _ _ (shR hx0)) rfl ?_
    refine b_getI (pc := 106) C dX7_coalOf_106 fl_X7_71 (Hh.1 _ _ (shH (kk_7_0 hx0))) rfl ?_
    refine b_icmp_ge (tgt := 161) (pc := 109) C dX7_coalOf_109 rfl (fun hc1 => ?_) (fun hc1 => ?_)
    · rw [if_pos hc1] at hF
      exact b_sub [4, 5, 6, 7] rfl (hx _ _ _ _ _ (Option.some.inj hF).symm )
    · rw [if_neg hc1] at hF
      refine b_iload_n (pc := 112) C dX7_coalOf_112 rfl 3 rfl ?_
      refine b_aload_n (pc := 113) C dX7_coalOf_113 rfl 0 rfl ?_
      refine b_aload_n (pc := 114) C dX7_coalOf_114 rfl 1 rfl ?_
      refine b_iload (pc := 115) C dX7_coalOf_115 8 rfl ?_
      obtain ⟨v4, σ3, hc2, hF⟩ := bbd_e hF
      refine b_cV2i (d' := (d + 2)) (pc := 117) C dX7_coalOf_117 mm_X7_119 (Hh.1 _ _ (shR hx0)) rfl (Nat.le_of_ble_eq_true rfl) (by omega) (Hh.2.2 _ _ _ _ _ _ _ _ _ (lvl_eq (by omega) (e_X7_coalWeight (d + 0) _ hx0 _ hx1 x8 _ _ _ hc2))) ?_
      refine b_imul (pc := 120) C dX7_coalOf_120 ?_
      refine b_iload (pc := 121) C dX7_coalOf_121 4 rfl ?_
      obtain ⟨hz5, hF⟩ := bif_n hF
      refine b_irem (pc := 123) C dX7_coalOf_123 hz5 ?_
      obtain ⟨x9_6, e7, hF⟩ := blet_e hF
      refine b_istore (L' := [(9, .int x9_6), (0, .ref x0), (1, .ref x1), (2, .int x2), (3, .int x3), (4, .int x4), (5, .int x5), (6, .int x6), (7, .int x7), (8, .int x8)]) (pc := 124) C dX7_coalOf_124 e7 (Hh.2.1 _ (Nat.le_of_ble_eq_true rfl)) rfl ?_
      refine b_iload (pc := 126) C dX7_coalOf_126 0 rfl ?_
      refine b_iload (pc := 128) C dX7_coalOf_128 7 rfl ?_
      refine b_iload (pc := 130) C dX7_coalOf_130 5 rfl ?_
      obtain ⟨hz8, hF⟩ := bif_n hF
      refine b_irem (pc := 132) C dX7_coalOf_132 hz8 ?_
      refine b_icmp_gt (tgt := 152) (pc := 133) C dX7_coalOf_133 rfl (fun hc9 => ?_) (fun hc9 => ?_)
      · rw [if_pos hc9] at hF
        exact b_sub [1, 2, 3, 4, 5, 6, 7, 8, 9] rfl (e_X7_coalOf_J152_100 C Hh Rt ih _ hx0 _ hx1 x2 x3 x4 x5 x6 x7 x8 _ _ hF hx)
      · rw [if_neg hc9] at hF
        refine b_iload (pc := 136) C dX7_coalOf_136 0 rfl ?_
        refine b_iload (pc := 138) C dX7_coalOf_138 7 rfl ?_
        refine b_iload (pc := 140) C dX7_coalOf_140 5 rfl ?_
        obtain ⟨hz10, hF⟩ := bif_n hF
        refine b_irem (pc := 142) C dX7_coalOf_142 hz10 ?_
        refine b_icmp_ne (tgt := 155) (pc := 143) C dX7_coalOf_143 rfl (fun hc11 => ?_) (fun hc11 => ?_)
        · rw [if_neg hc11] at hF
          obtain ⟨x8_12, e13, hF⟩ := blet_e hF
          refine b_iinc (L' := [(8, .int x8_12), (9, .int x9_6), (0, .ref x0), (1, .ref x1), (2, .int x2), (3, .int x3), (4, .int x4), (5, .int x5), (6, .int x6), (7, .int x7)]) (pc := 155) C dX7_coalOf_155 9 rfl ic_1 e13 (Hh.2.1 _ (Nat.le_of_ble_eq_true rfl)) rfl ?_
          refine b_goto (tgt := 100) (pc := 158) C dX7_coalOf_158 rfl ?_
          exact b_sub [2, 3, 4, 5, 6, 7, 8, 9, 0] rfl (ih _ hx0 _ hx1 x2 x3 x4 x5 x6 x7 x8_12 _ _ hF hx)
        · rw [if_pos hc11] at hF
          refine b_iload (pc := 146) C dX7_coalOf_146 9 rfl ?_
          refine b_iload_n (pc := 148) C dX7_coalOf_148 rfl 3 rfl ?_
          refine b_icmp_ge (tgt := 155) (pc := 149) C dX7_coalOf_149 rfl (fun hc14 => ?_) (fun hc14 => ?_)
          · rw [if_pos hc14] at hF
            obtain ⟨x8_15, e16, hF⟩ := blet_e hF
            refine b_iinc (L' := [(8, .int x8_15), (9, .int x9_6), (0, .ref x0), (1, .ref x1), (2, .int x2), (3, .int x3), (4, .int x4), (5, .int x5), (6, .int x6), (7, .int x7)]) (pc := 155) C dX7_coalOf_155 9 rfl ic_1 e16 (Hh.2.1 _ (Nat.le_of_ble_eq_true rfl)) rfl ?_
            refine b_goto (tgt := 100) (pc := 158) C dX7_coalOf_158 rfl ?_
            exact b_sub [2, 3, 4, 5, 6, 7, 8, 9, 0] rfl (ih _ hx0 _ hx1 x2 x3 x4 x5 x6 x7 x8_15 _ _ hF hx)
          · rw [if_neg hc14] at hF
            exact b_sub [1, 2, 3, 4, 5, 6, 7, 8, 9] rfl (e_X7_coalOf_J152_100 C Hh Rt ih _ hx0 _ hx1 x2 x3 x4 x5 x6 x7 x8 _ _ hF hx)
set_option maxHeartbeats 4000000 in
set_option maxRecDepth 20000 in
theorem e_X7_coalOf_0 {X : bX} {l : Launch} {G : bG} {ρ : Nat → Nat} {A : Nat → Prop} {d : Nat} {r : Int32} {σ' : bSto} (C : bCX X cX7_coalOf RX7 (d + 3)) (Hh : bH X l G bSHf ρ A 10) (Rt : bRX X (some .int) (some (.int r)) σ') (x0 : Nat) (hx0 : kR x0) (x1 : Nat) (hx1 : kN x1) (x2 : Int32) (x3 : Int32) (σ : bSto) (hF : f_X7_coalOf x0 x1 x2 x3 σ = some (r, σ')) : bAJ X 0 [(0, .ref x0), (1, .ref x1), (2, .int x2), (3, .int x3)] [] σ := by
  rw [f_X7_coalOf] at hF
  refine b_iconst (pc := 0) C dX7_coalOf_0 ic_0 ?_
  refine b_istore (L' := [(4, .int (0 : Int32)), (0, .ref x0), (1, .ref x1), (2, .int x2), (3, .int x3)]) (pc := 1) C dX7_coalOf_1 rfl (Hh.2.1 _ (Nat.le_of_ble_eq_true rfl)) rfl ?_
  refine b_iconst (pc := 3) C dX7_coalOf_3 ic_0 ?_
  refine b_istore (L' := [(5, .int (0 : Int32)), (4, .int (0 : Int32)), (0, .ref x0), (1, .ref x1), (2, .int x2), (3, .int x3)]) (pc := 4) C dX7_coalOf_4 rfl (Hh.2.1 _ (Nat.le_of_ble_eq_true rfl)) rfl ?_
  obtain ⟨x0_1, x1_1, x2_1, x3_1, x4_1, σ2, hq1, hF⟩ := bl5_e hF
  refine b_sub [2, 3, 4, 5, 1, 0] rfl (e_X7_coalOf_L6 C Hh Rt bFU _ hx0 _ hx1 x2 x3 (0 : Int32) (0 : Int32) _ _ hq1 (fun _ _ _ _ _ _ e hx0_1 hx1_1 => ?_))
  cases e
  refine b_iload (pc := 36) C dX7_coalOf_36 4 rfl ?_
  refine b_if_gt (tgt := 43) (pc := 38) C dX7_coalOf_38 rfl (fun hc3 => ?_) (fun hc3 => ?_)
  · rw [if_pos hc3] at hF
    refine b_iload_n (pc := 43) C dX7_coalOf_43 rfl 3 rfl ?_
    refine b_istore (L' := [(5, .int x3_1), (0, .ref x0_1), (1, .ref x1_1), (2, .int x2_1), (3, .int x3_1), (4, .int x4_1)]) (pc := 44) C dX7_coalOf_44 rfl (Hh.2.1 _ (Nat.le_of_ble_eq_true rfl)) rfl ?_
    refine b_iconst (pc := 46) C dX7_coalOf_46 ic_0 ?_
    refine b_istore (L' := [(6, .int (0 : Int32)), (5, .int x3_1), (0, .ref x0_1), (1, .ref x1_1), (2, .int x2_1), (3, .int x3_1), (4, .int x4_1)]) (pc := 47) C dX7_coalOf_47 rfl (Hh.2.1 _ (Nat.le_of_ble_eq_true rfl)) rfl ?_
    obtain ⟨x0_4, x1_4, x2_4, x3_4, x4_4, x5_4, σ5, hq4, hF⟩ := bl6_e hF
    refine b_sub [2, 3, 4, 5, 6, 1, 0] rfl (e_X7_coalOf_L49 C Hh Rt bFU _ hx0_1 _ hx1_1 x2_1 x3_1 x4_1 x3_1 (0 : Int32) _ _ hq4 (fun _ _ _ _ _ _ _ e hx0_4 hx1_4 => ?_))
    cases e
    refine b_iload_n (pc := 84) C dX7_coalOf_84 rfl 3 rfl ?_
    refine b_aload_n (pc := 85) C dX7_coalOf_85 rfl 0 rfl ?_
    refine b_aload_n (pc := 86) C dX7_coalOf_86 rfl 1 rfl ?_
    refine b_iload_n (pc := 87) C dX7_coalOf_87 rfl 2 rfl ?_
    obtain ⟨v8, σ7, hc6, hF⟩ := bbd_e hF
    refine b_cV2i (d' := (d + 2)) (pc := 88) C dX7_coalOf_88 mm_X7_119 (Hh.1 _ _ (shR hx0_4)) rfl (Nat.le_of_ble_eq_true rfl) (by omega) (Hh.2.2 _ _ _ _ _ _ _ _ _ (lvl_eq (by omega) (e_X7_coalWeight (d + 0) _ hx0_4 _ hx1_4 x2_4 _ _ _ hc6))) ?_
    refine b_imul (pc := 91) C dX7_coalOf_91 ?_
    obtain ⟨x6_9, e10, hF⟩ := blet_e hF
    refine b_istore (L' := [(6, .int x6_9), (0, .ref x0_4), (1, .ref x1_4), (2, .int x2_4), (3, .int x3_4), (4, .int x4_4), (5, .int x5_4)]) (pc := 92) C dX7_coalOf_92 e10 (Hh.2.1 _ (Nat.le_of_ble_eq_true rfl)) rfl ?_
    refine b_iconst (pc := 94) C dX7_coalOf_94 ic_0 ?_
    refine b_istore (L' := [(7, .int (0 : Int32)), (6, .int x6_9), (0, .ref x0_4), (1, .ref x1_4), (2, .int x2_4), (3, .int x3_4), (4, .int x4_4), (5, .int x5_4)]) (pc := 95) C dX7_coalOf_95 rfl (Hh.2.1 _ (Nat.le_of_ble_eq_true rfl)) rfl ?_
    refine b_iconst (pc := 97) C dX7_coalOf_97 ic_0 ?_
    refine b_istore (L' := [(8, .int (0 : Int32)), (7, .int (0 : Int32)), (6, .int x6_9), (0, .ref x0_4), (1, .ref x1_4), (2, .int x2_4), (3, .int x3_4), (4, .int x4_4), (5, .int x5_4)]) (pc := 98) C dX7_coalOf_98 rfl (Hh.2.1 _ (Nat.le_of_ble_eq_true rfl)) rfl ?_
    obtain ⟨x4_11, x5_11, x6_11, x7_11, σ12, hq11, hF⟩ := bl4_e hF
    refine b_sub [3, 4, 5, 6, 7, 8, 2, 1, 0] rfl (e_X7_coalOf_L100 C Hh Rt bFU _ hx0_4 _ hx1_4 x2_4 x3_4 x4_4 x5_4 x6_9 (0 : Int32) (0 : Int32) _ _ hq11 (fun _ _ _ _ _ e  => ?_))
    cases e
    refine b_iload (pc := 161) C dX7_coalOf_161 2 rfl ?_
    refine b_iload (pc := 163) C dX7_coalOf_163 0 rfl ?_
    obtain ⟨hz13, hF⟩ := bif_n hF
    refine b_idiv (pc := 165) C dX7_coalOf_165 hz13 ?_
    refine b_iload (pc := 166) C dX7_coalOf_166 3 rfl ?_
    refine b_iload (pc := 168) C dX7_coalOf_168 1 rfl ?_
    refine b_icmp_ge (tgt := 177) (pc := 170) C dX7_coalOf_170 rfl (fun hc14 => ?_) (fun hc14 => ?_)
    · rw [if_pos hc14] at hF
      refine b_iconst (pc := 177) C dX7_coalOf_177 ic_0 ?_
      refine b_iadd (pc := 178) C dX7_coalOf_178 ?_
      exact b_iret (pc := 179) C Rt dX7_coalOf_179 hF
    · rw [if_neg hc14] at hF
      refine b_iconst (pc := 173) C dX7_coalOf_173 ic_1 ?_
      refine b_goto (tgt := 178) (pc := 174) C dX7_coalOf_174 rfl ?_
      refine b_iadd (pc := 178) C dX7_coalOf_178 ?_
      exact b_iret (pc := 179) C Rt dX7_coalOf_179 hF
  · rw [if_neg hc3] at hF
    refine b_iconst (pc := 41) C dX7_coalOf_41 ic_0 ?_
    exact b_iret (pc := 42) C Rt dX7_coalOf_42 hF
set_option maxHeartbeats 4000000 in
set_option maxRecDepth 20000 in
theorem e_X7_coalOf {l : Launch} {G : bG} {ρ : Nat → Nat} {A : Nat → Prop} (d : Nat) (x0 : Nat) (hx0 : kR x0) (x1 : Nat) (hx1 : kN x1) (x2 : Int32) (x3 : Int32) (σ : bSto) (r : Int32) (σ' : bSto) (hF : f_X7_coalOf x0 x1 x2 x3 σ = some (r, σ')) : bEv l G bSHf ρ A yX7_coalOf cX7_coalOf 10 (some .int) (d + 3) [.ref x0, .ref x1, .int x2, .int x3] σ (some (.int r)) σ' := b_met (d := d + 3) (by decide +kernel) (Nat.le_of_ble_eq_true rfl) rfl (fun X C Rt h1 h2 h3 => e_X7_coalOf_0 C ⟨fun o q h => by rw [h1]; exact h, fun i h => by rw [h2]; exact h, h3⟩ Rt _ hx0 _ hx1 _ _ _ hF)
/-! BenchColony$Room.reseat -/
def f_X7_reseat (x0 : Nat) (x1 : Nat) (x2 : Int32) (x3 : Int32) (σ : bSto) : Option bSto := (if (σ.1 (x0 + 7) 7) ≤ 0 then some σ else (if 0 < (σ.1 (x0 + 1) 5) then bbd (f_J9_floorMod_7cf53 x2 (σ.1 (x0 + 7) 7) σ) (fun v5 σ4 => bbd (f_J9_floorMod_7cf53 x3 (σ4.1 (x0 + 1) 5) σ4) (fun v8 σ7 => if v5 < 0 ∨ 7 ≤ v5.toNatClampNeg then none else blet (bI σ7 (x1 + 1) v5.toNatClampNeg (-2 : Int32)) (fun σ9 => bbd (f_X7_allows x0 v5 v8 σ9) (fun v14 σ13 => (if v14 = 0 then some σ13 else bbd (f_X7_hasFreeSeat x0 x1 v8 σ13) (fun v18 σ17 => (if v18 = 0 then some σ17 else if v5 < 0 ∨ 7 ≤ v5.toNatClampNeg then none else blet (bI σ17 (x1 + 1) v5.toNatClampNeg v8) (fun σ20 => some σ20)))))))) else some σ))
set_option maxHeartbeats 4000000 in
set_option maxRecDepth 20000 in
theorem e_X7_reseat_0 {X : bX} {l : Launch} {G : bG} {ρ : Nat → Nat} {A : Nat → Prop} {d : Nat} {σ' : bSto} (C : bCX X cX7_reseat RX7 (d + 2)) (Hh : bH X l G bSHf ρ A 6) (Rt : bRX X none none σ') (x0 : Nat) (hx0 : kR x0) (x1 : Nat) (hx1 : kN x1) (x2 : Int32) (x3 : Int32) (σ : bSto) (hF : f_X7_reseat x0 x1 x2 x3 σ = some σ') : bAJ X 0 [(0, .ref x0), (1, .ref x1), (2, .int x2), (3, .int x3)] [] σ := by
  rw [f_X7_reseat] at hF
  refine b_aload_n (pc := 0) C dX7_reseat_0 rfl 0 rfl ?_
  refine b_getS (pc := 1) C dX7_reseat_1 fl_X7_21 (Hh.1 _ _ (shR hx0)) rfl ?_
  refine b_getI (pc := 4) C dX7_reseat_4 fl_X7_108 (Hh.1 _ _ (shF (kk_7_1 hx0))) rfl ?_
  refine b_if_le (tgt := 20) (pc := 7) C dX7_reseat_7 rfl (fun hc1 => ?_) (fun hc1 => ?_)
  · rw [if_pos hc1] at hF
    exact b_vret (pc := 20) C Rt dX7_reseat_20 hF
  · rw [if_neg hc1] at hF
    refine b_aload_n (pc := 10) C dX7_reseat_10 rfl 0 rfl ?_
    refine b_getS (pc := 11) C dX7_reseat_11 fl_X7_12 (Hh.1 _ _ (shR hx0)) rfl ?_
    refine b_getI (pc := 14) C dX7_reseat_14 fl_X7_71 (Hh.1 _ _ (shH (kk_7_0 hx0))) rfl ?_
    refine b_if_gt (tgt := 21) (pc := 17) C dX7_reseat_17 rfl (fun hc2 => ?_) (fun hc2 => ?_)
    · rw [if_pos hc2] at hF
      refine b_iload_n (pc := 21) C dX7_reseat_21 rfl 2 rfl ?_
      refine b_aload_n (pc := 22) C dX7_reseat_22 rfl 0 rfl ?_
      refine b_getS (pc := 23) C dX7_reseat_23 fl_X7_21 (Hh.1 _ _ (shR hx0)) rfl ?_
      refine b_getI (pc := 26) C dX7_reseat_26 fl_X7_108 (Hh.1 _ _ (shF (kk_7_1 hx0))) rfl ?_
      obtain ⟨v5, σ4, hc3, hF⟩ := bbd_e hF
      refine b_cS2i (d' := (d + 1)) (pc := 29) C dX7_reseat_29 mm_X7_122 (Nat.le_of_ble_eq_true rfl) (by omega) (Hh.2.2 _ _ _ _ _ _ _ _ _ (lvl_eq (by omega) (e_J9_floorMod_7cf53 (d + 1) x2 (σ.1 (x0 + 7) 7) _ _ _ hc3))) ?_
      refine b_istore (L' := [(4, .int v5), (0, .ref x0), (1, .ref x1), (2, .int x2), (3, .int x3)]) (pc := 32) C dX7_reseat_32 rfl (Hh.2.1 _ (Nat.le_of_ble_eq_true rfl)) rfl ?_
      refine b_iload_n (pc := 34) C dX7_reseat_34 rfl 4 rfl ?_
      refine b_aload_n (pc := 35) C dX7_reseat_35 rfl 1 rfl ?_
      refine b_getS (pc := 36) C dX7_reseat_36 fl_X7_12 (Hh.1 _ _ (shR hx0)) rfl ?_
      refine b_getI (pc := 39) C dX7_reseat_39 fl_X7_71 (Hh.1 _ _ (shH (kk_7_0 hx0))) rfl ?_
      obtain ⟨v8, σ7, hc6, hF⟩ := bbd_e hF
      refine b_cS2i (d' := (d + 1)) (pc := 42) C dX7_reseat_42 mm_X7_122 (Nat.le_of_ble_eq_true rfl) (by omega) (Hh.2.2 _ _ _ _ _ _ _ _ _ (lvl_eq (by omega) (e_J9_floorMod_7cf53 (d + 1) x3 (σ4.1 (x0 + 1) 5) _ _ _ hc6))) ?_
      refine b_istore (L' := [(5, .int v8), (4, .int v5), (0, .ref x0), (1, .ref x1), (2, .int x2), (3, .int x3)]) (pc := 45) C dX7_reseat_45 rfl (Hh.2.1 _ (Nat.le_of_ble_eq_true rfl)) rfl ?_
      refine b_aload_n (pc := 47) C dX7_reseat_47 rfl 3 rfl ?_
      refine b_getS (pc := 48) C dX7_reseat_48 fl_X7_97 (Hh.1 _ _ (shN hx1)) rfl ?_
      refine b_iload (pc := 51) C dX7_reseat_51 1 rfl ?_
      refine b_bipush (pc := 53) C dX7_reseat_53 bp_m2 ?_
      obtain ⟨hb11, hF⟩ := bif_n hF
      obtain ⟨σ9, e10, hF⟩ := blet_e hF
      refine b_iast (pc := 55) C dX7_reseat_55 (Hh.1 _ _ (sa_4_0 hx1)) hb11 e10 ?_
      refine b_aload_n (pc := 56) C dX7_reseat_56 rfl 2 rfl ?_
      refine b_iload (pc := 57) C dX7_reseat_57 1 rfl ?_
      refine b_iload (pc := 59) C dX7_reseat_59 0 rfl ?_
      obtain ⟨v14, σ13, hc12, hF⟩ := bbd_e hF
      refine b_cV2i (d' := (d + 1)) (pc := 61) C dX7_reseat_61 mm_X7_75 (Hh.1 _ _ (shR hx0)) rfl (Nat.le_of_ble_eq_true rfl) (by omega) (Hh.2.2 _ _ _ _ _ _ _ _ _ (lvl_eq (by omega) (e_X7_allows (d + 1) _ hx0 v5 v8 _ _ _ hc12))) ?_
      refine b_if_eq (tgt := 86) (pc := 64) C dX7_reseat_64 rfl (fun hc15 => ?_) (fun hc15 => ?_)
      · rw [if_pos hc15] at hF
        exact b_vret (pc := 86) C Rt dX7_reseat_86 hF
      · rw [if_neg hc15] at hF
        refine b_aload_n (pc := 67) C dX7_reseat_67 rfl 2 rfl ?_
        refine b_aload_n (pc := 68) C dX7_reseat_68 rfl 3 rfl ?_
        refine b_iload (pc := 69) C dX7_reseat_69 0 rfl ?_
        obtain ⟨v18, σ17, hc16, hF⟩ := bbd_e hF
        refine b_cV2i (d' := (d + 1)) (pc := 71) C dX7_reseat_71 mm_X7_89 (Hh.1 _ _ (shR hx0)) rfl (Nat.le_of_ble_eq_true rfl) (by omega) (Hh.2.2 _ _ _ _ _ _ _ _ _ (lvl_eq (by omega) (e_X7_hasFreeSeat (d + 0) _ hx0 _ hx1 v8 _ _ _ hc16))) ?_
        refine b_if_eq (tgt := 86) (pc := 74) C dX7_reseat_74 rfl (fun hc19 => ?_) (fun hc19 => ?_)
        · rw [if_pos hc19] at hF
          exact b_vret (pc := 86) C Rt dX7_reseat_86 hF
        · rw [if_neg hc19] at hF
          refine b_aload_n (pc := 77) C dX7_reseat_77 rfl 3 rfl ?_
          refine b_getS (pc := 78) C dX7_reseat_78 fl_X7_97 (Hh.1 _ _ (shN hx1)) rfl ?_
          refine b_iload (pc := 81) C dX7_reseat_81 1 rfl ?_
          refine b_iload (pc := 83) C dX7_reseat_83 0 rfl ?_
          obtain ⟨hb22, hF⟩ := bif_n hF
          obtain ⟨σ20, e21, hF⟩ := blet_e hF
          refine b_iast (pc := 85) C dX7_reseat_85 (Hh.1 _ _ (sa_4_0 hx1)) hb22 e21 ?_
          exact b_vret (pc := 86) C Rt dX7_reseat_86 hF
    · rw [if_neg hc2] at hF
      exact b_vret (pc := 20) C Rt dX7_reseat_20 hF
set_option maxHeartbeats 4000000 in
set_option maxRecDepth 20000 in
theorem e_X7_reseat {l : Launch} {G : bG} {ρ : Nat → Nat} {A : Nat → Prop} (d : Nat) (x0 : Nat) (hx0 : kR x0) (x1 : Nat) (hx1 : kN x1) (x2 : Int32) (x3 : Int32) (σ : bSto) (σ' : bSto) (hF : f_X7_reseat x0 x1 x2 x3 σ = some σ') : bEv l G bSHf ρ A yX7_reseat cX7_reseat 6 none (d + 2) [.ref x0, .ref x1, .int x2, .int x3] σ none σ' := b_met (d := d + 2) (by decide +kernel) (Nat.le_of_ble_eq_true rfl) rfl (fun X C Rt h1 h2 h3 => e_X7_reseat_0 C ⟨fun o q h => by rw [h1]; exact h, fun i h => by rw [h2]; exact h, h3⟩ Rt _ hx0 _ hx1 _ _ _ hF)
