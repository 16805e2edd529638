/-! BenchColonyModel.coldOf -/
def f_X12_coldOf (x1 : Int32) (σ : bSto) : Option (Int32 × bSto) := if (((35 : Int32) + ((4 : Int32) * x1)) + (1 : Int32)) < 0 ∨ 406 ≤ (((35 : Int32) + ((4 : Int32) * x1)) + (1 : Int32)).toNatClampNeg then none else some ((σ.1 95 (((35 : Int32) + ((4 : Int32) * x1)) + (1 : Int32)).toNatClampNeg), σ)
set_option maxHeartbeats 4000000 in
set_option maxRecDepth 20000 in
theorem e_X12_coldOf_0 {X : bX} {l : Launch} {G : bG} {ρ : Nat → Nat} {A : Nat → Prop} {d : Nat} {r : Int32} {σ' : bSto} (C : bCX X cX12_coldOf RX12 (d + 0)) (Hh : bH X l G bSHf ρ A 2) (Rt : bRX X (some .int) (some (.int r)) σ') (x1 : Int32) (σ : bSto) (hF : f_X12_coldOf x1 σ = some (r, σ')) : bAJ X 0 [(0, .ref 92), (1, .int x1)] [] σ := by
  rw [f_X12_coldOf] at hF
  refine b_aload_n (pc := 0) C dX12_coldOf_0 rfl 0 rfl ?_
  refine b_getS (pc := 1) C dX12_coldOf_1 fl_X12_20 (Hh.1 _ _ sh_92) rfl ?_
  refine b_bipush (pc := 4) C dX12_coldOf_4 bp_35 ?_
  refine b_iconst (pc := 6) C dX12_coldOf_6 ic_4 ?_
  refine b_iload_n (pc := 7) C dX12_coldOf_7 rfl 1 rfl ?_
  refine b_imul (pc := 8) C dX12_coldOf_8 ?_
  refine b_iadd (pc := 9) C dX12_coldOf_9 ?_
  refine b_iconst (pc := 10) C dX12_coldOf_10 ic_1 ?_
  refine b_iadd (pc := 11) C dX12_coldOf_11 ?_
  obtain ⟨hb1, hF⟩ := bif_n hF
  refine b_iald (pc := 12) C dX12_coldOf_12 (Hh.1 _ _ sh_95) hb1 ?_
  exact b_iret (pc := 13) C Rt dX12_coldOf_13 hF
set_option maxHeartbeats 4000000 in
set_option maxRecDepth 20000 in
theorem e_X12_coldOf {l : Launch} {G : bG} {ρ : Nat → Nat} {A : Nat → Prop} (d : Nat) (x1 : Int32) (σ : bSto) (r : Int32) (σ' : bSto) (hF : f_X12_coldOf x1 σ = some (r, σ')) : bEv l G bSHf ρ A yX12_coldOf cX12_coldOf 2 (some .int) (d + 0) [.ref 92, .int x1] σ (some (.int r)) σ' := b_met (d := d + 0) (by decide +kernel) (Nat.le_of_ble_eq_true rfl) rfl (fun X C Rt h1 h2 h3 => e_X12_coldOf_0 C ⟨fun o q h => by rw [h1]; exact h, fun i h => by rw [h2]; exact h, h3⟩ Rt _ _ hF)
/-! BenchColonyModel.seatsOf -/
def f_X12_seatsOf (x1 : Int32) (σ : bSto) : Option (Int32 × bSto) := if (((11 : Int32) + ((4 : Int32) * x1)) + (2 : Int32)) < 0 ∨ 406 ≤ (((11 : Int32) + ((4 : Int32) * x1)) + (2 : Int32)).toNatClampNeg then none else some ((σ.1 95 (((11 : Int32) + ((4 : Int32) * x1)) + (2 : Int32)).toNatClampNeg), σ)
set_option maxHeartbeats 4000000 in
set_option maxRecDepth 20000 in
theorem e_X12_seatsOf_0 {X : bX} {l : Launch} {G : bG} {ρ : Nat → Nat} {A : Nat → Prop} {d : Nat} {r : Int32} {σ' : bSto} (C : bCX X cX12_seatsOf RX12 (d + 0)) (Hh : bH X l G bSHf ρ A 2) (Rt : bRX X (some .int) (some (.int r)) σ') (x1 : Int32) (σ : bSto) (hF : f_X12_seatsOf x1 σ = some (r, σ')) : bAJ X 0 [(0, .ref 92), (1, .int x1)] [] σ := by
  rw [f_X12_seatsOf] at hF
  refine b_aload_n (pc := 0) C dX12_seatsOf_0 rfl 0 rfl ?_
  refine b_getS (pc := 1) C dX12_seatsOf_1 fl_X12_20 (Hh.1 _ _ sh_92) rfl ?_
  refine b_bipush (pc := 4) C dX12_seatsOf_4 bp_11 ?_
  refine b_iconst (pc := 6) C dX12_seatsOf_6 ic_4 ?_
  refine b_iload_n (pc := 7) C dX12_seatsOf_7 rfl 1 rfl ?_
  refine b_imul (pc := 8) C dX12_seatsOf_8 ?_
  refine b_iadd (pc := 9) C dX12_seatsOf_9 ?_
  refine b_iconst (pc := 10) C dX12_seatsOf_10 ic_2 ?_
  refine b_iadd (pc := 11) C dX12_seatsOf_11 ?_
  obtain ⟨hb1, hF⟩ := bif_n hF
  refine b_iald (pc := 12) C dX12_seatsOf_12 (Hh.1 _ _ sh_95) hb1 ?_
  exact b_iret (pc := 13) C Rt dX12_seatsOf_13 hF
set_option maxHeartbeats 4000000 in
set_option maxRecDepth 20000 in
theorem e_X12_seatsOf {l : Launch} {G : bG} {ρ : Nat → Nat} {A : Nat → Prop} (d : Nat) (x1 : Int32) (σ : bSto) (r : Int32) (σ' : bSto) (hF : f_X12_seatsOf x1 σ = some (r, σ')) : bEv l G bSHf ρ A yX12_seatsOf cX12_seatsOf 2 (some .int) (d + 0) [.ref 92, .int x1] σ (some (.int r)) σ' := b_met (d := d + 0) (by decide +kernel) (Nat.le_of_ble_eq_true rfl) rfl (fun X C Rt h1 h2 h3 => e_X12_seatsOf_0 C ⟨fun o q h => by rw [h1]; exact h, fun i h => by rw [h2]; exact h, h3⟩ Rt _ _ hF)
/-! BenchColonyModel.rentOf -/
def f_X12_rentOf (x1 : Int32) (σ : bSto) : Option (Int32 × bSto) := if (((11 : Int32) + ((4 : Int32) * x1)) + (3 : Int32)) < 0 ∨ 406 ≤ (((11 : Int32) + ((4 : Int32) * x1)) + (3 : Int32)).toNatClampNeg then none else some ((σ.1 95 (((11 : Int32) + ((4 : Int32) * x1)) + (3 : Int32)).toNatClampNeg), σ)
set_option maxHeartbeats 4000000 in
set_option maxRecDepth 20000 in
theorem e_X12_rentOf_0 {X : bX} {l : Launch} {G : bG} {ρ : Nat → Nat} {A : Nat → Prop} {d : Nat} {r : Int32} {σ' : bSto} (C : bCX X cX12_rentOf RX12 (d + 0)) (Hh : bH X l G bSHf ρ A 2) (Rt : bRX X (some .int) (some (.int r)) σ') (x1 : Int32) (σ : bSto) (hF : f_X12_rentOf x1 σ = some (r, σ')) : bAJ X 0 [(0, .ref 92), (1, .int x1)] [] σ := by
  rw [f_X12_rentOf] at hF
  refine b_aload_n (pc := 0) C dX12_rentOf_0 rfl 0 rfl ?_
  refine b_getS (pc := 1) C dX12_rentOf_1 fl_X12_20 (Hh.1 _ _ sh_92) rfl ?_
  refine b_bipush (pc := 4) C dX12_rentOf_4 bp_11 ?_
  refine b_iconst (pc := 6) C dX12_rentOf_6 ic_4 ?_
  refine b_iload_n (pc := 7) C dX12_rentOf_7 rfl 1 rfl ?_
  refine b_imul (pc := 8) C dX12_rentOf_8 ?_
  refine b_iadd (pc := 9) C dX12_rentOf_9 ?_
  refine b_iconst (pc := 10) C dX12_rentOf_10 ic_3 ?_
  refine b_iadd (pc := 11) C dX12_rentOf_11 ?_
  obtain ⟨hb1, hF⟩ := bif_n hF
  refine b_iald (pc := 12) C dX12_rentOf_12 (Hh.1 _ _ sh_95) hb1 ?_
  exact b_iret (pc := 13) C Rt dX12_rentOf_13 hF
set_option maxHeartbeats 4000000 in
set_option maxRecDepth 20000 in
theorem e_X12_rentOf {l : Launch} {G : bG} {ρ : Nat → Nat} {A : Nat → Prop} (d : Nat) (x1 : Int32) (σ : bSto) (r : Int32) (σ' : bSto) (hF : f_X12_rentOf x1 σ = some (r, σ')) : bEv l G bSHf ρ A yX12_rentOf cX12_rentOf 2 (some .int) (d + 0) [.ref 92, .int x1] σ (some (.int r)) σ' := b_met (d := d + 0) (by decide +kernel) (Nat.le_of_ble_eq_true rfl) rfl (fun X C Rt h1 h2 h3 => e_X12_rentOf_0 C ⟨fun o q h => by rw [h1]; exact h, fun i h => by rw [h2]; exact h, h3⟩ Rt _ _ hF)
/-! BenchColonyModel.heatBy -/
def f_X12_heatBy (x1 : Int32) (x2 : Int32) (σ : bSto) : Option (Int32 × bSto) := if (((11 : Int32) + ((4 : Int32) * x1)) + (1 : Int32)) < 0 ∨ 406 ≤ (((11 : Int32) + ((4 : Int32) * x1)) + (1 : Int32)).toNatClampNeg then none else blet (σ.1 95 (((11 : Int32) + ((4 : Int32) * x1)) + (1 : Int32)).toNatClampNeg) (fun x3_2 => bbd (f_X12_apart (x3_2 - x3_2 / (10 : Int32) * (10 : Int32)) ((σ.1 95 9) - (σ.1 95 9) / (10 : Int32) * (10 : Int32)) σ) (fun v6 σ5 => bbd (f_X12_apart (x3_2 / (10 : Int32)) ((σ5.1 95 9) / (10 : Int32)) σ5) (fun v9 σ8 => blet (x2 - ((4 : Int32) * (v6 + v9))) (fun x4_10 => (if 0 ≤ x4_10 then some (x4_10, σ8) else some ((0 : Int32), σ8))))))
set_option maxHeartbeats 4000000 in
set_option maxRecDepth 20000 in
theorem e_X12_heatBy_0 {X : bX} {l : Launch} {G : bG} {ρ : Nat → Nat} {A : Nat → Prop} {d : Nat} {r : Int32} {σ' : bSto} (C : bCX X cX12_heatBy RX12 (d + 1)) (Hh : bH X l G bSHf ρ A 5) (Rt : bRX X (some .int) (some (.int r)) σ') (x1 : Int32) (x2 : Int32) (σ : bSto) (hF : f_X12_heatBy x1 x2 σ = some (r, σ')) : bAJ X 0 [(0, .ref 92), (1, .int x1), (2, .int x2)] [] σ := by
  rw [f_X12_heatBy] at hF
  refine b_aload_n (pc := 0) C dX12_heatBy_0 rfl 0 rfl ?_
  refine b_getS (pc := 1) C dX12_heatBy_1 fl_X12_20 (Hh.1 _ _ sh_92) rfl ?_
  refine b_bipush (pc := 4) C dX12_heatBy_4 bp_11 ?_
  refine b_iconst (pc := 6) C dX12_heatBy_6 ic_4 ?_
  refine b_iload_n (pc := 7) C dX12_heatBy_7 rfl 1 rfl ?_
  refine b_imul (pc := 8) C dX12_heatBy_8 ?_
  refine b_iadd (pc := 9) C dX12_heatBy_9 ?_
  refine b_iconst (pc := 10) C dX12_heatBy_10 ic_1 ?_
  refine b_iadd (pc := 11) C dX12_heatBy_11 ?_
  obtain ⟨hb1, hF⟩ := bif_n hF
  refine b_iald (pc := 12) C dX12_heatBy_12 (Hh.1 _ _ sh_95) hb1 ?_
  obtain ⟨x3_2, e3, hF⟩ := blet_e hF
  refine b_istore_n (L' := [(3, .int x3_2), (0, .ref 92), (1, .int x1), (2, .int x2)]) (pc := 13) C dX12_heatBy_13 rfl e3 (Hh.2.1 _ (Nat.le_of_ble_eq_true rfl)) rfl ?_
  refine b_iload_n (pc := 14) C dX12_heatBy_14 rfl 3 rfl ?_
  refine b_iconst (pc := 15) C dX12_heatBy_15 ic_4 ?_
  refine b_iload_n (pc := 16) C dX12_heatBy_16 rfl 0 rfl ?_
  refine b_bipush (pc := 17) C dX12_heatBy_17 bp_10 ?_
  refine b_irem (pc := 19) C dX12_heatBy_19 (by decide) ?_
  refine b_aload_n (pc := 20) C dX12_heatBy_20 rfl 1 rfl ?_
  refine b_getS (pc := 21) C dX12_heatBy_21 fl_X12_20 (Hh.1 _ _ sh_92) rfl ?_
  refine b_bipush (pc := 24) C dX12_heatBy_24 bp_9 ?_
  refine b_ialdK (pc := 26) C dX12_heatBy_26 (Hh.1 _ _ sh_95) tn_9 (by decide) ?_
  refine b_bipush (pc := 27) C dX12_heatBy_27 bp_10 ?_
  refine b_irem (pc := 29) C dX12_heatBy_29 (by decide) ?_
  obtain ⟨v6, σ5, hc4, hF⟩ := bbd_e hF
  refine b_cS2i (d' := (d + 0)) (pc := 30) C dX12_heatBy_30 mm_X12_286 (Nat.le_of_ble_eq_true rfl) (by omega) (Hh.2.2 _ _ _ _ _ _ _ _ _ (lvl_eq (by omega) (e_X12_apart (d + 0) (x3_2 - x3_2 / (10 : Int32) * (10 : Int32)) ((σ.1 95 9) - (σ.1 95 9) / (10 : Int32) * (10 : Int32)) _ _ _ hc4))) ?_
  refine b_iload_n (pc := 33) C dX12_heatBy_33 rfl 0 rfl ?_
  refine b_bipush (pc := 34) C dX12_heatBy_34 bp_10 ?_
  refine b_idiv (pc := 36) C dX12_heatBy_36 (by decide) ?_
  refine b_aload_n (pc := 37) C dX12_heatBy_37 rfl 1 rfl ?_
  refine b_getS (pc := 38) C dX12_heatBy_38 fl_X12_20 (Hh.1 _ _ sh_92) rfl ?_
  refine b_bipush (pc := 41) C dX12_heatBy_41 bp_9 ?_
  refine b_ialdK (pc := 43) C dX12_heatBy_43 (Hh.1 _ _ sh_95) tn_9 (by decide) ?_
  refine b_bipush (pc := 44) C dX12_heatBy_44 bp_10 ?_
  refine b_idiv (pc := 46) C dX12_heatBy_46 (by decide) ?_
  obtain ⟨v9, σ8, hc7, hF⟩ := bbd_e hF
  refine b_cS2i (d' := (d + 0)) (pc := 47) C dX12_heatBy_47 mm_X12_286 (Nat.le_of_ble_eq_true rfl) (by omega) (Hh.2.2 _ _ _ _ _ _ _ _ _ (lvl_eq (by omega) (e_X12_apart (d + 0) (x3_2 / (10 : Int32)) ((σ5.1 95 9) / (10 : Int32)) _ _ _ hc7))) ?_
  refine b_iadd (pc := 50) C dX12_heatBy_50 ?_
  refine b_imul (pc := 51) C dX12_heatBy_51 ?_
  refine b_isub (pc := 52) C dX12_heatBy_52 ?_
  obtain ⟨x4_10, e11, hF⟩ := blet_e hF
  refine b_istore (L' := [(4, .int x4_10), (3, .int x3_2), (0, .ref 92), (1, .int x1), (2, .int x2)]) (pc := 53) C dX12_heatBy_53 e11 (Hh.2.1 _ (Nat.le_of_ble_eq_true rfl)) rfl ?_
  refine b_iload (pc := 55) C dX12_heatBy_55 0 rfl ?_
  refine b_if_ge (tgt := 64) (pc := 57) C dX12_heatBy_57 rfl (fun hc12 => ?_) (fun hc12 => ?_)
  · rw [if_pos hc12] at hF
    refine b_iload (pc := 64) C dX12_heatBy_64 0 rfl ?_
    exact b_iret (pc := 66) C Rt dX12_heatBy_66 hF
  · rw [if_neg hc12] at hF
    refine b_iconst (pc := 60) C dX12_heatBy_60 ic_0 ?_
    refine b_goto (tgt := 66) (pc := 61) C dX12_heatBy_61 rfl ?_
    exact b_iret (pc := 66) C Rt dX12_heatBy_66 hF
set_option maxHeartbeats 4000000 in
set_option maxRecDepth 20000 in
theorem e_X12_heatBy {l : Launch} {G : bG} {ρ : Nat → Nat} {A : Nat → Prop} (d : Nat) (x1 : Int32) (x2 : Int32) (σ : bSto) (r : Int32) (σ' : bSto) (hF : f_X12_heatBy x1 x2 σ = some (r, σ')) : bEv l G bSHf ρ A yX12_heatBy cX12_heatBy 5 (some .int) (d + 1) [.ref 92, .int x1, .int x2] σ (some (.int r)) σ' := b_met (d := d + 1) (by decide +kernel) (Nat.le_of_ble_eq_true rfl) rfl (fun X C Rt h1 h2 h3 => e_X12_heatBy_0 C ⟨fun o q h => by rw [h1]; exact h, fun i h => by rw [h2]; exact h, h3⟩ Rt _ _ _ hF)
/-! BenchColonyModel.heatOf -/
def f_X12_heatOf (x1 : Int32) (σ : bSto) : Option (Int32 × bSto) := bbd (f_X12_heatBy x1 (σ.1 95 2) σ) (fun v3 σ2 => some (v3, σ2))
set_option maxHeartbeats 4000000 in
set_option maxRecDepth 20000 in
theorem e_X12_heatOf_0 {X : bX} {l : Launch} {G : bG} {ρ : Nat → Nat} {A : Nat → Prop} {d : Nat} {r : Int32} {σ' : bSto} (C : bCX X cX12_heatOf RX12 (d + 2)) (Hh : bH X l G bSHf ρ A 2) (Rt : bRX X (some .int) (some (.int r)) σ') (x1 : Int32) (σ : bSto) (hF : f_X12_heatOf x1 σ = some (r, σ')) : bAJ X 0 [(0, .ref 92), (1, .int x1)] [] σ := by
  rw [f_X12_heatOf] at hF
  refine b_aload_n (pc := 0) C dX12_heatOf_0 rfl 0 rfl ?_
  refine b_iload_n (pc := 1) C dX12_heatOf_1 rfl 1 rfl ?_
  refine b_aload_n (pc := 2) C dX12_heatOf_2 rfl 0 rfl ?_
  refine b_getS (pc := 3) C dX12_heatOf_3 fl_X12_20 (Hh.1 _ _ sh_92) rfl ?_
  refine b_iconst (pc := 6) C dX12_heatOf_6 ic_2 ?_
  refine b_ialdK (pc := 7) C dX12_heatOf_7 (Hh.1 _ _ sh_95) tn_2 (by decide) ?_
  obtain ⟨v3, σ2, hc1, hF⟩ := bbd_e hF
  refine b_cV2i (d' := (d + 1)) (pc := 8) C dX12_heatOf_8 mm_X12_289 (Hh.1 _ _ sh_92) rfl (Nat.le_of_ble_eq_true rfl) (by omega) (Hh.2.2 _ _ _ _ _ _ _ _ _ (lvl_eq (by omega) (e_X12_heatBy (d + 0) x1 (σ.1 95 2) _ _ _ hc1))) ?_
  exact b_iret (pc := 11) C Rt dX12_heatOf_11 hF
set_option maxHeartbeats 4000000 in
set_option maxRecDepth 20000 in
theorem e_X12_heatOf {l : Launch} {G : bG} {ρ : Nat → Nat} {A : Nat → Prop} (d : Nat) (x1 : Int32) (σ : bSto) (r : Int32) (σ' : bSto) (hF : f_X12_heatOf x1 σ = some (r, σ')) : bEv l G bSHf ρ A yX12_heatOf cX12_heatOf 2 (some .int) (d + 2) [.ref 92, .int x1] σ (some (.int r)) σ' := b_met (d := d + 2) (by decide +kernel) (Nat.le_of_ble_eq_true rfl) rfl (fun X C Rt h1 h2 h3 => e_X12_heatOf_0 C ⟨fun o q h => by rw [h1]; exact h, fun i h => by rw [h2]; exact h, h3⟩ Rt _ _ hF)
/-! BenchColonyModel.onBench -/
def f_X12_onBench_J35_5 (k : Nat → Int32 → Int32 → Int32 → bSto → Option (Int32 × bSto)) (x1 : Nat) (x2 : Int32) (x4 : Int32) (s0 : Int32) (s1 : Int32) (σ : bSto) : Option (Int32 × bSto) := blet (s0 ||| s1) (fun x3_1 => blet (x4 + (1 : Int32)) (fun x4_3 => k x1 x2 x3_1 x4_3 σ))
def f_X12_onBench_L5 : Nat → Nat → Int32 → Int32 → Int32 → bSto → Option (Int32 × bSto)
  | 0, _, _, _, _, _ => none
  | n + 1, x1, x2, x3, x4, σ => (if (σ.1 95 4) ≤ x4 then some (x3, σ) else if x4 < 0 ∨ (bln x1) ≤ x4.toNatClampNeg then none else (if (σ.1 x1 x4.toNatClampNeg) = (x2 + (1 : Int32)) then f_X12_onBench_J35_5 (f_X12_onBench_L5 n) x1 x2 x4 x3 ((1 : Int32) <<< (x4 &&& 31)) σ else f_X12_onBench_J35_5 (f_X12_onBench_L5 n) x1 x2 x4 x3 (0 : Int32) σ))
def f_X12_onBench (x1 : Nat) (x2 : Int32) (σ : bSto) : Option (Int32 × bSto) := bl1 (f_X12_onBench_L5 bFU x1 x2 (0 : Int32) (0 : Int32) σ) (fun x3_1 σ2 => some (x3_1, σ2))
set_option maxHeartbeats 4000000 in
set_option maxRecDepth 20000 in
theorem e_X12_onBench_J35_5 {X : bX} {l : Launch} {G : bG} {ρ : Nat → Nat} {A : Nat → Prop} {d : Nat} {r : Int32} {σ' : bSto} (C : bCX X cX12_onBench RX12 (d + 0)) (Hh : bH X l G bSHf ρ A 5) (Rt : bRX X (some .int) (some (.int r)) σ') {k : Nat → Int32 → Int32 → Int32 → bSto → Option (Int32 × bSto)} (ih : ∀ (x1 : Nat) (hx1 : kIA x1) (x2 : Int32) (x3 : Int32) (x4 : Int32) (σ : bSto) (q : (Int32 × bSto)), k x1 x2 x3 x4 σ = some q → (∀ (x3 : Int32) (s : bSto), q = (x3, s) → bAJ X 43 [(3, .int x3)] [] s) → bAJ X 5 [(0, .ref 92), (1, .ref x1), (2, .int x2), (3, .int x3), (4, .int x4)] [] σ) (x1 : Nat) (hx1 : kIA x1) (x2 : Int32) (x4 : Int32) (s0 : Int32) (s1 : Int32) (σ : bSto) (q : (Int32 × bSto)) (hF : f_X12_onBench_J35_5 k x1 x2 x4 s0 s1 σ = some q) : (∀ (x3 : Int32) (s : bSto), q = (x3, s) → bAJ X 43 [(3, .int x3)] [] s) → bAJ X 35 [(0, .ref 92), (1, .ref x1), (2, .int x2), (4, .int x4)] [.int s1, .int s0] σ := by
  intro hx
  rw [f_X12_onBench_J35_5] at hF
  refine b_ior (pc := 35) C dX12_onBench_35 ?_
  obtain ⟨x3_1, e2, hF⟩ := blet_e hF
  refine b_istore_n (L' := [(3, .int x3_1), (0, .ref 92), (1, .ref x1), (2, .int x2), (4, .int x4)]) (pc := 36) C dX12_onBench_36 rfl e2 (Hh.2.1 _ (Nat.le_of_ble_eq_true rfl)) rfl ?_
  obtain ⟨x4_3, e4, hF⟩ := blet_e hF
  refine b_iinc (L' := [(4, .int x4_3), (3, .int x3_1), (0, .ref 92), (1, .ref x1), (2, .int x2)]) (pc := 37) C dX12_onBench_37 4 rfl ic_1 e4 (Hh.2.1 _ (Nat.le_of_ble_eq_true rfl)) rfl ?_
  refine b_goto (tgt := 5) (pc := 40) C dX12_onBench_40 rfl ?_
  exact b_sub [2, 3, 4, 1, 0] rfl (ih _ hx1 x2 x3_1 x4_3 _ _ hF hx)
set_option maxHeartbeats 4000000 in
set_option maxRecDepth 20000 in
theorem e_X12_onBench_L5 {X : bX} {l : Launch} {G : bG} {ρ : Nat → Nat} {A : Nat → Prop} {d : Nat} {r : Int32} {σ' : bSto} (C : bCX X cX12_onBench RX12 (d + 0)) (Hh : bH X l G bSHf ρ A 5) (Rt : bRX X (some .int) (some (.int r)) σ') : ∀ (n : Nat) (x1 : Nat) (hx1 : kIA x1) (x2 : Int32) (x3 : Int32) (x4 : Int32) (σ : bSto) (q : (Int32 × bSto)), f_X12_onBench_L5 n x1 x2 x3 x4 σ = some q → (∀ (x3 : Int32) (s : bSto), q = (x3, s) → bAJ X 43 [(3, .int x3)] [] s) → bAJ X 5 [(0, .ref 92), (1, .ref x1), (2, .int x2), (3, .int x3), (4, .int x4)] [] σ := by
  intro n
  induction n with
  | zero => intro x1 hx1 x2 x3 x4 σ q hF; rw [f_X12_onBench_L5] at hF; cases hF
  | succ n ih =>
    intro x1 hx1 x2 x3 x4 σ q hF hx
    rw [f_X12_onBench_L5] at hF
    refine b_iload (pc := 5) C dX12_onBench_5 4 rfl ?_
    refine b_aload_n (pc := 7) C dX12_onBench_7 rfl 0 rfl ?_
    refine b_getS (pc := 8) C dX12_onBench_8 fl_X12_20 (Hh.1 _ _ sh_92) rfl ?_
    refine b_iconst (pc := 11) C dX12_onBench_11 ic_4 ?_
    refine b_ialdK (pc := 12) C dX12_onBench_12 (Hh.1 _ _ sh_95) tn_4 (by decide) ?_
    refine b_icmp_ge (tgt := 43) (pc := 13) C dX12_onBench_13 rfl (fun hc1 => ?_) (fun hc1 => ?_)
    · rw [if_pos hc1] at hF
      exact b_sub [3] rfl (hx _ _ (Option.some.inj hF).symm )
    · rw [if_neg hc1] at hF
      refine b_iload_n (pc := 16) C dX12_onBench_16 rfl 3 rfl ?_
      refine b_aload_n (pc := 17) C dX12_onBench_17 rfl 1 rfl ?_
      refine b_iload (pc := 18) C dX12_onBench_18 4 rfl ?_
      obtain ⟨hb2, hF⟩ := bif_n hF
      refine b_iald (pc := 20) C dX12_onBench_20 (Hh.1 _ _ hx1) hb2 ?_
      refine b_iload_n (pc := 21) C dX12_onBench_21 rfl 2 rfl ?_
      refine b_iconst (pc := 22) C dX12_onBench_22 ic_1 ?_
      refine b_iadd (pc := 23) C dX12_onBench_23 ?_
      refine b_icmp_ne (tgt := 34) (pc := 24) C dX12_onBench_24 rfl (fun hc3 => ?_) (fun hc3 => ?_)
      · rw [if_neg hc3] at hF
        refine b_iconst (pc := 34) C dX12_onBench_34 ic_0 ?_
        exact b_sub [0, 1, 2, 4] rfl (e_X12_onBench_J35_5 C Hh Rt ih _ hx1 x2 x4 x3 (0 : Int32) _ _ hF hx)
      · rw [if_pos hc3] at hF
        refine b_iconst (pc := 27) C dX12_onBench_27 ic_1 ?_
        refine b_iload (pc := 28) C dX12_onBench_28 4 rfl ?_
        refine b_ishl (pc := 30) C dX12_onBench_30 ?_
        refine b_goto (tgt := 35) (pc := 31) C dX12_onBench_31 rfl ?_
        exact b_sub [0, 1, 2, 4] rfl (e_X12_onBench_J35_5 C Hh Rt ih _ hx1 x2 x4 x3 ((1 : Int32) <<< (x4 &&& 31)) _ _ hF hx)
set_option maxHeartbeats 4000000 in
set_option maxRecDepth 20000 in
theorem e_X12_onBench_0 {X : bX} {l : Launch} {G : bG} {ρ : Nat → Nat} {A : Nat → Prop} {d : Nat} {r : Int32} {σ' : bSto} (C : bCX X cX12_onBench RX12 (d + 0)) (Hh : bH X l G bSHf ρ A 5) (Rt : bRX X (some .int) (some (.int r)) σ') (x1 : Nat) (hx1 : kIA x1) (x2 : Int32) (σ : bSto) (hF : f_X12_onBench x1 x2 σ = some (r, σ')) : bAJ X 0 [(0, .ref 92), (1, .ref x1), (2, .int x2)] [] σ := by
  rw [f_X12_onBench] at hF
  refine b_iconst (pc := 0) C dX12_onBench_0 ic_0 ?_
  refine b_istore_n (L' := [(3, .int (0 : Int32)), (0, .ref 92), (1, .ref x1), (2, .int x2)]) (pc := 1) C dX12_onBench_1 rfl rfl (Hh.2.1 _ (Nat.le_of_ble_eq_true rfl)) rfl ?_
  refine b_iconst (pc := 2) C dX12_onBench_2 ic_0 ?_
  refine b_istore (L' := [(4, .int (0 : Int32)), (3, .int (0 : Int32)), (0, .ref 92), (1, .ref x1), (2, .int x2)]) (pc := 3) C dX12_onBench_3 rfl (Hh.2.1 _ (Nat.le_of_ble_eq_true rfl)) rfl ?_
  obtain ⟨x3_1, σ2, hq1, hF⟩ := bl1_e hF
  refine b_sub [2, 3, 4, 1, 0] rfl (e_X12_onBench_L5 C Hh Rt bFU _ hx1 x2 (0 : Int32) (0 : Int32) _ _ hq1 (fun _ _ e  => ?_))
  cases e
  refine b_iload_n (pc := 43) C dX12_onBench_43 rfl 0 rfl ?_
  exact b_iret (pc := 44) C Rt dX12_onBench_44 hF
set_option maxHeartbeats 4000000 in
set_option maxRecDepth 20000 in
theorem e_X12_onBench {l : Launch} {G : bG} {ρ : Nat → Nat} {A : Nat → Prop} (d : Nat) (x1 : Nat) (hx1 : kIA x1) (x2 : Int32) (σ : bSto) (r : Int32) (σ' : bSto) (hF : f_X12_onBench x1 x2 σ = some (r, σ')) : bEv l G bSHf ρ A yX12_onBench cX12_onBench 5 (some .int) (d + 0) [.ref 92, .ref x1, .int x2] σ (some (.int r)) σ' := b_met (d := d + 0) (by decide +kernel) (Nat.le_of_ble_eq_true rfl) rfl (fun X C Rt h1 h2 h3 => e_X12_onBench_0 C ⟨fun o q h => by rw [h1]; exact h, fun i h => by rw [h2]; exact h, h3⟩ Rt _ hx1 _ _ hF)
/-! BenchColonyModel.warmthOf -/
def f_X12_warmthOf (x1 : Int32) (σ : bSto) : Option (Int32 × bSto) := bbd (f_X12_heatOf x1 σ) (fun v3 σ2 => bbd (f_X12_onBench 97 x1 σ2) (fun v6 σ5 => bbd (f_X12_ones v6 σ5) (fun v9 σ8 => some ((v3 + ((3 : Int32) * v9)), σ8))))
set_option maxHeartbeats 4000000 in
set_option maxRecDepth 20000 in
theorem e_X12_warmthOf_0 {X : bX} {l : Launch} {G : bG} {ρ : Nat → Nat} {A : Nat → Prop} {d : Nat} {r : Int32} {σ' : bSto} (C : bCX X cX12_warmthOf RX12 (d + 3)) (Hh : bH X l G bSHf ρ A 2) (Rt : bRX X (some .int) (some (.int r)) σ') (x1 : Int32) (σ : bSto) (hF : f_X12_warmthOf x1 σ = some (r, σ')) : bAJ X 0 [(0, .ref 92), (1, .int x1)] [] σ := by
  rw [f_X12_warmthOf] at hF
  refine b_aload_n (pc := 0) C dX12_warmthOf_0 rfl 0 rfl ?_
  refine b_iload_n (pc := 1) C dX12_warmthOf_1 rfl 1 rfl ?_
  obtain ⟨v3, σ2, hc1, hF⟩ := bbd_e hF
  refine b_cV1i (d' := (d + 2)) (pc := 2) C dX12_warmthOf_2 mm_X12_292 (Hh.1 _ _ sh_92) rfl (Nat.le_of_ble_eq_true rfl) (by omega) (Hh.2.2 _ _ _ _ _ _ _ _ _ (lvl_eq (by omega) (e_X12_heatOf (d + 0) x1 _ _ _ hc1))) ?_
  refine b_iconst (pc := 5) C dX12_warmthOf_5 ic_3 ?_
  refine b_aload_n (pc := 6) C dX12_warmthOf_6 rfl 0 rfl ?_
  refine b_aload_n (pc := 7) C dX12_warmthOf_7 rfl 0 rfl ?_
  refine b_getS (pc := 8) C dX12_warmthOf_8 fl_X12_26 (Hh.1 _ _ sh_92) rfl ?_
  refine b_iload_n (pc := 11) C dX12_warmthOf_11 rfl 1 rfl ?_
  obtain ⟨v6, σ5, hc4, hF⟩ := bbd_e hF
  refine b_cV2i (d' := (d + 2)) (pc := 12) C dX12_warmthOf_12 mm_X12_295 (Hh.1 _ _ sh_92) rfl (Nat.le_of_ble_eq_true rfl) (by omega) (Hh.2.2 _ _ _ _ _ _ _ _ _ (lvl_eq (by omega) (e_X12_onBench (d + 2) _ (show kIA 97 from sh_97) x1 _ _ _ hc4))) ?_
  obtain ⟨v9, σ8, hc7, hF⟩ := bbd_e hF
  refine b_cS1i (d' := (d + 2)) (pc := 15) C dX12_warmthOf_15 mm_X12_299 (Nat.le_of_ble_eq_true rfl) (by omega) (Hh.2.2 _ _ _ _ _ _ _ _ _ (lvl_eq (by omega) (e_X12_ones (d + 2) v6 _ _ _ hc7))) ?_
  refine b_imul (pc := 18) C dX12_warmthOf_18 ?_
  refine b_iadd (pc := 19) C dX12_warmthOf_19 ?_
  exact b_iret (pc := 20) C Rt dX12_warmthOf_20 hF
set_option maxHeartbeats 4000000 in
set_option maxRecDepth 20000 in
theorem e_X12_warmthOf {l : Launch} {G : bG} {ρ : Nat → Nat} {A : Nat → Prop} (d : Nat) (x1 : Int32) (σ : bSto) (r : Int32) (σ' : bSto) (hF : f_X12_warmthOf x1 σ = some (r, σ')) : bEv l G bSHf ρ A yX12_warmthOf cX12_warmthOf 2 (some .int) (d + 3) [.ref 92, .int x1] σ (some (.int r)) σ' := b_met (d := d + 3) (by decide +kernel) (Nat.le_of_ble_eq_true rfl) rfl (fun X C Rt h1 h2 h3 => e_X12_warmthOf_0 C ⟨fun o q h => by rw [h1]; exact h, fun i h => by rw [h2]; exact h, h3⟩ Rt _ _ hF)
/-! BenchColonyModel.mayOn -/
def f_X12_mayOn (x1 : Int32) (x2 : Int32) (σ : bSto) : Option (Int32 × bSto) := bbd (f_X12_kindOf x1 σ) (fun v3 σ2 => if ((11 : Int32) + ((4 : Int32) * x2)) < 0 ∨ 406 ≤ ((11 : Int32) + ((4 : Int32) * x2)).toNatClampNeg then none else bbd (f_X12_mayBe v3 (σ2.1 95 ((11 : Int32) + ((4 : Int32) * x2)).toNatClampNeg) σ2) (fun v7 σ6 => if v7 = 0 ∨ v7 = 1 then some (v7, σ6) else none))
set_option maxHeartbeats 4000000 in
set_option maxRecDepth 20000 in
theorem e_X12_mayOn_0 {X : bX} {l : Launch} {G : bG} {ρ : Nat → Nat} {A : Nat → Prop} {d : Nat} {r : Int32} {σ' : bSto} (C : bCX X cX12_mayOn RX12 (d + 1)) (Hh : bH X l G bSHf ρ A 3) (Rt : bRX X (some .boolean) (some (.int r)) σ') (x1 : Int32) (x2 : Int32) (σ : bSto) (hF : f_X12_mayOn x1 x2 σ = some (r, σ')) : bAJ X 0 [(0, .ref 92), (1, .int x1), (2, .int x2)] [] σ := by
  rw [f_X12_mayOn] at hF
  refine b_aload_n (pc := 0) C dX12_mayOn_0 rfl 0 rfl ?_
  refine b_iload_n (pc := 1) C dX12_mayOn_1 rfl 1 rfl ?_
  obtain ⟨v3, σ2, hc1, hF⟩ := bbd_e hF
  refine b_cV1i (d' := (d + 0)) (pc := 2) C dX12_mayOn_2 mm_X12_302 (Hh.1 _ _ sh_92) rfl (Nat.le_of_ble_eq_true rfl) (by omega) (Hh.2.2 _ _ _ _ _ _ _ _ _ (lvl_eq (by omega) (e_X12_kindOf (d + 0) x1 _ _ _ hc1))) ?_
  refine b_aload_n (pc := 5) C dX12_mayOn_5 rfl 0 rfl ?_
  refine b_getS (pc := 6) C dX12_mayOn_6 fl_X12_20 (Hh.1 _ _ sh_92) rfl ?_
  refine b_bipush (pc := 9) C dX12_mayOn_9 bp_11 ?_
  refine b_iconst (pc := 11) C dX12_mayOn_11 ic_4 ?_
  refine b_iload_n (pc := 12) C dX12_mayOn_12 rfl 2 rfl ?_
  refine b_imul (pc := 13) C dX12_mayOn_13 ?_
  refine b_iadd (pc := 14) C dX12_mayOn_14 ?_
  obtain ⟨hb4, hF⟩ := bif_n hF
  refine b_iald (pc := 15) C dX12_mayOn_15 (Hh.1 _ _ sh_95) hb4 ?_
  obtain ⟨v7, σ6, hc5, hF⟩ := bbd_e hF
  refine b_cS2i (d' := (d + 0)) (pc := 16) C dX12_mayOn_16 mm_X12_274 (Nat.le_of_ble_eq_true rfl) (by omega) (Hh.2.2 _ _ _ _ _ _ _ _ _ (lvl_eq (by omega) (e_X12_mayBe (d + 0) v3 (σ2.1 95 ((11 : Int32) + ((4 : Int32) * x2)).toNatClampNeg) _ _ _ hc5))) ?_
  obtain ⟨hz8, hF⟩ := bif_y hF
  exact b_zret (pc := 19) C Rt dX12_mayOn_19 (bz_n hz8) hF
set_option maxHeartbeats 4000000 in
set_option maxRecDepth 20000 in
theorem e_X12_mayOn {l : Launch} {G : bG} {ρ : Nat → Nat} {A : Nat → Prop} (d : Nat) (x1 : Int32) (x2 : Int32) (σ : bSto) (r : Int32) (σ' : bSto) (hF : f_X12_mayOn x1 x2 σ = some (r, σ')) : bEv l G bSHf ρ A yX12_mayOn cX12_mayOn 3 (some .boolean) (d + 1) [.ref 92, .int x1, .int x2] σ (some (.int r)) σ' := b_met (d := d + 1) (by decide +kernel) (Nat.le_of_ble_eq_true rfl) rfl (fun X C Rt h1 h2 h3 => e_X12_mayOn_0 C ⟨fun o q h => by rw [h1]; exact h, fun i h => by rw [h2]; exact h, h3⟩ Rt _ _ _ hF)
/-! BenchColonyModel.isContent -/
def f_X12_isContent_J94_35 (k : Nat → Int32 → Int32 → Int32 → Int32 → bSto → Option (Int32 × bSto)) (x1 : Nat) (x2 : Int32) (x4 : Int32) (x6 : Int32) (σ : bSto) : Option (Int32 × bSto) := blet (x6 + (1 : Int32)) (fun x6_1 => k x1 x2 x4 (0 : Int32) x6_1 σ)
def f_X12_isContent_L35 : Nat → Nat → Int32 → Int32 → Int32 → Int32 → bSto → Option (Int32 × bSto)
  | 0, _, _, _, _, _, _ => none
  | n + 1, x1, x2, x4, x5, x6, σ => (if (σ.1 95 4) ≤ x6 then some (x5, σ) else (if x5 = 0 then f_X12_isContent_J94_35 (f_X12_isContent_L35 n) x1 x2 x4 x6 σ else bbd (f_X12_kindOf x2 σ) (fun v5 σ4 => (if v5 = (2 : Int32) then if x6 < 0 ∨ (bln x1) ≤ x6.toNatClampNeg then none else (if (σ4.1 x1 x6.toNatClampNeg) = (x4 + (1 : Int32)) then bbd (f_X12_kindOf x6 σ4) (fun v15 σ14 => (if v15 = (1 : Int32) then f_X12_isContent_J94_35 (f_X12_isContent_L35 n) x1 x2 x4 x6 σ14 else bbd (f_X12_kindOf x6 σ14) (fun v19 σ18 => (if v19 = 0 then f_X12_isContent_J94_35 (f_X12_isContent_L35 n) x1 x2 x4 x6 σ18 else blet (x6 + (1 : Int32)) (fun x6_21 => f_X12_isContent_L35 n x1 x2 x4 (1 : Int32) x6_21 σ18))))) else blet (x6 + (1 : Int32)) (fun x6_11 => f_X12_isContent_L35 n x1 x2 x4 (1 : Int32) x6_11 σ4)) else blet (x6 + (1 : Int32)) (fun x6_7 => f_X12_isContent_L35 n x1 x2 x4 (1 : Int32) x6_7 σ4)))))
def f_X12_isContent (x1 : Nat) (x2 : Int32) (x3 : Int32) (σ : bSto) : Option (Int32 × bSto) := if x2 < 0 ∨ (bln x1) ≤ x2.toNatClampNeg then none else blet ((σ.1 x1 x2.toNatClampNeg) - (1 : Int32)) (fun x4_2 => (if x4_2 < 0 then some ((0 : Int32), σ) else bbd (f_X12_heatBy x4_2 x3 σ) (fun v7 σ6 => bbd (f_X12_coldOf x2 σ6) (fun v10 σ9 => (if v10 ≤ v7 then bl1 (f_X12_isContent_L35 bFU x1 x2 x4_2 (1 : Int32) (0 : Int32) σ9) (fun x5_12 σ13 => if x5_12 = 0 ∨ x5_12 = 1 then some (x5_12, σ13) else none) else some ((0 : Int32), σ9))))))
set_option maxHeartbeats 4000000 in
set_option maxRecDepth 20000 in
theorem e_X12_isContent_J94_35 {X : bX} {l : Launch} {G : bG} {ρ : Nat → Nat} {A : Nat → Prop} {d : Nat} {r : Int32} {σ' : bSto} (C : bCX X cX12_isContent RX12 (d + 2)) (Hh : bH X l G bSHf ρ A 7) (Rt : bRX X (some .boolean) (some (.int r)) σ') {k : Nat → Int32 → Int32 → Int32 → Int32 → bSto → Option (Int32 × bSto)} (ih : ∀ (x1 : Nat) (hx1 : kIA x1) (x2 : Int32) (x4 : Int32) (x5 : Int32) (x6 : Int32) (σ : bSto) (q : (Int32 × bSto)), k x1 x2 x4 x5 x6 σ = some q → (∀ (x5 : Int32) (s : bSto), q = (x5, s) → bAJ X 103 [(5, .int x5)] [] s) → bAJ X 35 [(0, .ref 92), (1, .ref x1), (2, .int x2), (4, .int x4), (5, .int x5), (6, .int x6)] [] σ) (x1 : Nat) (hx1 : kIA x1) (x2 : Int32) (x4 : Int32) (x6 : Int32) (σ : bSto) (q : (Int32 × bSto)) (hF : f_X12_isContent_J94_35 k x1 x2 x4 x6 σ = some q) : (∀ (x5 : Int32) (s : bSto), q = (x5, s) → bAJ X 103 [(5, .int x5)] [] s) → bAJ X 94 [(0, .ref 92), (1, .ref x1), (2, .int x2), (4, .int x4), (6, .int x6)] [] σ := by
  intro hx
  rw [f_X12_isContent_J94_35] at hF
  refine b_iconst (pc := 94) C dX12_isContent_94 ic_0 ?_
  refine b_istore (L' := [(5, .int (0 : Int32)), (0, .ref 92), (1, .ref x1), (2, .int x2), (4, .int x4), (6, .int x6)]) (pc := 95) C dX12_isContent_95 rfl (Hh.2.1 _ (Nat.le_of_ble_eq_true rfl)) rfl ?_
  obtain ⟨x6_1, e2, hF⟩ := blet_e hF
  refine b_iinc (L' := [(6, .int x6_1), (5, .int (0 : Int32)), (0, .ref 92), (1, .ref x1), (2, .int x2), (4, .int x4)]) (pc := 97) C dX12_isContent_97 5 rfl ic_1 e2 (Hh.2.1 _ (Nat.le_of_ble_eq_true rfl)) rfl ?_
  refine b_goto (tgt := 35) (pc := 100) C dX12_isContent_100 rfl ?_
  exact b_sub [2, 3, 4, 5, 1, 0] rfl (ih _ hx1 x2 x4 (0 : Int32) x6_1 _ _ hF hx)
set_option maxHeartbeats 4000000 in
set_option maxRecDepth 20000 in
theorem e_X12_isContent_L35 {X : bX} {l : Launch} {G : bG} {ρ : Nat → Nat} {A : Nat → Prop} {d : Nat} {r : Int32} {σ' : bSto} (C : bCX X cX12_isContent RX12 (d + 2)) (Hh : bH X l G bSHf ρ A 7) (Rt : bRX X (some .boolean) (some (.int r)) σ') : ∀ (n : Nat) (x1 : Nat) (hx1 : kIA x1) (x2 : Int32) (x4 : Int32) (x5 : Int32) (x6 : Int32) (σ : bSto) (q : (Int32 × bSto)), f_X12_isContent_L35 n x1 x2 x4 x5 x6 σ = some q → (∀ (x5 : Int32) (s : bSto), q = (x5, s) → bAJ X 103 [(5, .int x5)] [] s) → bAJ X 35 [(0, .ref 92), (1, .ref x1), (2, .int x2), (4, .int x4), (5, .int x5), (6, .int x6)] [] σ := by
  intro n
  induction n with
  | zero => intro x1 hx1 x2 x4 x5 x6 σ q hF; rw [f_X12_isContent_L35] at hF; cases hF
  | succ n ih =>
    intro x1 hx1 x2 x4 x5 x6 σ q hF hx
    rw [f_X12_isContent_L35] at hF
    refine b_iload (pc := 35) C dX12_isContent_35 5 rfl ?_
    refine b_aload_n (pc := 37) C dX12_isContent_37 rfl 0 rfl ?_
    refine b_getS (pc := 38) C dX12_isContent_38 fl_X12_20 (Hh.1 _ _ sh_92) rfl ?_
    refine b_iconst (pc := 41) C dX12_isContent_41 ic_4 ?_
    refine b_ialdK (pc := 42) C dX12_isContent_42 (Hh.1 _ _ sh_95) tn_4 (by decide) ?_
    refine b_icmp_ge (tgt := 103) (pc := 43) C dX12_isContent_43 rfl (fun hc1 => ?_) (fun hc1 => ?_)
    · rw [if_pos hc1] at hF
      exact b_sub [4] rfl (hx _ _ (Option.some.inj hF).symm )
    · rw [if_neg hc1] at hF
      refine b_iload (pc := 46) C dX12_isContent_46 4 rfl ?_
      refine b_if_eq (tgt := 94) (pc := 48) C dX12_isContent_48 rfl (fun hc2 => ?_) (fun hc2 => ?_)
      · rw [if_pos hc2] at hF
        exact b_sub [0, 1, 2, 3, 5] rfl (e_X12_isContent_J94_35 C Hh Rt ih _ hx1 x2 x4 x6 _ _ hF hx)
      · rw [if_neg hc2] at hF
        refine b_aload_n (pc := 51) C dX12_isContent_51 rfl 0 rfl ?_
        refine b_iload_n (pc := 52) C dX12_isContent_52 rfl 2 rfl ?_
        obtain ⟨v5, σ4, hc3, hF⟩ := bbd_e hF
        refine b_cV1i (d' := (d + 1)) (pc := 53) C dX12_isContent_53 mm_X12_302 (Hh.1 _ _ sh_92) rfl (Nat.le_of_ble_eq_true rfl) (by omega) (Hh.2.2 _ _ _ _ _ _ _ _ _ (lvl_eq (by omega) (e_X12_kindOf (d + 1) x2 _ _ _ hc3))) ?_
        refine b_iconst (pc := 56) C dX12_isContent_56 ic_2 ?_
        refine b_icmp_ne (tgt := 90) (pc := 57) C dX12_isContent_57 rfl (fun hc6 => ?_) (fun hc6 => ?_)
        · rw [if_neg hc6] at hF
          refine b_iconst (pc := 90) C dX12_isContent_90 ic_1 ?_
          refine b_goto (tgt := 95) (pc := 91) C dX12_isContent_91 rfl ?_
          refine b_istore (L' := [(5, .int (1 : Int32)), (0, .ref 92), (1, .ref x1), (2, .int x2), (4, .int x4), (6, .int x6)]) (pc := 95) C dX12_isContent_95 rfl (Hh.2.1 _ (Nat.le_of_ble_eq_true rfl)) rfl ?_
          obtain ⟨x6_7, e8, hF⟩ := blet_e hF
          refine b_iinc (L' := [(6, .int x6_7), (5, .int (1 : Int32)), (0, .ref 92), (1, .ref x1), (2, .int x2), (4, .int x4)]) (pc := 97) C dX12_isContent_97 5 rfl ic_1 e8 (Hh.2.1 _ (Nat.le_of_ble_eq_true rfl)) rfl ?_
          refine b_goto (tgt := 35) (pc := 100) C dX12_isContent_100 rfl ?_
          exact b_sub [2, 3, 4, 5, 1, 0] rfl (ih _ hx1 x2 x4 (1 : Int32) x6_7 _ _ hF hx)
        · rw [if_pos hc6] at hF
          refine b_aload_n (pc := 60) C dX12_isContent_60 rfl 1 rfl ?_
          refine b_iload (pc := 61) C dX12_isContent_61 5 rfl ?_
          obtain ⟨hb9, hF⟩ := bif_n hF
          refine b_iald (pc := 63) C dX12_isContent_63 (Hh.1 _ _ hx1) hb9 ?_
          refine b_iload (pc := 64) C dX12_isContent_64 3 rfl ?_
          refine b_iconst (pc := 66) C dX12_isContent_66 ic_1 ?_
          refine b_iadd (pc := 67) C dX12_isContent_67 ?_
          refine b_icmp_ne (tgt := 90) (pc := 68) C dX12_isContent_68 rfl (fun hc10 => ?_) (fun hc10 => ?_)
          · rw [if_neg hc10] at hF
            refine b_iconst (pc := 90) C dX12_isContent_90 ic_1 ?_
            refine b_goto (tgt := 95) (pc := 91) C dX12_isContent_91 rfl ?_
            refine b_istore (L' := [(5, .int (1 : Int32)), (0, .ref 92), (1, .ref x1), (2, .int x2), (4, .int x4), (6, .int x6)]) (pc := 95) C dX12_isContent_95 rfl (Hh.2.1 _ (Nat.le_of_ble_eq_true rfl)) rfl ?_
            obtain ⟨x6_11, e12, hF⟩ := blet_e hF
            refine b_iinc (L' := [(6, .int x6_11), (5, .int (1 : Int32)), (0, .ref 92), (1, .ref x1), (2, .int x2), (4, .int x4)]) (pc := 97) C dX12_isContent_97 5 rfl ic_1 e12 (Hh.2.1 _ (Nat.le_of_ble_eq_true rfl)) rfl ?_
            refine b_goto (tgt := 35) (pc := 100) C dX12_isContent_100 rfl ?_
            exact b_sub [2, 3, 4, 5, 1, 0] rfl (ih _ hx1 x2 x4 (1 : Int32) x6_11 _ _ hF hx)
          · rw [if_pos hc10] at hF
            refine b_aload_n (pc := 71) C dX12_isContent_71 rfl 0 rfl ?_
            refine b_iload (pc := 72) C dX12_isContent_72 5 rfl ?_
            obtain ⟨v15, σ14, hc13, hF⟩ := bbd_e hF
            refine b_cV1i (d' := (d + 1)) (pc := 74) C dX12_isContent_74 mm_X12_302 (Hh.1 _ _ sh_92) rfl (Nat.le_of_ble_eq_true rfl) (by omega) (Hh.2.2 _ _ _ _ _ _ _ _ _ (lvl_eq (by omega) (e_X12_kindOf (d + 1) x6 _ _ _ hc13))) ?_
            refine b_iconst (pc := 77) C dX12_isContent_77 ic_1 ?_
            refine b_icmp_eq (tgt := 94) (pc := 78) C dX12_isContent_78 rfl (fun hc16 => ?_) (fun hc16 => ?_)
            · rw [if_pos hc16] at hF
              exact b_sub [0, 1, 2, 3, 5] rfl (e_X12_isContent_J94_35 C Hh Rt ih _ hx1 x2 x4 x6 _ _ hF hx)
            · rw [if_neg hc16] at hF
              refine b_aload_n (pc := 81) C dX12_isContent_81 rfl 0 rfl ?_
              refine b_iload (pc := 82) C dX12_isContent_82 5 rfl ?_
              obtain ⟨v19, σ18, hc17, hF⟩ := bbd_e hF
              refine b_cV1i (d' := (d + 1)) (pc := 84) C dX12_isContent_84 mm_X12_302 (Hh.1 _ _ sh_92) rfl (Nat.le_of_ble_eq_true rfl) (by omega) (Hh.2.2 _ _ _ _ _ _ _ _ _ (lvl_eq (by omega) (e_X12_kindOf (d + 1) x6 _ _ _ hc17))) ?_
              refine b_if_eq (tgt := 94) (pc := 87) C dX12_isContent_87 rfl (fun hc20 => ?_) (fun hc20 => ?_)
              · rw [if_pos hc20] at hF
                exact b_sub [0, 1, 2, 3, 5] rfl (e_X12_isContent_J94_35 C Hh Rt ih _ hx1 x2 x4 x6 _ _ hF hx)
              · rw [if_neg hc20] at hF
                refine b_iconst (pc := 90) C dX12_isContent_90 ic_1 ?_
                refine b_goto (tgt := 95) (pc := 91) C dX12_isContent_91 rfl ?_
                refine b_istore (L' := [(5, .int (1 : Int32)), (0, .ref 92), (1, .ref x1), (2, .int x2), (4, .int x4), (6, .int x6)]) (pc := 95) C dX12_isContent_95 rfl (Hh.2.1 _ (Nat.le_of_ble_eq_true rfl)) rfl ?_
                obtain ⟨x6_21, e22, hF⟩ := blet_e hF
                refine b_iinc (L' := [(6, .int x6_21), (5, .int (1 : Int32)), (0, .ref 92), (1, .ref x1), (2, .int x2), (4, .int x4)]) (pc := 97) C dX12_isContent_97 5 rfl ic_1 e22 (Hh.2.1 _ (Nat.le_of_ble_eq_true rfl)) rfl ?_
                refine b_goto (tgt := 35) (pc := 100) C dX12_isContent_100 rfl ?_
                exact b_sub [2, 3, 4, 5, 1, 0] rfl (ih _ hx1 x2 x4 (1 : Int32) x6_21 _ _ hF hx)
set_option maxHeartbeats 4000000 in
set_option maxRecDepth 20000 in
theorem e_X12_isContent_0 {X : bX} {l : Launch} {G : bG} {ρ : Nat → Nat} {A : Nat → Prop} {d : Nat} {r : Int32} {σ' : bSto} (C : bCX X cX12_isContent RX12 (d + 2)) (Hh : bH X l G bSHf ρ A 7) (Rt : bRX X (some .boolean) (some (.int r)) σ') (x1 : Nat) (hx1 : kIA x1) (x2 : Int32) (x3 : Int32) (σ : bSto) (hF : f_X12_isContent x1 x2 x3 σ = some (r, σ')) : bAJ X 0 [(0, .ref 92), (1, .ref x1), (2, .int x2), (3, .int x3)] [] σ := by
  rw [f_X12_isContent] at hF
  refine b_aload_n (pc := 0) C dX12_isContent_0 rfl 1 rfl ?_
  refine b_iload_n (pc := 1) C dX12_isContent_1 rfl 2 rfl ?_
  obtain ⟨hb1, hF⟩ := bif_n hF
  refine b_iald (pc := 2) C dX12_isContent_2 (Hh.1 _ _ hx1) hb1 ?_
  refine b_iconst (pc := 3) C dX12_isContent_3 ic_1 ?_
  refine b_isub (pc := 4) C dX12_isContent_4 ?_
  obtain ⟨x4_2, e3, hF⟩ := blet_e hF
  refine b_istore (L' := [(4, .int x4_2), (0, .ref 92), (1, .ref x1), (2, .int x2), (3, .int x3)]) (pc := 5) C dX12_isContent_5 e3 (Hh.2.1 _ (Nat.le_of_ble_eq_true rfl)) rfl ?_
  refine b_iload (pc := 7) C dX12_isContent_7 0 rfl ?_
  refine b_if_lt (tgt := 27) (pc := 9) C dX12_isContent_9 rfl (fun hc4 => ?_) (fun hc4 => ?_)
  · rw [if_pos hc4] at hF
    refine b_iconst (pc := 27) C dX12_isContent_27 ic_0 ?_
    exact b_zret (pc := 28) C Rt dX12_isContent_28 rfl hF
  · rw [if_neg hc4] at hF
    refine b_aload_n (pc := 12) C dX12_isContent_12 rfl 1 rfl ?_
    refine b_iload (pc := 13) C dX12_isContent_13 0 rfl ?_
    refine b_iload_n (pc := 15) C dX12_isContent_15 rfl 4 rfl ?_
    obtain ⟨v7, σ6, hc5, hF⟩ := bbd_e hF
    refine b_cV2i (d' := (d + 1)) (pc := 16) C dX12_isContent_16 mm_X12_289 (Hh.1 _ _ sh_92) rfl (Nat.le_of_ble_eq_true rfl) (by omega) (Hh.2.2 _ _ _ _ _ _ _ _ _ (lvl_eq (by omega) (e_X12_heatBy (d + 0) x4_2 x3 _ _ _ hc5))) ?_
    refine b_aload_n (pc := 19) C dX12_isContent_19 rfl 1 rfl ?_
    refine b_iload_n (pc := 20) C dX12_isContent_20 rfl 3 rfl ?_
    obtain ⟨v10, σ9, hc8, hF⟩ := bbd_e hF
    refine b_cV1i (d' := (d + 1)) (pc := 21) C dX12_isContent_21 mm_X12_305 (Hh.1 _ _ sh_92) rfl (Nat.le_of_ble_eq_true rfl) (by omega) (Hh.2.2 _ _ _ _ _ _ _ _ _ (lvl_eq (by omega) (e_X12_coldOf (d + 1) x2 _ _ _ hc8))) ?_
    refine b_icmp_ge (tgt := 29) (pc := 24) C dX12_isContent_24 rfl (fun hc11 => ?_) (fun hc11 => ?_)
    · rw [if_pos hc11] at hF
      refine b_iconst (pc := 29) C dX12_isContent_29 ic_1 ?_
      refine b_istore (L' := [(5, .int (1 : Int32)), (4, .int x4_2), (0, .ref 92), (1, .ref x1), (2, .int x2), (3, .int x3)]) (pc := 30) C dX12_isContent_30 rfl (Hh.2.1 _ (Nat.le_of_ble_eq_true rfl)) rfl ?_
      refine b_iconst (pc := 32) C dX12_isContent_32 ic_0 ?_
      refine b_istore (L' := [(6, .int (0 : Int32)), (5, .int (1 : Int32)), (4, .int x4_2), (0, .ref 92), (1, .ref x1), (2, .int x2), (3, .int x3)]) (pc := 33) C dX12_isContent_33 rfl (Hh.2.1 _ (Nat.le_of_ble_eq_true rfl)) rfl ?_
      obtain ⟨x5_12, σ13, hq12, hF⟩ := bl1_e hF
      refine b_sub [3, 4, 5, 2, 1, 0] rfl (e_X12_isContent_L35 C Hh Rt bFU _ hx1 x2 x4_2 (1 : Int32) (0 : Int32) _ _ hq12 (fun _ _ e  => ?_))
      cases e
      refine b_iload (pc := 103) C dX12_isContent_103 0 rfl ?_
      obtain ⟨hz14, hF⟩ := bif_y hF
      exact b_zret (pc := 105) C Rt dX12_isContent_105 (bz_n hz14) hF
    · rw [if_neg hc11] at hF
      refine b_iconst (pc := 27) C dX12_isContent_27 ic_0 ?_
      exact b_zret (pc := 28) C Rt dX12_isContent_28 rfl hF
set_option maxHeartbeats 4000000 in
set_option maxRecDepth 20000 in
theorem e_X12_isContent {l : Launch} {G : bG} {ρ : Nat → Nat} {A : Nat → Prop} (d : Nat) (x1 : Nat) (hx1 : kIA x1) (x2 : Int32) (x3 : Int32) (σ : bSto) (r : Int32) (σ' : bSto) (hF : f_X12_isContent x1 x2 x3 σ = some (r, σ')) : bEv l G bSHf ρ A yX12_isContent cX12_isContent 7 (some .boolean) (d + 2) [.ref 92, .ref x1, .int x2, .int x3] σ (some (.int r)) σ' := b_met (d := d + 2) (by decide +kernel) (Nat.le_of_ble_eq_true rfl) rfl (fun X C Rt h1 h2 h3 => e_X12_isContent_0 C ⟨fun o q h => by rw [h1]; exact h, fun i h => by rw [h2]; exact h, h3⟩ Rt _ hx1 _ _ _ hF)
/-! BenchColonyModel.contentOn -/
def f_X12_contentOn_J36_5 (k : Nat → Int32 → Int32 → Int32 → bSto → Option (Int32 × bSto)) (x1 : Nat) (x2 : Int32) (x4 : Int32) (s0 : Int32) (s1 : Int32) (σ : bSto) : Option (Int32 × bSto) := blet (s0 ||| s1) (fun x3_1 => blet (x4 + (1 : Int32)) (fun x4_3 => k x1 x2 x3_1 x4_3 σ))
def f_X12_contentOn_L5 : Nat → Nat → Int32 → Int32 → Int32 → bSto → Option (Int32 × bSto)
  | 0, _, _, _, _, _ => none
  | n + 1, x1, x2, x3, x4, σ => (if (σ.1 95 4) ≤ x4 then some (x3, σ) else bbd (f_X12_isContent x1 x4 x2 σ) (fun v4 σ3 => (if v4 = 0 then f_X12_contentOn_J36_5 (f_X12_contentOn_L5 n) x1 x2 x4 x3 (0 : Int32) σ3 else f_X12_contentOn_J36_5 (f_X12_contentOn_L5 n) x1 x2 x4 x3 ((1 : Int32) <<< (x4 &&& 31)) σ3)))
def f_X12_contentOn (x1 : Nat) (x2 : Int32) (σ : bSto) : Option (Int32 × bSto) := bl1 (f_X12_contentOn_L5 bFU x1 x2 (0 : Int32) (0 : Int32) σ) (fun x3_1 σ2 => some (x3_1, σ2))
set_option maxHeartbeats 4000000 in
set_option maxRecDepth 20000 in
theorem e_X12_contentOn_J36_5 {X : bX} {l : Launch} {G : bG} {ρ : Nat → Nat} {A : Nat → Prop} {d : Nat} {r : Int32} {σ' : bSto} (C : bCX X cX12_contentOn RX12 (d + 3)) (Hh : bH X l G bSHf ρ A 5) (Rt : bRX X (some .int) (some (.int r)) σ') {k : Nat → Int32 → Int32 → Int32 → bSto → Option (Int32 × bSto)} (ih : ∀ (x1 : Nat) (hx1 : kIA x1) (x2 : Int32) (x3 : Int32) (x4 : Int32) (σ : bSto) (q : (Int32 × bSto)), k x1 x2 x3 x4 σ = some q → (∀ (x3 : Int32) (s : bSto), q = (x3, s) → bAJ X 44 [(3, .int x3)] [] s) → bAJ X 5 [(0, .ref 92), (1, .ref x1), (2, .int x2), (3, .int x3), (4, .int x4)] [] σ) (x1 : Nat) (hx1 : kIA x1) (x2 : Int32) (x4 : Int32) (s0 : Int32) (s1 : Int32) (σ : bSto) (q : (Int32 × bSto)) (hF : f_X12_contentOn_J36_5 k x1 x2 x4 s0 s1 σ = some q) : (∀ (x3 : Int32) (s : bSto), q = (x3, s) → bAJ X 44 [(3, .int x3)] [] s) → bAJ X 36 [(0, .ref 92), (1, .ref x1), (2, .int x2), (4, .int x4)] [.int s1, .int s0] σ := by
  intro hx
  rw [f_X12_contentOn_J36_5] at hF
  refine b_ior (pc := 36) C dX12_contentOn_36 ?_
  obtain ⟨x3_1, e2, hF⟩ := blet_e hF
  refine b_istore_n (L' := [(3, .int x3_1), (0, .ref 92), (1, .ref x1), (2, .int x2), (4, .int x4)]) (pc := 37) C dX12_contentOn_37 rfl e2 (Hh.2.1 _ (Nat.le_of_ble_eq_true rfl)) rfl ?_
  obtain ⟨x4_3, e4, hF⟩ := blet_e hF
  refine b_iinc (L' := [(4, .int x4_3), (3, .int x3_1), (0, .ref 92), (1, .ref x1), (2, .int x2)]) (pc := 38) C dX12_contentOn_38 4 rfl ic_1 e4 (Hh.2.1 _ (Nat.le_of_ble_eq_true rfl)) rfl ?_
  refine b_goto (tgt := 5) (pc := 41) C dX12_contentOn_41 rfl ?_
  exact b_sub [2, 3, 4, 1, 0] rfl (ih _ hx1 x2 x3_1 x4_3 _ _ hF hx)
set_option maxHeartbeats 4000000 in
set_option maxRecDepth 20000 in
theorem e_X12_contentOn_L5 {X : bX} {l : Launch} {G : bG} {ρ : Nat → Nat} {A : Nat → Prop} {d : Nat} {r : Int32} {σ' : bSto} (C : bCX X cX12_contentOn RX12 (d + 3)) (Hh : bH X l G bSHf ρ A 5) (Rt : bRX X (some .int) (some (.int r)) σ') : ∀ (n : Nat) (x1 : Nat) (hx1 : kIA x1) (x2 : Int32) (x3 : Int32) (x4 : Int32) (σ : bSto) (q : (Int32 × bSto)), f_X12_contentOn_L5 n x1 x2 x3 x4 σ = some q → (∀ (x3 : Int32) (s : bSto), q = (x3, s) → bAJ X 44 [(3, .int x3)] [] s) → bAJ X 5 [(0, .ref 92), (1, .ref x1), (2, .int x2), (3, .int x3), (4, .int x4)] [] σ := by
  intro n
  induction n with
  | zero => intro x1 hx1 x2 x3 x4 σ q hF; rw [f_X12_contentOn_L5] at hF; cases hF
  | succ n ih =>
    intro x1 hx1 x2 x3 x4 σ q hF hx
    rw [f_X12_contentOn_L5] at hF
    refine b_iload (pc := 5) C dX12_contentOn_5 4 rfl ?_
    refine b_aload_n (pc := 7) C dX12_contentOn_7 rfl 0 rfl ?_
    refine b_getS (pc := 8) C dX12_contentOn_8 fl_X12_20 (Hh.1 _ _ sh_92) rfl ?_
    refine b_iconst (pc := 11) C dX12_contentOn_11 ic_4 ?_
    refine b_ialdK (pc := 12) C dX12_contentOn_12 (Hh.1 _ _ sh_95) tn_4 (by decide) ?_
    refine b_icmp_ge (tgt := 44) (pc := 13) C dX12_contentOn_13 rfl (fun hc1 => ?_) (fun hc1 => ?_)
    · rw [if_pos hc1] at hF
      exact b_sub [3] rfl (hx _ _ (Option.some.inj hF).symm )
    · rw [if_neg hc1] at hF
      refine b_iload_n (pc := 16) C dX12_contentOn_16 rfl 3 rfl ?_
      refine b_aload_n (pc := 17) C dX12_contentOn_17 rfl 0 rfl ?_
      refine b_aload_n (pc := 18) C dX12_contentOn_18 rfl 1 rfl ?_
      refine b_iload (pc := 19) C dX12_contentOn_19 4 rfl ?_
      refine b_iload_n (pc := 21) C dX12_contentOn_21 rfl 2 rfl ?_
      obtain ⟨v4, σ3, hc2, hF⟩ := bbd_e hF
      refine b_cV3i (d' := (d + 2)) (pc := 22) C dX12_contentOn_22 mm_X12_308 (Hh.1 _ _ sh_92) rfl (Nat.le_of_ble_eq_true rfl) (by omega) (Hh.2.2 _ _ _ _ _ _ _ _ _ (lvl_eq (by omega) (e_X12_isContent (d + 0) _ hx1 x4 x2 _ _ _ hc2))) ?_
      refine b_if_eq (tgt := 35) (pc := 25) C dX12_contentOn_25 rfl (fun hc5 => ?_) (fun hc5 => ?_)
      · rw [if_pos hc5] at hF
        refine b_iconst (pc := 35) C dX12_contentOn_35 ic_0 ?_
        exact b_sub [0, 1, 2, 4] rfl (e_X12_contentOn_J36_5 C Hh Rt ih _ hx1 x2 x4 x3 (0 : Int32) _ _ hF hx)
      · rw [if_neg hc5] at hF
        refine b_iconst (pc := 28) C dX12_contentOn_28 ic_1 ?_
        refine b_iload (pc := 29) C dX12_contentOn_29 4 rfl ?_
        refine b_ishl (pc := 31) C dX12_contentOn_31 ?_
        refine b_goto (tgt := 36) (pc := 32) C dX12_contentOn_32 rfl ?_
        exact b_sub [0, 1, 2, 4] rfl (e_X12_contentOn_J36_5 C Hh Rt ih _ hx1 x2 x4 x3 ((1 : Int32) <<< (x4 &&& 31)) _ _ hF hx)
set_option maxHeartbeats 4000000 in
set_option maxRecDepth 20000 in
theorem e_X12_contentOn_0 {X : bX} {l : Launch} {G : bG} {ρ : Nat → Nat} {A : Nat → Prop} {d : Nat} {r : Int32} {σ' : bSto} (C : bCX X cX12_contentOn RX12 (d + 3)) (Hh : bH X l G bSHf ρ A 5) (Rt : bRX X (some .int) (some (.int r)) σ') (x1 : Nat) (hx1 : kIA x1) (x2 : Int32) (σ : bSto) (hF : f_X12_contentOn x1 x2 σ = some (r, σ')) : bAJ X 0 [(0, .ref 92), (1, .ref x1), (2, .int x2)] [] σ := by
  rw [f_X12_contentOn] at hF
  refine b_iconst (pc := 0) C dX12_contentOn_0 ic_0 ?_
  refine b_istore_n (L' := [(3, .int (0 : Int32)), (0, .ref 92), (1, .ref x1), (2, .int x2)]) (pc := 1) C dX12_contentOn_1 rfl rfl (Hh.2.1 _ (Nat.le_of_ble_eq_true rfl)) rfl ?_
  refine b_iconst (pc := 2) C dX12_contentOn_2 ic_0 ?_
  refine b_istore (L' := [(4, .int (0 : Int32)), (3, .int (0 : Int32)), (0, .ref 92), (1, .ref x1), (2, .int x2)]) (pc := 3) C dX12_contentOn_3 rfl (Hh.2.1 _ (Nat.le_of_ble_eq_true rfl)) rfl ?_
  obtain ⟨x3_1, σ2, hq1, hF⟩ := bl1_e hF
  refine b_sub [2, 3, 4, 1, 0] rfl (e_X12_contentOn_L5 C Hh Rt bFU _ hx1 x2 (0 : Int32) (0 : Int32) _ _ hq1 (fun _ _ e  => ?_))
  cases e
  refine b_iload_n (pc := 44) C dX12_contentOn_44 rfl 0 rfl ?_
  exact b_iret (pc := 45) C Rt dX12_contentOn_45 hF
set_option maxHeartbeats 4000000 in
set_option maxRecDepth 20000 in
theorem e_X12_contentOn {l : Launch} {G : bG} {ρ : Nat → Nat} {A : Nat → Prop} (d : Nat) (x1 : Nat) (hx1 : kIA x1) (x2 : Int32) (σ : bSto) (r : Int32) (σ' : bSto) (hF : f_X12_contentOn x1 x2 σ = some (r, σ')) : bEv l G bSHf ρ A yX12_contentOn cX12_contentOn 5 (some .int) (d + 3) [.ref 92, .ref x1, .int x2] σ (some (.int r)) σ' := b_met (d := d + 3) (by decide +kernel) (Nat.le_of_ble_eq_true rfl) rfl (fun X C Rt h1 h2 h3 => e_X12_contentOn_0 C ⟨fun o q h => by rw [h1]; exact h, fun i h => by rw [h2]; exact h, h3⟩ Rt _ hx1 _ _ hF)
/-! BenchColonyModel.isTownOf -/
def f_X12_isTownOf_L45 : Nat → Int32 → Int32 → Int32 → Int32 → bSto → Option (Int32 × bSto)
  | 0, _, _, _, _, _ => none
  | n + 1, x3, x4, x5, x6, σ => if x3 < 0 ∨ 406 ≤ x3.toNatClampNeg then none else (if (σ.1 95 x3.toNatClampNeg) ≤ x6 then some (x5, σ) else (if x5 = 0 then some (x5, σ) else if ((x3 + (1 : Int32)) + x6) < 0 ∨ 406 ≤ ((x3 + (1 : Int32)) + x6).toNatClampNeg then none else if ((x4 + (1 : Int32)) + x6) < 0 ∨ 406 ≤ ((x4 + (1 : Int32)) + x6).toNatClampNeg then none else (if (σ.1 95 ((x3 + (1 : Int32)) + x6).toNatClampNeg) = (σ.1 95 ((x4 + (1 : Int32)) + x6).toNatClampNeg) then blet (x6 + (1 : Int32)) (fun x6_9 => f_X12_isTownOf_L45 n x3 x4 (1 : Int32) x6_9 σ) else blet (x6 + (1 : Int32)) (fun x6_7 => f_X12_isTownOf_L45 n x3 x4 (0 : Int32) x6_7 σ))))
def f_X12_isTownOf_J40 (x3 : Int32) (x4 : Int32) (s0 : Int32) (σ : bSto) : Option (Int32 × bSto) := bl1 (f_X12_isTownOf_L45 bFU x3 x4 s0 (0 : Int32) σ) (fun x5_1 σ2 => if x5_1 = 0 ∨ x5_1 = 1 then some (x5_1, σ2) else none)
def f_X12_isTownOf (x1 : Int32) (x2 : Int32) (σ : bSto) : Option (Int32 × bSto) := blet ((226 : Int32) + ((9 : Int32) * x1)) (fun x3_1 => blet ((226 : Int32) + ((9 : Int32) * x2)) (fun x4_3 => if x3_1 < 0 ∨ 406 ≤ x3_1.toNatClampNeg then none else if x4_3 < 0 ∨ 406 ≤ x4_3.toNatClampNeg then none else (if (σ.1 95 x3_1.toNatClampNeg) = (σ.1 95 x4_3.toNatClampNeg) then f_X12_isTownOf_J40 x3_1 x4_3 (1 : Int32) σ else f_X12_isTownOf_J40 x3_1 x4_3 (0 : Int32) σ)))
set_option maxHeartbeats 4000000 in
set_option maxRecDepth 20000 in
theorem e_X12_isTownOf_L45 {X : bX} {l : Launch} {G : bG} {ρ : Nat → Nat} {A : Nat → Prop} {d : Nat} {r : Int32} {σ' : bSto} (C : bCX X cX12_isTownOf RX12 (d + 0)) (Hh : bH X l G bSHf ρ A 7) (Rt : bRX X (some .boolean) (some (.int r)) σ') : ∀ (n : Nat) (x3 : Int32) (x4 : Int32) (x5 : Int32) (x6 : Int32) (σ : bSto) (q : (Int32 × bSto)), f_X12_isTownOf_L45 n x3 x4 x5 x6 σ = some q → (∀ (x5 : Int32) (s : bSto), q = (x5, s) → bAJ X 100 [(5, .int x5)] [] s) → bAJ X 45 [(0, .ref 92), (3, .int x3), (4, .int x4), (5, .int x5), (6, .int x6)] [] σ := by
  intro n
  induction n with
  | zero => intro x3 x4 x5 x6 σ q hF; rw [f_X12_isTownOf_L45] at hF; cases hF
  | succ n ih =>
    intro x3 x4 x5 x6 σ q hF hx
    rw [f_X12_isTownOf_L45] at hF
    refine b_iload (pc := 45) C dX12_isTownOf_45 4 rfl ?_
    refine b_aload_n (pc := 47) C dX12_isTownOf_47 rfl 0 rfl ?_
    refine b_getS (pc := 48) C dX12_isTownOf_48 fl_X12_20 (Hh.1 _ _ sh_92) rfl ?_
    refine b_iload_n (pc := 51) C dX12_isTownOf_51 rfl 1 rfl ?_
    obtain ⟨hb1, hF⟩ := bif_n hF
    refine b_iald (pc := 52) C dX12_isTownOf_52 (Hh.1 _ _ sh_95) hb1 ?_
    refine b_icmp_ge (tgt := 100) (pc := 53) C dX12_isTownOf_53 rfl (fun hc2 => ?_) (fun hc2 => ?_)
    · rw [if_pos hc2] at hF
      exact b_sub [3] rfl (hx _ _ (Option.some.inj hF).symm )
    · rw [if_neg hc2] at hF
      refine b_iload (pc := 56) C dX12_isTownOf_56 3 rfl ?_
      refine b_if_eq (tgt := 100) (pc := 58) C dX12_isTownOf_58 rfl (fun hc3 => ?_) (fun hc3 => ?_)
      · rw [if_pos hc3] at hF
        exact b_sub [3] rfl (hx _ _ (Option.some.inj hF).symm )
      · rw [if_neg hc3] at hF
        refine b_aload_n (pc := 61) C dX12_isTownOf_61 rfl 0 rfl ?_
        refine b_getS (pc := 62) C dX12_isTownOf_62 fl_X12_20 (Hh.1 _ _ sh_92) rfl ?_
        refine b_iload_n (pc := 65) C dX12_isTownOf_65 rfl 1 rfl ?_
        refine b_iconst (pc := 66) C dX12_isTownOf_66 ic_1 ?_
        refine b_iadd (pc := 67) C dX12_isTownOf_67 ?_
        refine b_iload (pc := 68) C dX12_isTownOf_68 4 rfl ?_
        refine b_iadd (pc := 70) C dX12_isTownOf_70 ?_
        obtain ⟨hb4, hF⟩ := bif_n hF
        refine b_iald (pc := 71) C dX12_isTownOf_71 (Hh.1 _ _ sh_95) hb4 ?_
        refine b_aload_n (pc := 72) C dX12_isTownOf_72 rfl 0 rfl ?_
        refine b_getS (pc := 73) C dX12_isTownOf_73 fl_X12_20 (Hh.1 _ _ sh_92) rfl ?_
        refine b_iload (pc := 76) C dX12_isTownOf_76 2 rfl ?_
        refine b_iconst (pc := 78) C dX12_isTownOf_78 ic_1 ?_
        refine b_iadd (pc := 79) C dX12_isTownOf_79 ?_
        refine b_iload (pc := 80) C dX12_isTownOf_80 4 rfl ?_
        refine b_iadd (pc := 82) C dX12_isTownOf_82 ?_
        obtain ⟨hb5, hF⟩ := bif_n hF
        refine b_iald (pc := 83) C dX12_isTownOf_83 (Hh.1 _ _ sh_95) hb5 ?_
        refine b_icmp_ne (tgt := 91) (pc := 84) C dX12_isTownOf_84 rfl (fun hc6 => ?_) (fun hc6 => ?_)
        · rw [if_neg hc6] at hF
          refine b_iconst (pc := 91) C dX12_isTownOf_91 ic_0 ?_
          refine b_istore (L' := [(5, .int (0 : Int32)), (0, .ref 92), (3, .int x3), (4, .int x4), (6, .int x6)]) (pc := 92) C dX12_isTownOf_92 rfl (Hh.2.1 _ (Nat.le_of_ble_eq_true rfl)) rfl ?_
          obtain ⟨x6_7, e8, hF⟩ := blet_e hF
          refine b_iinc (L' := [(6, .int x6_7), (5, .int (0 : Int32)), (0, .ref 92), (3, .int x3), (4, .int x4)]) (pc := 94) C dX12_isTownOf_94 4 rfl ic_1 e8 (Hh.2.1 _ (Nat.le_of_ble_eq_true rfl)) rfl ?_
          refine b_goto (tgt := 45) (pc := 97) C dX12_isTownOf_97 rfl ?_
          exact b_sub [2, 3, 4, 1, 0] rfl (ih x3 x4 (0 : Int32) x6_7 _ _ hF hx)
        · rw [if_pos hc6] at hF
          refine b_iconst (pc := 87) C dX12_isTownOf_87 ic_1 ?_
          refine b_goto (tgt := 92) (pc := 88) C dX12_isTownOf_88 rfl ?_
          refine b_istore (L' := [(5, .int (1 : Int32)), (0, .ref 92), (3, .int x3), (4, .int x4), (6, .int x6)]) (pc := 92) C dX12_isTownOf_92 rfl (Hh.2.1 _ (Nat.le_of_ble_eq_true rfl)) rfl ?_
          obtain ⟨x6_9, e10, hF⟩ := blet_e hF
          refine b_iinc (L' := [(6, .int x6_9), (5, .int (1 : Int32)), (0, .ref 92), (3, .int x3), (4, .int x4)]) (pc := 94) C dX12_isTownOf_94 4 rfl ic_1 e10 (Hh.2.1 _ (Nat.le_of_ble_eq_true rfl)) rfl ?_
          refine b_goto (tgt := 45) (pc := 97) C dX12_isTownOf_97 rfl ?_
          exact b_sub [2, 3, 4, 1, 0] rfl (ih x3 x4 (1 : Int32) x6_9 _ _ hF hx)
set_option maxHeartbeats 4000000 in
set_option maxRecDepth 20000 in
theorem e_X12_isTownOf_J40 {X : bX} {l : Launch} {G : bG} {ρ : Nat → Nat} {A : Nat → Prop} {d : Nat} {r : Int32} {σ' : bSto} (C : bCX X cX12_isTownOf RX12 (d + 0)) (Hh : bH X l G bSHf ρ A 7) (Rt : bRX X (some .boolean) (some (.int r)) σ') (x3 : Int32) (x4 : Int32) (s0 : Int32) (σ : bSto) (hF : f_X12_isTownOf_J40 x3 x4 s0 σ = some (r, σ')) : bAJ X 40 [(0, .ref 92), (3, .int x3), (4, .int x4)] [.int s0] σ := by
  rw [f_X12_isTownOf_J40] at hF
  refine b_istore (L' := [(5, .int s0), (0, .ref 92), (3, .int x3), (4, .int x4)]) (pc := 40) C dX12_isTownOf_40 rfl (Hh.2.1 _ (Nat.le_of_ble_eq_true rfl)) rfl ?_
  refine b_iconst (pc := 42) C dX12_isTownOf_42 ic_0 ?_
  refine b_istore (L' := [(6, .int (0 : Int32)), (5, .int s0), (0, .ref 92), (3, .int x3), (4, .int x4)]) (pc := 43) C dX12_isTownOf_43 rfl (Hh.2.1 _ (Nat.le_of_ble_eq_true rfl)) rfl ?_
  obtain ⟨x5_1, σ2, hq1, hF⟩ := bl1_e hF
  refine b_sub [2, 3, 4, 1, 0] rfl (e_X12_isTownOf_L45 C Hh Rt bFU x3 x4 s0 (0 : Int32) _ _ hq1 (fun _ _ e  => ?_))
  cases e
  refine b_iload (pc := 100) C dX12_isTownOf_100 0 rfl ?_
  obtain ⟨hz3, hF⟩ := bif_y hF
  exact b_zret (pc := 102) C Rt dX12_isTownOf_102 (bz_n hz3) hF
set_option maxHeartbeats 4000000 in
set_option maxRecDepth 20000 in
theorem e_X12_isTownOf_0 {X : bX} {l : Launch} {G : bG} {ρ : Nat → Nat} {A : Nat → Prop} {d : Nat} {r : Int32} {σ' : bSto} (C : bCX X cX12_isTownOf RX12 (d + 0)) (Hh : bH X l G bSHf ρ A 7) (Rt : bRX X (some .boolean) (some (.int r)) σ') (x1 : Int32) (x2 : Int32) (σ : bSto) (hF : f_X12_isTownOf x1 x2 σ = some (r, σ')) : bAJ X 0 [(0, .ref 92), (1, .int x1), (2, .int x2)] [] σ := by
  rw [f_X12_isTownOf] at hF
  refine b_sipush (pc := 0) C dX12_isTownOf_0 sp_226 ?_
  refine b_bipush (pc := 3) C dX12_isTownOf_3 bp_9 ?_
  refine b_iload_n (pc := 5) C dX12_isTownOf_5 rfl 1 rfl ?_
  refine b_imul (pc := 6) C dX12_isTownOf_6 ?_
  refine b_iadd (pc := 7) C dX12_isTownOf_7 ?_
  obtain ⟨x3_1, e2, hF⟩ := blet_e hF
  refine b_istore_n (L' := [(3, .int x3_1), (0, .ref 92), (1, .int x1), (2, .int x2)]) (pc := 8) C dX12_isTownOf_8 rfl e2 (Hh.2.1 _ (Nat.le_of_ble_eq_true rfl)) rfl ?_
  refine b_sipush (pc := 9) C dX12_isTownOf_9 sp_226 ?_
  refine b_bipush (pc := 12) C dX12_isTownOf_12 bp_9 ?_
  refine b_iload_n (pc := 14) C dX12_isTownOf_14 rfl 3 rfl ?_
  refine b_imul (pc := 15) C dX12_isTownOf_15 ?_
  refine b_iadd (pc := 16) C dX12_isTownOf_16 ?_
  obtain ⟨x4_3, e4, hF⟩ := blet_e hF
  refine b_istore (L' := [(4, .int x4_3), (3, .int x3_1), (0, .ref 92), (1, .int x1), (2, .int x2)]) (pc := 17) C dX12_isTownOf_17 e4 (Hh.2.1 _ (Nat.le_of_ble_eq_true rfl)) rfl ?_
  refine b_aload_n (pc := 19) C dX12_isTownOf_19 rfl 2 rfl ?_
  refine b_getS (pc := 20) C dX12_isTownOf_20 fl_X12_20 (Hh.1 _ _ sh_92) rfl ?_
  refine b_iload_n (pc := 23) C dX12_isTownOf_23 rfl 1 rfl ?_
  obtain ⟨hb5, hF⟩ := bif_n hF
  refine b_iald (pc := 24) C dX12_isTownOf_24 (Hh.1 _ _ sh_95) hb5 ?_
  refine b_aload_n (pc := 25) C dX12_isTownOf_25 rfl 2 rfl ?_
  refine b_getS (pc := 26) C dX12_isTownOf_26 fl_X12_20 (Hh.1 _ _ sh_92) rfl ?_
  refine b_iload (pc := 29) C dX12_isTownOf_29 0 rfl ?_
  obtain ⟨hb6, hF⟩ := bif_n hF
  refine b_iald (pc := 31) C dX12_isTownOf_31 (Hh.1 _ _ sh_95) hb6 ?_
  refine b_icmp_ne (tgt := 39) (pc := 32) C dX12_isTownOf_32 rfl (fun hc7 => ?_) (fun hc7 => ?_)
  · rw [if_neg hc7] at hF
    refine b_iconst (pc := 39) C dX12_isTownOf_39 ic_0 ?_
    exact b_sub [2, 1, 0] rfl (e_X12_isTownOf_J40 C Hh Rt x3_1 x4_3 (0 : Int32) _ hF)
  · rw [if_pos hc7] at hF
    refine b_iconst (pc := 35) C dX12_isTownOf_35 ic_1 ?_
    refine b_goto (tgt := 40) (pc := 36) C dX12_isTownOf_36 rfl ?_
    exact b_sub [2, 1, 0] rfl (e_X12_isTownOf_J40 C Hh Rt x3_1 x4_3 (1 : Int32) _ hF)
set_option maxHeartbeats 4000000 in
set_option maxRecDepth 20000 in
theorem e_X12_isTownOf {l : Launch} {G : bG} {ρ : Nat → Nat} {A : Nat → Prop} (d : Nat) (x1 : Int32) (x2 : Int32) (σ : bSto) (r : Int32) (σ' : bSto) (hF : f_X12_isTownOf x1 x2 σ = some (r, σ')) : bEv l G bSHf ρ A yX12_isTownOf cX12_isTownOf 7 (some .boolean) (d + 0) [.ref 92, .int x1, .int x2] σ (some (.int r)) σ' := b_met (d := d + 0) (by decide +kernel) (Nat.le_of_ble_eq_true rfl) rfl (fun X C Rt h1 h2 h3 => e_X12_isTownOf_0 C ⟨fun o q h => by rw [h1]; exact h, fun i h => by rw [h2]; exact h, h3⟩ Rt _ _ _ hF)
/-! BenchColonyModel.bench -/
def f_X12_bench_J22  (σ : bSto) : Option (Int32 × bSto) := bbd (f_X12_no (1 : Int32) σ) (fun v3 σ2 => some (v3, σ2))
def f_X12_bench (x1 : Int32) (x2 : Int32) (σ : bSto) : Option (Int32 × bSto) := bbv (f_X12_good  σ) (fun σ2 => bbd (f_X12_isBench x1 σ2) (fun v5 σ4 => (if v5 = 0 then f_X12_bench_J22  σ4 else bbd (f_X12_in x2 (0 : Int32) (6 : Int32) σ4) (fun v9 σ8 => (if v9 = 0 then f_X12_bench_J22  σ8 else (if (4 : Int32) ≤ x2 then (if x2 = (4 : Int32) then bbd (f_X12_heatOf x1 σ8) (fun v22 σ21 => some (v22, σ21)) else (if x2 = (5 : Int32) then bbd (f_X12_warmthOf x1 σ8) (fun v19 σ18 => some (v19, σ18)) else bbd (f_X12_onBench 97 x1 σ8) (fun v16 σ15 => some (v16, σ15)))) else if (((11 : Int32) + ((4 : Int32) * x1)) + x2) < 0 ∨ 406 ≤ (((11 : Int32) + ((4 : Int32) * x1)) + x2).toNatClampNeg then none else some ((σ8.1 95 (((11 : Int32) + ((4 : Int32) * x1)) + x2).toNatClampNeg), σ8)))))))
set_option maxHeartbeats 4000000 in
set_option maxRecDepth 20000 in
theorem e_X12_bench_J22 {X : bX} {l : Launch} {G : bG} {ρ : Nat → Nat} {A : Nat → Prop} {d : Nat} {r : Int32} {σ' : bSto} (C : bCX X cX12_bench RX12 (d + 4)) (Hh : bH X l G bSHf ρ A 3) (Rt : bRX X (some .int) (some (.int r)) σ')  (σ : bSto) (hF : f_X12_bench_J22  σ = some (r, σ')) : bAJ X 22 [(0, .ref 92)] [] σ := by
  rw [f_X12_bench_J22] at hF
  refine b_aload_n (pc := 22) C dX12_bench_22 rfl 0 rfl ?_
  refine b_iconst (pc := 23) C dX12_bench_23 ic_1 ?_
  obtain ⟨v3, σ2, hc1, hF⟩ := bbd_e hF
  refine b_cV1i (d' := (d + 3)) (pc := 24) C dX12_bench_24 mm_X12_184 (Hh.1 _ _ sh_92) rfl (Nat.le_of_ble_eq_true rfl) (by omega) (Hh.2.2 _ _ _ _ _ _ _ _ _ (lvl_eq (by omega) (e_X12_no (d + 3) (1 : Int32) _ _ _ hc1))) ?_
  exact b_iret (pc := 27) C Rt dX12_bench_27 hF
set_option maxHeartbeats 4000000 in
set_option maxRecDepth 20000 in
theorem e_X12_bench_0 {X : bX} {l : Launch} {G : bG} {ρ : Nat → Nat} {A : Nat → Prop} {d : Nat} {r : Int32} {σ' : bSto} (C : bCX X cX12_bench RX12 (d + 4)) (Hh : bH X l G bSHf ρ A 3) (Rt : bRX X (some .int) (some (.int r)) σ') (x1 : Int32) (x2 : Int32) (σ : bSto) (hF : f_X12_bench x1 x2 σ = some (r, σ')) : bAJ X 0 [(0, .ref 92), (1, .int x1), (2, .int x2)] [] σ := by
  rw [f_X12_bench] at hF
  refine b_aload_n (pc := 0) C dX12_bench_0 rfl 0 rfl ?_
  obtain ⟨σ2, hc1, hF⟩ := bbv_e hF
  refine b_cV0v (d' := (d + 3)) (pc := 1) C dX12_bench_1 mm_X12_181 (Hh.1 _ _ sh_92) rfl (Nat.le_of_ble_eq_true rfl) (by omega) (Hh.2.2 _ _ _ _ _ _ _ _ _ (lvl_eq (by omega) (e_X12_good (d + 3)  _ _ hc1))) ?_
  refine b_aload_n (pc := 4) C dX12_bench_4 rfl 0 rfl ?_
  refine b_iload_n (pc := 5) C dX12_bench_5 rfl 1 rfl ?_
  obtain ⟨v5, σ4, hc3, hF⟩ := bbd_e hF
  refine b_cV1i (d' := (d + 3)) (pc := 6) C dX12_bench_6 mm_X12_312 (Hh.1 _ _ sh_92) rfl (Nat.le_of_ble_eq_true rfl) (by omega) (Hh.2.2 _ _ _ _ _ _ _ _ _ (lvl_eq (by omega) (e_X12_isBench (d + 2) x1 _ _ _ hc3))) ?_
  refine b_if_eq (tgt := 22) (pc := 9) C dX12_bench_9 rfl (fun hc6 => ?_) (fun hc6 => ?_)
  · rw [if_pos hc6] at hF
    exact b_sub [0] rfl (e_X12_bench_J22 C Hh Rt  _ hF)
  · rw [if_neg hc6] at hF
    refine b_iload_n (pc := 12) C dX12_bench_12 rfl 2 rfl ?_
    refine b_iconst (pc := 13) C dX12_bench_13 ic_0 ?_
    refine b_bipush (pc := 14) C dX12_bench_14 bp_6 ?_
    obtain ⟨v9, σ8, hc7, hF⟩ := bbd_e hF
    refine b_cS3i (d' := (d + 3)) (pc := 16) C dX12_bench_16 mm_X12_160 (Nat.le_of_ble_eq_true rfl) (by omega) (Hh.2.2 _ _ _ _ _ _ _ _ _ (lvl_eq (by omega) (e_X12_in (d + 3) x2 (0 : Int32) (6 : Int32) _ _ _ hc7))) ?_
    refine b_if_ne (tgt := 28) (pc := 19) C dX12_bench_19 rfl (fun hc10 => ?_) (fun hc10 => ?_)
    · rw [if_neg hc10] at hF
      refine b_iload_n (pc := 28) C dX12_bench_28 rfl 2 rfl ?_
      refine b_iconst (pc := 29) C dX12_bench_29 ic_4 ?_
      refine b_icmp_ge (tgt := 49) (pc := 30) C dX12_bench_30 rfl (fun hc11 => ?_) (fun hc11 => ?_)
      · rw [if_pos hc11] at hF
        refine b_iload_n (pc := 49) C dX12_bench_49 rfl 2 rfl ?_
        refine b_iconst (pc := 50) C dX12_bench_50 ic_4 ?_
        refine b_icmp_ne (tgt := 62) (pc := 51) C dX12_bench_51 rfl (fun hc12 => ?_) (fun hc12 => ?_)
        · rw [if_neg hc12] at hF
          refine b_iload_n (pc := 62) C dX12_bench_62 rfl 2 rfl ?_
          refine b_iconst (pc := 63) C dX12_bench_63 ic_5 ?_
          refine b_icmp_ne (tgt := 75) (pc := 64) C dX12_bench_64 rfl (fun hc13 => ?_) (fun hc13 => ?_)
          · rw [if_neg hc13] at hF
            refine b_aload_n (pc := 75) C dX12_bench_75 rfl 0 rfl ?_
            refine b_aload_n (pc := 76) C dX12_bench_76 rfl 0 rfl ?_
            refine b_getS (pc := 77) C dX12_bench_77 fl_X12_26 (Hh.1 _ _ sh_92) rfl ?_
            refine b_iload_n (pc := 80) C dX12_bench_80 rfl 1 rfl ?_
            obtain ⟨v16, σ15, hc14, hF⟩ := bbd_e hF
            refine b_cV2i (d' := (d + 3)) (pc := 81) C dX12_bench_81 mm_X12_295 (Hh.1 _ _ sh_92) rfl (Nat.le_of_ble_eq_true rfl) (by omega) (Hh.2.2 _ _ _ _ _ _ _ _ _ (lvl_eq (by omega) (e_X12_onBench (d + 3) _ (show kIA 97 from sh_97) x1 _ _ _ hc14))) ?_
            exact b_iret (pc := 84) C Rt dX12_bench_84 hF
          · rw [if_pos hc13] at hF
            refine b_aload_n (pc := 67) C dX12_bench_67 rfl 0 rfl ?_
            refine b_iload_n (pc := 68) C dX12_bench_68 rfl 1 rfl ?_
            obtain ⟨v19, σ18, hc17, hF⟩ := bbd_e hF
            refine b_cV1i (d' := (d + 3)) (pc := 69) C dX12_bench_69 mm_X12_315 (Hh.1 _ _ sh_92) rfl (Nat.le_of_ble_eq_true rfl) (by omega) (Hh.2.2 _ _ _ _ _ _ _ _ _ (lvl_eq (by omega) (e_X12_warmthOf (d + 0) x1 _ _ _ hc17))) ?_
            refine b_goto (tgt := 84) (pc := 72) C dX12_bench_72 rfl ?_
            exact b_iret (pc := 84) C Rt dX12_bench_84 hF
        · rw [if_pos hc12] at hF
          refine b_aload_n (pc := 54) C dX12_bench_54 rfl 0 rfl ?_
          refine b_iload_n (pc := 55) C dX12_bench_55 rfl 1 rfl ?_
          obtain ⟨v22, σ21, hc20, hF⟩ := bbd_e hF
          refine b_cV1i (d' := (d + 3)) (pc := 56) C dX12_bench_56 mm_X12_292 (Hh.1 _ _ sh_92) rfl (Nat.le_of_ble_eq_true rfl) (by omega) (Hh.2.2 _ _ _ _ _ _ _ _ _ (lvl_eq (by omega) (e_X12_heatOf (d + 1) x1 _ _ _ hc20))) ?_
          refine b_goto (tgt := 84) (pc := 59) C dX12_bench_59 rfl ?_
          exact b_iret (pc := 84) C Rt dX12_bench_84 hF
      · rw [if_neg hc11] at hF
        refine b_aload_n (pc := 33) C dX12_bench_33 rfl 0 rfl ?_
        refine b_getS (pc := 34) C dX12_bench_34 fl_X12_20 (Hh.1 _ _ sh_92) rfl ?_
        refine b_bipush (pc := 37) C dX12_bench_37 bp_11 ?_
        refine b_iconst (pc := 39) C dX12_bench_39 ic_4 ?_
        refine b_iload_n (pc := 40) C dX12_bench_40 rfl 1 rfl ?_
        refine b_imul (pc := 41) C dX12_bench_41 ?_
        refine b_iadd (pc := 42) C dX12_bench_42 ?_
        refine b_iload_n (pc := 43) C dX12_bench_43 rfl 2 rfl ?_
        refine b_iadd (pc := 44) C dX12_bench_44 ?_
        obtain ⟨hb23, hF⟩ := bif_n hF
        refine b_iald (pc := 45) C dX12_bench_45 (Hh.1 _ _ sh_95) hb23 ?_
        refine b_goto (tgt := 84) (pc := 46) C dX12_bench_46 rfl ?_
        exact b_iret (pc := 84) C Rt dX12_bench_84 hF
    · rw [if_pos hc10] at hF
      exact b_sub [0] rfl (e_X12_bench_J22 C Hh Rt  _ hF)
set_option maxHeartbeats 4000000 in
set_option maxRecDepth 20000 in
theorem e_X12_bench {l : Launch} {G : bG} {ρ : Nat → Nat} {A : Nat → Prop} (d : Nat) (x1 : Int32) (x2 : Int32) (σ : bSto) (r : Int32) (σ' : bSto) (hF : f_X12_bench x1 x2 σ = some (r, σ')) : bEv l G bSHf ρ A yX12_bench cX12_bench 3 (some .int) (d + 4) [.ref 92, .int x1, .int x2] σ (some (.int r)) σ' := b_met (d := d + 4) (by decide +kernel) (Nat.le_of_ble_eq_true rfl) rfl (fun X C Rt h1 h2 h3 => e_X12_bench_0 C ⟨fun o q h => by rw [h1]; exact h, fun i h => by rw [h2]; exact h, h3⟩ Rt _ _ _ hF)
/-! BenchColonyModel.person -/
def f_X12_person_J21  (σ : bSto) : Option (Int32 × bSto) := bbd (f_X12_less (1 : Int32) σ) (fun v3 σ2 => some (v3, σ2))
def f_X12_person_J68_32 (k : Int32 → Int32 → Int32 → Int32 → bSto → Option (Int32 × Int32 × Int32 × bSto)) (x1 : Int32) (x2 : Int32) (x4 : Int32) (s0 : Int32) (s1 : Int32) (σ : bSto) : Option (Int32 × Int32 × Int32 × bSto) := blet (s0 ||| s1) (fun x3_1 => blet (x4 + (1 : Int32)) (fun x4_3 => k x1 x2 x3_1 x4_3 σ))
def f_X12_person_J67_32 (k : Int32 → Int32 → Int32 → Int32 → bSto → Option (Int32 × Int32 × Int32 × bSto)) (x1 : Int32) (x2 : Int32) (x4 : Int32) (s0 : Int32) (σ : bSto) : Option (Int32 × Int32 × Int32 × bSto) := f_X12_person_J68_32 k x1 x2 x4 s0 (0 : Int32) σ
def f_X12_person_L32 : Nat → Int32 → Int32 → Int32 → Int32 → bSto → Option (Int32 × Int32 × Int32 × bSto)
  | 0, _, _, _, _, _ => none
  | n + 1, x1, x2, x3, x4, σ => (if (σ.1 95 4) ≤ x4 then some (x1, x2, x3, σ) else (if x4 = x1 then f_X12_person_J67_32 (f_X12_person_L32 n) x1 x2 x4 x3 σ else bbd (f_X12_isTownOf x1 x4 σ) (fun v5 σ4 => (if v5 = 0 then f_X12_person_J67_32 (f_X12_person_L32 n) x1 x2 x4 x3 σ4 else f_X12_person_J68_32 (f_X12_person_L32 n) x1 x2 x4 x3 ((1 : Int32) <<< (x4 &&& 31)) σ4))))
def f_X12_person (x1 : Int32) (x2 : Int32) (σ : bSto) : Option (Int32 × bSto) := bbv (f_X12_good  σ) (fun σ2 => bbd (f_X12_isPerson x1 σ2) (fun v5 σ4 => (if v5 = 0 then f_X12_person_J21  σ4 else bbd (f_X12_in x2 (0 : Int32) (5 : Int32) σ4) (fun v9 σ8 => (if v9 = 0 then f_X12_person_J21  σ8 else bl3 (f_X12_person_L32 bFU x1 x2 (0 : Int32) (0 : Int32) σ8) (fun x1_11 x2_11 x3_11 σ12 => (if x2_11 = (0 : Int32) then bbd (f_X12_kindOf x1_11 σ12) (fun v16 σ15 => some (v16, σ15)) else (if x2_11 = (1 : Int32) then bbd (f_X12_coldOf x1_11 σ12) (fun v20 σ19 => some (v20, σ19)) else (if x2_11 = (2 : Int32) then if x1_11 < 0 ∨ 16 ≤ x1_11.toNatClampNeg then none else (if (σ12.1 97 x1_11.toNatClampNeg) = 0 then some ((-2 : Int32), σ12) else if x1_11 < 0 ∨ 16 ≤ x1_11.toNatClampNeg then none else some (((σ12.1 97 x1_11.toNatClampNeg) - (1 : Int32)), σ12)) else (if x2_11 = (3 : Int32) then bbd (f_X12_isContent 97 x1_11 (σ12.1 95 2) σ12) (fun v28 σ27 => (if v28 = 0 then some ((0 : Int32), σ27) else some ((1 : Int32), σ27))) else (if x2_11 = (4 : Int32) then if ((7 : Int32) + x1_11) < 0 ∨ 16 ≤ ((7 : Int32) + x1_11).toNatClampNeg then none else some ((σ12.1 97 ((7 : Int32) + x1_11).toNatClampNeg), σ12) else some (x3_11, σ12))))))))))))
set_option maxHeartbeats 4000000 in
set_option maxRecDepth 20000 in
theorem e_X12_person_J21 {X : bX} {l : Launch} {G : bG} {ρ : Nat → Nat} {A : Nat → Prop} {d : Nat} {r : Int32} {σ' : bSto} (C : bCX X cX12_person RX12 (d + 3)) (Hh : bH X l G bSHf ρ A 5) (Rt : bRX X (some .int) (some (.int r)) σ')  (σ : bSto) (hF : f_X12_person_J21  σ = some (r, σ')) : bAJ X 21 [(0, .ref 92)] [] σ := by
  rw [f_X12_person_J21] at hF
  refine b_aload_n (pc := 21) C dX12_person_21 rfl 0 rfl ?_
  refine b_iconst (pc := 22) C dX12_person_22 ic_1 ?_
  obtain ⟨v3, σ2, hc1, hF⟩ := bbd_e hF
  refine b_cV1i (d' := (d + 2)) (pc := 23) C dX12_person_23 mm_X12_321 (Hh.1 _ _ sh_92) rfl (Nat.le_of_ble_eq_true rfl) (by omega) (Hh.2.2 _ _ _ _ _ _ _ _ _ (lvl_eq (by omega) (e_X12_less (d + 2) (1 : Int32) _ _ _ hc1))) ?_
  exact b_iret (pc := 26) C Rt dX12_person_26 hF
set_option maxHeartbeats 4000000 in
set_option maxRecDepth 20000 in
theorem e_X12_person_J68_32 {X : bX} {l : Launch} {G : bG} {ρ : Nat → Nat} {A : Nat → Prop} {d : Nat} {r : Int32} {σ' : bSto} (C : bCX X cX12_person RX12 (d + 3)) (Hh : bH X l G bSHf ρ A 5) (Rt : bRX X (some .int) (some (.int r)) σ') {k : Int32 → Int32 → Int32 → Int32 → bSto → Option (Int32 × Int32 × Int32 × bSto)} (ih : ∀ (x1 : Int32) (x2 : Int32) (x3 : Int32) (x4 : Int32) (σ : bSto) (q : (Int32 × Int32 × Int32 × bSto)), k x1 x2 x3 x4 σ = some q → (∀ (x1 : Int32) (x2 : Int32) (x3 : Int32) (s : bSto), q = (x1, x2, x3, s) → bAJ X 76 [(0, .ref 92), (1, .int x1), (2, .int x2), (3, .int x3)] [] s) → bAJ X 32 [(0, .ref 92), (1, .int x1), (2, .int x2), (3, .int x3), (4, .int x4)] [] σ) (x1 : Int32) (x2 : Int32) (x4 : Int32) (s0 : Int32) (s1 : Int32) (σ : bSto) (q : (Int32 × Int32 × Int32 × bSto)) (hF : f_X12_person_J68_32 k x1 x2 x4 s0 s1 σ = some q) : (∀ (x1 : Int32) (x2 : Int32) (x3 : Int32) (s : bSto), q = (x1, x2, x3, s) → bAJ X 76 [(0, .ref 92), (1, .int x1), (2, .int x2), (3, .int x3)] [] s) → bAJ X 68 [(0, .ref 92), (1, .int x1), (2, .int x2), (4, .int x4)] [.int s1, .int s0] σ := by
  intro hx
  rw [f_X12_person_J68_32] at hF
  refine b_ior (pc := 68) C dX12_person_68 ?_
  obtain ⟨x3_1, e2, hF⟩ := blet_e hF
  refine b_istore_n (L' := [(3, .int x3_1), (0, .ref 92), (1, .int x1), (2, .int x2), (4, .int x4)]) (pc := 69) C dX12_person_69 rfl e2 (Hh.2.1 _ (Nat.le_of_ble_eq_true rfl)) rfl ?_
  obtain ⟨x4_3, e4, hF⟩ := blet_e hF
  refine b_iinc (L' := [(4, .int x4_3), (3, .int x3_1), (0, .ref 92), (1, .int x1), (2, .int x2)]) (pc := 70) C dX12_person_70 4 rfl ic_1 e4 (Hh.2.1 _ (Nat.le_of_ble_eq_true rfl)) rfl ?_
  refine b_goto (tgt := 32) (pc := 73) C dX12_person_73 rfl ?_
  exact b_sub [2, 3, 4, 1, 0] rfl (ih x1 x2 x3_1 x4_3 _ _ hF hx)
set_option maxHeartbeats 4000000 in
set_option maxRecDepth 20000 in
theorem e_X12_person_J67_32 {X : bX} {l : Launch} {G : bG} {ρ : Nat → Nat} {A : Nat → Prop} {d : Nat} {r : Int32} {σ' : bSto} (C : bCX X cX12_person RX12 (d + 3)) (Hh : bH X l G bSHf ρ A 5) (Rt : bRX X (some .int) (some (.int r)) σ') {k : Int32 → Int32 → Int32 → Int32 → bSto → Option (Int32 × Int32 × Int32 × bSto)} (ih : ∀ (x1 : Int32) (x2 : Int32) (x3 : Int32) (x4 : Int32) (σ : bSto) (q : (Int32 × Int32 × Int32 × bSto)), k x1 x2 x3 x4 σ = some q → (∀ (x1 : Int32) (x2 : Int32) (x3 : Int32) (s : bSto), q = (x1, x2, x3, s) → bAJ X 76 [(0, .ref 92), (1, .int x1), (2, .int x2), (3, .int x3)] [] s) → bAJ X 32 [(0, .ref 92), (1, .int x1), (2, .int x2), (3, .int x3), (4, .int x4)] [] σ) (x1 : Int32) (x2 : Int32) (x4 : Int32) (s0 : Int32) (σ : bSto) (q : (Int32 × Int32 × Int32 × bSto)) (hF : f_X12_person_J67_32 k x1 x2 x4 s0 σ = some q) : (∀ (x1 : Int32) (x2 : Int32) (x3 : Int32) (s : bSto), q = (x1, x2, x3, s) → bAJ X 76 [(0, .ref 92), (1, .int x1), (2, .int x2), (3, .int x3)] [] s) → bAJ X 67 [(0, .ref 92), (1, .int x1), (2, .int x2), (4, .int x4)] [.int s0] σ := by
  intro hx
  rw [f_X12_person_J67_32] at hF
  refine b_iconst (pc := 67) C dX12_person_67 ic_0 ?_
  exact b_sub [0, 1, 2, 3] rfl (e_X12_person_J68_32 C Hh Rt ih x1 x2 x4 s0 (0 : Int32) _ _ hF hx)
set_option maxHeartbeats 4000000 in
set_option maxRecDepth 20000 in
theorem e_X12_person_L32 {X : bX} {l : Launch} {G : bG} {ρ : Nat → Nat} {A : Nat → Prop} {d : Nat} {r : Int32} {σ' : bSto} (C : bCX X cX12_person RX12 (d + 3)) (Hh : bH X l G bSHf ρ A 5) (Rt : bRX X (some .int) (some (.int r)) σ') : ∀ (n : Nat) (x1 : Int32) (x2 : Int32) (x3 : Int32) (x4 : Int32) (σ : bSto) (q : (Int32 × Int32 × Int32 × bSto)), f_X12_person_L32 n x1 x2 x3 x4 σ = some q → (∀ (x1 : Int32) (x2 : Int32) (x3 : Int32) (s : bSto), q = (x1, x2, x3, s) → bAJ X 76 [(0, .ref 92), (1, .int x1), (2, .int x2), (3, .int x3)] [] s) → bAJ X 32 [(0, .ref 92), (1, .int x1), (2, .int x2), (3, .int x3), (4, .int x4)] [] σ := by
  intro n
  induction n with
  | zero => intro x1 x2 x3 x4 σ q hF; rw [f_X12_person_L32] at hF; cases hF
  | succ n ih =>
    intro x1 x2 x3 x4 σ q hF hx
    rw [f_X12_person_L32] at hF
    refine b_iload (pc := 32) C dX12_person_32 4 rfl ?_
    refine b_aload_n (pc := 34) C dX12_person_34 rfl 0 rfl ?_
    refine b_getS (pc := 35) C dX12_person_35 fl_X12_20 (Hh.1 _ _ sh_92) rfl ?_
    refine b_iconst (pc := 38) C dX12_person_38 ic_4 ?_
    refine b_ialdK (pc := 39) C dX12_person_39 (Hh.1 _ _ sh_95) tn_4 (by decide) ?_
    refine b_icmp_ge (tgt := 76) (pc := 40) C dX12_person_40 rfl (fun hc1 => ?_) (fun hc1 => ?_)
    · rw [if_pos hc1] at hF
      exact b_sub [0, 1, 2, 3] rfl (hx _ _ _ _ (Option.some.inj hF).symm )
    · rw [if_neg hc1] at hF
      refine b_iload_n (pc := 43) C dX12_person_43 rfl 3 rfl ?_
      refine b_iload (pc := 44) C dX12_person_44 4 rfl ?_
      refine b_iload_n (pc := 46) C dX12_person_46 rfl 1 rfl ?_
      refine b_icmp_eq (tgt := 67) (pc := 47) C dX12_person_47 rfl (fun hc2 => ?_) (fun hc2 => ?_)
      · rw [if_pos hc2] at hF
        exact b_sub [0, 1, 2, 4] rfl (e_X12_person_J67_32 C Hh Rt ih x1 x2 x4 x3 _ _ hF hx)
      · rw [if_neg hc2] at hF
        refine b_aload_n (pc := 50) C dX12_person_50 rfl 0 rfl ?_
        refine b_iload_n (pc := 51) C dX12_person_51 rfl 1 rfl ?_
        refine b_iload (pc := 52) C dX12_person_52 4 rfl ?_
        obtain ⟨v5, σ4, hc3, hF⟩ := bbd_e hF
        refine b_cV2i (d' := (d + 2)) (pc := 54) C dX12_person_54 mm_X12_324 (Hh.1 _ _ sh_92) rfl (Nat.le_of_ble_eq_true rfl) (by omega) (Hh.2.2 _ _ _ _ _ _ _ _ _ (lvl_eq (by omega) (e_X12_isTownOf (d + 2) x1 x4 _ _ _ hc3))) ?_
        refine b_if_eq (tgt := 67) (pc := 57) C dX12_person_57 rfl (fun hc6 => ?_) (fun hc6 => ?_)
        · rw [if_pos hc6] at hF
          exact b_sub [0, 1, 2, 4] rfl (e_X12_person_J67_32 C Hh Rt ih x1 x2 x4 x3 _ _ hF hx)
        · rw [if_neg hc6] at hF
          refine b_iconst (pc := 60) C dX12_person_60 ic_1 ?_
          refine b_iload (pc := 61) C dX12_person_61 4 rfl ?_
          refine b_ishl (pc := 63) C dX12_person_63 ?_
          refine b_goto (tgt := 68) (pc := 64) C dX12_person_64 rfl ?_
          exact b_sub [0, 1, 2, 4] rfl (e_X12_person_J68_32 C Hh Rt ih x1 x2 x4 x3 ((1 : Int32) <<< (x4 &&& 31)) _ _ hF hx)
set_option maxHeartbeats 4000000 in
set_option maxRecDepth 20000 in
theorem e_X12_person_0 {X : bX} {l : Launch} {G : bG} {ρ : Nat → Nat} {A : Nat → Prop} {d : Nat} {r : Int32} {σ' : bSto} (C : bCX X cX12_person RX12 (d + 3)) (Hh : bH X l G bSHf ρ A 5) (Rt : bRX X (some .int) (some (.int r)) σ') (x1 : Int32) (x2 : Int32) (σ : bSto) (hF : f_X12_person x1 x2 σ = some (r, σ')) : bAJ X 0 [(0, .ref 92), (1, .int x1), (2, .int x2)] [] σ := by
  rw [f_X12_person] at hF
  refine b_aload_n (pc := 0) C dX12_person_0 rfl 0 rfl ?_
  obtain ⟨σ2, hc1, hF⟩ := bbv_e hF
  refine b_cV0v (d' := (d + 2)) (pc := 1) C dX12_person_1 mm_X12_181 (Hh.1 _ _ sh_92) rfl (Nat.le_of_ble_eq_true rfl) (by omega) (Hh.2.2 _ _ _ _ _ _ _ _ _ (lvl_eq (by omega) (e_X12_good (d + 2)  _ _ hc1))) ?_
  refine b_aload_n (pc := 4) C dX12_person_4 rfl 0 rfl ?_
  refine b_iload_n (pc := 5) C dX12_person_5 rfl 1 rfl ?_
  obtain ⟨v5, σ4, hc3, hF⟩ := bbd_e hF
  refine b_cV1i (d' := (d + 2)) (pc := 6) C dX12_person_6 mm_X12_318 (Hh.1 _ _ sh_92) rfl (Nat.le_of_ble_eq_true rfl) (by omega) (Hh.2.2 _ _ _ _ _ _ _ _ _ (lvl_eq (by omega) (e_X12_isPerson (d + 1) x1 _ _ _ hc3))) ?_
  refine b_if_eq (tgt := 21) (pc := 9) C dX12_person_9 rfl (fun hc6 => ?_) (fun hc6 => ?_)
  · rw [if_pos hc6] at hF
    exact b_sub [0] rfl (e_X12_person_J21 C Hh Rt  _ hF)
  · rw [if_neg hc6] at hF
    refine b_iload_n (pc := 12) C dX12_person_12 rfl 2 rfl ?_
    refine b_iconst (pc := 13) C dX12_person_13 ic_0 ?_
    refine b_iconst (pc := 14) C dX12_person_14 ic_5 ?_
    obtain ⟨v9, σ8, hc7, hF⟩ := bbd_e hF
    refine b_cS3i (d' := (d + 2)) (pc := 15) C dX12_person_15 mm_X12_160 (Nat.le_of_ble_eq_true rfl) (by omega) (Hh.2.2 _ _ _ _ _ _ _ _ _ (lvl_eq (by omega) (e_X12_in (d + 2) x2 (0 : Int32) (5 : Int32) _ _ _ hc7))) ?_
    refine b_if_ne (tgt := 27) (pc := 18) C dX12_person_18 rfl (fun hc10 => ?_) (fun hc10 => ?_)
    · rw [if_neg hc10] at hF
      refine b_iconst (pc := 27) C dX12_person_27 ic_0 ?_
      refine b_istore_n (L' := [(3, .int (0 : Int32)), (0, .ref 92), (1, .int x1), (2, .int x2)]) (pc := 28) C dX12_person_28 rfl rfl (Hh.2.1 _ (Nat.le_of_ble_eq_true rfl)) rfl ?_
      refine b_iconst (pc := 29) C dX12_person_29 ic_0 ?_
      refine b_istore (L' := [(4, .int (0 : Int32)), (3, .int (0 : Int32)), (0, .ref 92), (1, .int x1), (2, .int x2)]) (pc := 30) C dX12_person_30 rfl (Hh.2.1 _ (Nat.le_of_ble_eq_true rfl)) rfl ?_
      obtain ⟨x1_11, x2_11, x3_11, σ12, hq11, hF⟩ := bl3_e hF
      refine b_sub [2, 3, 4, 1, 0] rfl (e_X12_person_L32 C Hh Rt bFU x1 x2 (0 : Int32) (0 : Int32) _ _ hq11 (fun _ _ _ _ e  => ?_))
      cases e
      refine b_iload_n (pc := 76) C dX12_person_76 rfl 2 rfl ?_
      by_cases hc13 : x2_11 = (0 : Int32)
      · rw [if_pos hc13] at hF
        refine b_tabIn (tgt := 112) (pc := 77) C dX12_person_77 hc13 (kI := 0) (by decide) (by decide) (by decide) rfl rfl ?_
        refine b_aload_n (pc := 112) C dX12_person_112 rfl 0 rfl ?_
        refine b_iload_n (pc := 113) C dX12_person_113 rfl 1 rfl ?_
        obtain ⟨v16, σ15, hc14, hF⟩ := bbd_e hF
        refine b_cV1i (d' := (d + 2)) (pc := 114) C dX12_person_114 mm_X12_302 (Hh.1 _ _ sh_92) rfl (Nat.le_of_ble_eq_true rfl) (by omega) (Hh.2.2 _ _ _ _ _ _ _ _ _ (lvl_eq (by omega) (e_X12_kindOf (d + 2) x1_11 _ _ _ hc14))) ?_
        exact b_iret (pc := 117) C Rt dX12_person_117 hF
      rw [if_neg hc13] at hF
      by_cases hc17 : x2_11 = (1 : Int32)
      · rw [if_pos hc17] at hF
        refine b_tabIn (tgt := 118) (pc := 77) C dX12_person_77 hc17 (kI := 1) (by decide) (by decide) (by decide) rfl rfl ?_
        refine b_aload_n (pc := 118) C dX12_person_118 rfl 0 rfl ?_
        refine b_iload_n (pc := 119) C dX12_person_119 rfl 1 rfl ?_
        obtain ⟨v20, σ19, hc18, hF⟩ := bbd_e hF
        refine b_cV1i (d' := (d + 2)) (pc := 120) C dX12_person_120 mm_X12_305 (Hh.1 _ _ sh_92) rfl (Nat.le_of_ble_eq_true rfl) (by omega) (Hh.2.2 _ _ _ _ _ _ _ _ _ (lvl_eq (by omega) (e_X12_coldOf (d + 2) x1_11 _ _ _ hc18))) ?_
        exact b_iret (pc := 123) C Rt dX12_person_123 hF
      rw [if_neg hc17] at hF
      by_cases hc21 : x2_11 = (2 : Int32)
      · rw [if_pos hc21] at hF
        refine b_tabIn (tgt := 124) (pc := 77) C dX12_person_77 hc21 (kI := 2) (by decide) (by decide) (by decide) rfl rfl ?_
        refine b_aload_n (pc := 124) C dX12_person_124 rfl 0 rfl ?_
        refine b_getS (pc := 125) C dX12_person_125 fl_X12_26 (Hh.1 _ _ sh_92) rfl ?_
        refine b_iload_n (pc := 128) C dX12_person_128 rfl 1 rfl ?_
        obtain ⟨hb22, hF⟩ := bif_n hF
        refine b_iald (pc := 129) C dX12_person_129 (Hh.1 _ _ sh_97) hb22 ?_
        refine b_if_ne (tgt := 138) (pc := 130) C dX12_person_130 rfl (fun hc23 => ?_) (fun hc23 => ?_)
        · rw [if_neg hc23] at hF
          refine b_aload_n (pc := 138) C dX12_person_138 rfl 0 rfl ?_
          refine b_getS (pc := 139) C dX12_person_139 fl_X12_26 (Hh.1 _ _ sh_92) rfl ?_
          refine b_iload_n (pc := 142) C dX12_person_142 rfl 1 rfl ?_
          obtain ⟨hb24, hF⟩ := bif_n hF
          refine b_iald (pc := 143) C dX12_person_143 (Hh.1 _ _ sh_97) hb24 ?_
          refine b_iconst (pc := 144) C dX12_person_144 ic_1 ?_
          refine b_isub (pc := 145) C dX12_person_145 ?_
          exact b_iret (pc := 146) C Rt dX12_person_146 hF
        · rw [if_pos hc23] at hF
          refine b_bipush (pc := 133) C dX12_person_133 bp_m2 ?_
          refine b_goto (tgt := 146) (pc := 135) C dX12_person_135 rfl ?_
          exact b_iret (pc := 146) C Rt dX12_person_146 hF
      rw [if_neg hc21] at hF
      by_cases hc25 : x2_11 = (3 : Int32)
      · rw [if_pos hc25] at hF
        refine b_tabIn (tgt := 147) (pc := 77) C dX12_person_77 hc25 (kI := 3) (by decide) (by decide) (by decide) rfl rfl ?_
        refine b_aload_n (pc := 147) C dX12_person_147 rfl 0 rfl ?_
        refine b_aload_n (pc := 148) C dX12_person_148 rfl 0 rfl ?_
        refine b_getS (pc := 149) C dX12_person_149 fl_X12_26 (Hh.1 _ _ sh_92) rfl ?_
        refine b_iload_n (pc := 152) C dX12_person_152 rfl 1 rfl ?_
        refine b_aload_n (pc := 153) C dX12_person_153 rfl 0 rfl ?_
        refine b_getS (pc := 154) C dX12_person_154 fl_X12_20 (Hh.1 _ _ sh_92) rfl ?_
        refine b_iconst (pc := 157) C dX12_person_157 ic_2 ?_
        refine b_ialdK (pc := 158) C dX12_person_158 (Hh.1 _ _ sh_95) tn_2 (by decide) ?_
        obtain ⟨v28, σ27, hc26, hF⟩ := bbd_e hF
        refine b_cV3i (d' := (d + 2)) (pc := 159) C dX12_person_159 mm_X12_308 (Hh.1 _ _ sh_92) rfl (Nat.le_of_ble_eq_true rfl) (by omega) (Hh.2.2 _ _ _ _ _ _ _ _ _ (lvl_eq (by omega) (e_X12_isContent (d + 0) _ (show kIA 97 from sh_97) x1_11 (σ12.1 95 2) _ _ _ hc26))) ?_
        refine b_if_eq (tgt := 169) (pc := 162) C dX12_person_162 rfl (fun hc29 => ?_) (fun hc29 => ?_)
        · rw [if_pos hc29] at hF
          refine b_iconst (pc := 169) C dX12_person_169 ic_0 ?_
          exact b_iret (pc := 170) C Rt dX12_person_170 hF
        · rw [if_neg hc29] at hF
          refine b_iconst (pc := 165) C dX12_person_165 ic_1 ?_
          refine b_goto (tgt := 170) (pc := 166) C dX12_person_166 rfl ?_
          exact b_iret (pc := 170) C Rt dX12_person_170 hF
      rw [if_neg hc25] at hF
      by_cases hc30 : x2_11 = (4 : Int32)
      · rw [if_pos hc30] at hF
        refine b_tabIn (tgt := 171) (pc := 77) C dX12_person_77 hc30 (kI := 4) (by decide) (by decide) (by decide) rfl rfl ?_
        refine b_aload_n (pc := 171) C dX12_person_171 rfl 0 rfl ?_
        refine b_getS (pc := 172) C dX12_person_172 fl_X12_26 (Hh.1 _ _ sh_92) rfl ?_
        refine b_bipush (pc := 175) C dX12_person_175 bp_7 ?_
        refine b_iload_n (pc := 177) C dX12_person_177 rfl 1 rfl ?_
        refine b_iadd (pc := 178) C dX12_person_178 ?_
        obtain ⟨hb31, hF⟩ := bif_n hF
        refine b_iald (pc := 179) C dX12_person_179 (Hh.1 _ _ sh_97) hb31 ?_
        exact b_iret (pc := 180) C Rt dX12_person_180 hF
      rw [if_neg hc30] at hF
      have hn32_0 := lv_neT hc13 (show ((0 : Int32)).toInt = 0 from by decide)
      have hn32_1 := lv_neT hc17 (show ((1 : Int32)).toInt = 1 from by decide)
      have hn32_2 := lv_neT hc21 (show ((2 : Int32)).toInt = 2 from by decide)
      have hn32_3 := lv_neT hc25 (show ((3 : Int32)).toInt = 3 from by decide)
      have hn32_4 := lv_neT hc30 (show ((4 : Int32)).toInt = 4 from by decide)
      refine b_tabOut (tgt := 181) (pc := 77) C dX12_person_77 (by omega) rfl ?_
      refine b_iload_n (pc := 181) C dX12_person_181 rfl 3 rfl ?_
      exact b_iret (pc := 182) C Rt dX12_person_182 hF
    · rw [if_pos hc10] at hF
      exact b_sub [0] rfl (e_X12_person_J21 C Hh Rt  _ hF)
set_option maxHeartbeats 4000000 in
set_option maxRecDepth 20000 in
theorem e_X12_person {l : Launch} {G : bG} {ρ : Nat → Nat} {A : Nat → Prop} (d : Nat) (x1 : Int32) (x2 : Int32) (σ : bSto) (r : Int32) (σ' : bSto) (hF : f_X12_person x1 x2 σ = some (r, σ')) : bEv l G bSHf ρ A yX12_person cX12_person 5 (some .int) (d + 3) [.ref 92, .int x1, .int x2] σ (some (.int r)) σ' := b_met (d := d + 3) (by decide +kernel) (Nat.le_of_ble_eq_true rfl) rfl (fun X C Rt h1 h2 h3 => e_X12_person_0 C ⟨fun o q h => by rw [h1]; exact h, fun i h => by rw [h2]; exact h, h3⟩ Rt _ _ _ hF)
/-! BenchColonyModel.may -/
def f_X12_may_J20  (σ : bSto) : Option (Int32 × bSto) := bbd (f_X12_no (1 : Int32) σ) (fun v3 σ2 => some (v3, σ2))
def f_X12_may (x1 : Int32) (x2 : Int32) (σ : bSto) : Option (Int32 × bSto) := bbv (f_X12_good  σ) (fun σ2 => bbd (f_X12_isPerson x1 σ2) (fun v5 σ4 => (if v5 = 0 then f_X12_may_J20  σ4 else bbd (f_X12_isBench x2 σ4) (fun v9 σ8 => (if v9 = 0 then f_X12_may_J20  σ8 else bbd (f_X12_mayOn x1 x2 σ8) (fun v13 σ12 => (if v13 = 0 then some ((0 : Int32), σ12) else some ((1 : Int32), σ12))))))))
set_option maxHeartbeats 4000000 in
set_option maxRecDepth 20000 in
theorem e_X12_may_J20 {X : bX} {l : Launch} {G : bG} {ρ : Nat → Nat} {A : Nat → Prop} {d : Nat} {r : Int32} {σ' : bSto} (C : bCX X cX12_may RX12 (d + 2)) (Hh : bH X l G bSHf ρ A 3) (Rt : bRX X (some .int) (some (.int r)) σ')  (σ : bSto) (hF : f_X12_may_J20  σ = some (r, σ')) : bAJ X 20 [(0, .ref 92)] [] σ := by
  rw [f_X12_may_J20] at hF
  refine b_aload_n (pc := 20) C dX12_may_20 rfl 0 rfl ?_
  refine b_iconst (pc := 21) C dX12_may_21 ic_1 ?_
  obtain ⟨v3, σ2, hc1, hF⟩ := bbd_e hF
  refine b_cV1i (d' := (d + 1)) (pc := 22) C dX12_may_22 mm_X12_184 (Hh.1 _ _ sh_92) rfl (Nat.le_of_ble_eq_true rfl) (by omega) (Hh.2.2 _ _ _ _ _ _ _ _ _ (lvl_eq (by omega) (e_X12_no (d + 1) (1 : Int32) _ _ _ hc1))) ?_
  refine b_goto (tgt := 42) (pc := 25) C dX12_may_25 rfl ?_
  exact b_iret (pc := 42) C Rt dX12_may_42 hF
set_option maxHeartbeats 4000000 in
set_option maxRecDepth 20000 in
theorem e_X12_may_0 {X : bX} {l : Launch} {G : bG} {ρ : Nat → Nat} {A : Nat → Prop} {d : Nat} {r : Int32} {σ' : bSto} (C : bCX X cX12_may RX12 (d + 2)) (Hh : bH X l G bSHf ρ A 3) (Rt : bRX X (some .int) (some (.int r)) σ') (x1 : Int32) (x2 : Int32) (σ : bSto) (hF : f_X12_may x1 x2 σ = some (r, σ')) : bAJ X 0 [(0, .ref 92), (1, .int x1), (2, .int x2)] [] σ := by
  rw [f_X12_may] at hF
  refine b_aload_n (pc := 0) C dX12_may_0 rfl 0 rfl ?_
  obtain ⟨σ2, hc1, hF⟩ := bbv_e hF
  refine b_cV0v (d' := (d + 1)) (pc := 1) C dX12_may_1 mm_X12_181 (Hh.1 _ _ sh_92) rfl (Nat.le_of_ble_eq_true rfl) (by omega) (Hh.2.2 _ _ _ _ _ _ _ _ _ (lvl_eq (by omega) (e_X12_good (d + 1)  _ _ hc1))) ?_
  refine b_aload_n (pc := 4) C dX12_may_4 rfl 0 rfl ?_
  refine b_iload_n (pc := 5) C dX12_may_5 rfl 1 rfl ?_
  obtain ⟨v5, σ4, hc3, hF⟩ := bbd_e hF
  refine b_cV1i (d' := (d + 1)) (pc := 6) C dX12_may_6 mm_X12_318 (Hh.1 _ _ sh_92) rfl (Nat.le_of_ble_eq_true rfl) (by omega) (Hh.2.2 _ _ _ _ _ _ _ _ _ (lvl_eq (by omega) (e_X12_isPerson (d + 0) x1 _ _ _ hc3))) ?_
  refine b_if_eq (tgt := 20) (pc := 9) C dX12_may_9 rfl (fun hc6 => ?_) (fun hc6 => ?_)
  · rw [if_pos hc6] at hF
    exact b_sub [0] rfl (e_X12_may_J20 C Hh Rt  _ hF)
  · rw [if_neg hc6] at hF
    refine b_aload_n (pc := 12) C dX12_may_12 rfl 0 rfl ?_
    refine b_iload_n (pc := 13) C dX12_may_13 rfl 2 rfl ?_
    obtain ⟨v9, σ8, hc7, hF⟩ := bbd_e hF
    refine b_cV1i (d' := (d + 1)) (pc := 14) C dX12_may_14 mm_X12_312 (Hh.1 _ _ sh_92) rfl (Nat.le_of_ble_eq_true rfl) (by omega) (Hh.2.2 _ _ _ _ _ _ _ _ _ (lvl_eq (by omega) (e_X12_isBench (d + 0) x2 _ _ _ hc7))) ?_
    refine b_if_ne (tgt := 28) (pc := 17) C dX12_may_17 rfl (fun hc10 => ?_) (fun hc10 => ?_)
    · rw [if_neg hc10] at hF
      refine b_aload_n (pc := 28) C dX12_may_28 rfl 0 rfl ?_
      refine b_iload_n (pc := 29) C dX12_may_29 rfl 1 rfl ?_
      refine b_iload_n (pc := 30) C dX12_may_30 rfl 2 rfl ?_
      obtain ⟨v13, σ12, hc11, hF⟩ := bbd_e hF
      refine b_cV2i (d' := (d + 1)) (pc := 31) C dX12_may_31 mm_X12_327 (Hh.1 _ _ sh_92) rfl (Nat.le_of_ble_eq_true rfl) (by omega) (Hh.2.2 _ _ _ _ _ _ _ _ _ (lvl_eq (by omega) (e_X12_mayOn (d + 0) x1 x2 _ _ _ hc11))) ?_
      refine b_if_eq (tgt := 41) (pc := 34) C dX12_may_34 rfl (fun hc14 => ?_) (fun hc14 => ?_)
      · rw [if_pos hc14] at hF
        refine b_iconst (pc := 41) C dX12_may_41 ic_0 ?_
        exact b_iret (pc := 42) C Rt dX12_may_42 hF
      · rw [if_neg hc14] at hF
        refine b_iconst (pc := 37) C dX12_may_37 ic_1 ?_
        refine b_goto (tgt := 42) (pc := 38) C dX12_may_38 rfl ?_
        exact b_iret (pc := 42) C Rt dX12_may_42 hF
    · rw [if_pos hc10] at hF
      exact b_sub [0] rfl (e_X12_may_J20 C Hh Rt  _ hF)
set_option maxHeartbeats 4000000 in
set_option maxRecDepth 20000 in
theorem e_X12_may {l : Launch} {G : bG} {ρ : Nat → Nat} {A : Nat → Prop} (d : Nat) (x1 : Int32) (x2 : Int32) (σ : bSto) (r : Int32) (σ' : bSto) (hF : f_X12_may x1 x2 σ = some (r, σ')) : bEv l G bSHf ρ A yX12_may cX12_may 3 (some .int) (d + 2) [.ref 92, .int x1, .int x2] σ (some (.int r)) σ' := b_met (d := d + 2) (by decide +kernel) (Nat.le_of_ble_eq_true rfl) rfl (fun X C Rt h1 h2 h3 => e_X12_may_0 C ⟨fun o q h => by rw [h1]; exact h, fun i h => by rw [h2]; exact h, h3⟩ Rt _ _ _ hF)
/-! BenchColonyModel.content -/
def f_X12_content  (σ : bSto) : Option (Int32 × bSto) := bbv (f_X12_good  σ) (fun σ2 => (if (σ2.1 92 14) = 0 then bbd (f_X12_no (1 : Int32) σ2) (fun v6 σ5 => some (v6, σ5)) else bbd (f_X12_contentOn 97 (σ2.1 95 2) σ2) (fun v9 σ8 => some (v9, σ8))))
set_option maxHeartbeats 4000000 in
set_option maxRecDepth 20000 in
theorem e_X12_content_0 {X : bX} {l : Launch} {G : bG} {ρ : Nat → Nat} {A : Nat → Prop} {d : Nat} {r : Int32} {σ' : bSto} (C : bCX X cX12_content RX12 (d + 4)) (Hh : bH X l G bSHf ρ A 1) (Rt : bRX X (some .int) (some (.int r)) σ')  (σ : bSto) (hF : f_X12_content  σ = some (r, σ')) : bAJ X 0 [(0, .ref 92)] [] σ := by
  rw [f_X12_content] at hF
  refine b_aload_n (pc := 0) C dX12_content_0 rfl 0 rfl ?_
  obtain ⟨σ2, hc1, hF⟩ := bbv_e hF
  refine b_cV0v (d' := (d + 3)) (pc := 1) C dX12_content_1 mm_X12_181 (Hh.1 _ _ sh_92) rfl (Nat.le_of_ble_eq_true rfl) (by omega) (Hh.2.2 _ _ _ _ _ _ _ _ _ (lvl_eq (by omega) (e_X12_good (d + 3)  _ _ hc1))) ?_
  refine b_aload_n (pc := 4) C dX12_content_4 rfl 0 rfl ?_
  refine b_getI (pc := 5) C dX12_content_5 fl_X12_194 (Hh.1 _ _ sh_92) rfl ?_
  refine b_if_eq (tgt := 28) (pc := 8) C dX12_content_8 rfl (fun hc3 => ?_) (fun hc3 => ?_)
  · rw [if_pos hc3] at hF
    refine b_aload_n (pc := 28) C dX12_content_28 rfl 0 rfl ?_
    refine b_iconst (pc := 29) C dX12_content_29 ic_1 ?_
    obtain ⟨v6, σ5, hc4, hF⟩ := bbd_e hF
    refine b_cV1i (d' := (d + 3)) (pc := 30) C dX12_content_30 mm_X12_184 (Hh.1 _ _ sh_92) rfl (Nat.le_of_ble_eq_true rfl) (by omega) (Hh.2.2 _ _ _ _ _ _ _ _ _ (lvl_eq (by omega) (e_X12_no (d + 3) (1 : Int32) _ _ _ hc4))) ?_
    exact b_iret (pc := 33) C Rt dX12_content_33 hF
  · rw [if_neg hc3] at hF
    refine b_aload_n (pc := 11) C dX12_content_11 rfl 0 rfl ?_
    refine b_aload_n (pc := 12) C dX12_content_12 rfl 0 rfl ?_
    refine b_getS (pc := 13) C dX12_content_13 fl_X12_26 (Hh.1 _ _ sh_92) rfl ?_
    refine b_aload_n (pc := 16) C dX12_content_16 rfl 0 rfl ?_
    refine b_getS (pc := 17) C dX12_content_17 fl_X12_20 (Hh.1 _ _ sh_92) rfl ?_
    refine b_iconst (pc := 20) C dX12_content_20 ic_2 ?_
    refine b_ialdK (pc := 21) C dX12_content_21 (Hh.1 _ _ sh_95) tn_2 (by decide) ?_
    obtain ⟨v9, σ8, hc7, hF⟩ := bbd_e hF
    refine b_cV2i (d' := (d + 3)) (pc := 22) C dX12_content_22 mm_X12_330 (Hh.1 _ _ sh_92) rfl (Nat.le_of_ble_eq_true rfl) (by omega) (Hh.2.2 _ _ _ _ _ _ _ _ _ (lvl_eq (by omega) (e_X12_contentOn (d + 0) _ (show kIA 97 from sh_97) (σ2.1 95 2) _ _ _ hc7))) ?_
    refine b_goto (tgt := 33) (pc := 25) C dX12_content_25 rfl ?_
    exact b_iret (pc := 33) C Rt dX12_content_33 hF
set_option maxHeartbeats 4000000 in
set_option maxRecDepth 20000 in
theorem e_X12_content {l : Launch} {G : bG} {ρ : Nat → Nat} {A : Nat → Prop} (d : Nat)  (σ : bSto) (r : Int32) (σ' : bSto) (hF : f_X12_content  σ = some (r, σ')) : bEv l G bSHf ρ A yX12_content cX12_content 1 (some .int) (d + 4) [.ref 92] σ (some (.int r)) σ' := b_met (d := d + 4) (by decide +kernel) (Nat.le_of_ble_eq_true rfl) rfl (fun X C Rt h1 h2 h3 => e_X12_content_0 C ⟨fun o q h => by rw [h1]; exact h, fun i h => by rw [h2]; exact h, h3⟩ Rt  _ hF)
/-! BenchColonyModel.isFree -/
def f_X12_isFree (x1 : Nat) (x2 : Int32) (σ : bSto) : Option (Int32 × bSto) := bbd (f_X12_onBench x1 x2 σ) (fun v3 σ2 => bbd (f_X12_ones v3 σ2) (fun v6 σ5 => bbd (f_X12_seatsOf x2 σ5) (fun v9 σ8 => (if v9 ≤ v6 then some ((0 : Int32), σ8) else some ((1 : Int32), σ8)))))
set_option maxHeartbeats 4000000 in
set_option maxRecDepth 20000 in
theorem e_X12_isFree_0 {X : bX} {l : Launch} {G : bG} {ρ : Nat → Nat} {A : Nat → Prop} {d : Nat} {r : Int32} {σ' : bSto} (C : bCX X cX12_isFree RX12 (d + 1)) (Hh : bH X l G bSHf ρ A 3) (Rt : bRX X (some .boolean) (some (.int r)) σ') (x1 : Nat) (hx1 : kIA x1) (x2 : Int32) (σ : bSto) (hF : f_X12_isFree x1 x2 σ = some (r, σ')) : bAJ X 0 [(0, .ref 92), (1, .ref x1), (2, .int x2)] [] σ := by
  rw [f_X12_isFree] at hF
  refine b_aload_n (pc := 0) C dX12_isFree_0 rfl 0 rfl ?_
  refine b_aload_n (pc := 1) C dX12_isFree_1 rfl 1 rfl ?_
  refine b_iload_n (pc := 2) C dX12_isFree_2 rfl 2 rfl ?_
  obtain ⟨v3, σ2, hc1, hF⟩ := bbd_e hF
  refine b_cV2i (d' := (d + 0)) (pc := 3) C dX12_isFree_3 mm_X12_295 (Hh.1 _ _ sh_92) rfl (Nat.le_of_ble_eq_true rfl) (by omega) (Hh.2.2 _ _ _ _ _ _ _ _ _ (lvl_eq (by omega) (e_X12_onBench (d + 0) _ hx1 x2 _ _ _ hc1))) ?_
  obtain ⟨v6, σ5, hc4, hF⟩ := bbd_e hF
  refine b_cS1i (d' := (d + 0)) (pc := 6) C dX12_isFree_6 mm_X12_299 (Nat.le_of_ble_eq_true rfl) (by omega) (Hh.2.2 _ _ _ _ _ _ _ _ _ (lvl_eq (by omega) (e_X12_ones (d + 0) v3 _ _ _ hc4))) ?_
  refine b_aload_n (pc := 9) C dX12_isFree_9 rfl 0 rfl ?_
  refine b_iload_n (pc := 10) C dX12_isFree_10 rfl 2 rfl ?_
  obtain ⟨v9, σ8, hc7, hF⟩ := bbd_e hF
  refine b_cV1i (d' := (d + 0)) (pc := 11) C dX12_isFree_11 mm_X12_333 (Hh.1 _ _ sh_92) rfl (Nat.le_of_ble_eq_true rfl) (by omega) (Hh.2.2 _ _ _ _ _ _ _ _ _ (lvl_eq (by omega) (e_X12_seatsOf (d + 0) x2 _ _ _ hc7))) ?_
  refine b_icmp_ge (tgt := 21) (pc := 14) C dX12_isFree_14 rfl (fun hc10 => ?_) (fun hc10 => ?_)
  · rw [if_pos hc10] at hF
    refine b_iconst (pc := 21) C dX12_isFree_21 ic_0 ?_
    exact b_zret (pc := 22) C Rt dX12_isFree_22 rfl hF
  · rw [if_neg hc10] at hF
    refine b_iconst (pc := 17) C dX12_isFree_17 ic_1 ?_
    refine b_goto (tgt := 22) (pc := 18) C dX12_isFree_18 rfl ?_
    exact b_zret (pc := 22) C Rt dX12_isFree_22 rfl hF
set_option maxHeartbeats 4000000 in
set_option maxRecDepth 20000 in
theorem e_X12_isFree {l : Launch} {G : bG} {ρ : Nat → Nat} {A : Nat → Prop} (d : Nat) (x1 : Nat) (hx1 : kIA x1) (x2 : Int32) (σ : bSto) (r : Int32) (σ' : bSto) (hF : f_X12_isFree x1 x2 σ = some (r, σ')) : bEv l G bSHf ρ A yX12_isFree cX12_isFree 3 (some .boolean) (d + 1) [.ref 92, .ref x1, .int x2] σ (some (.int r)) σ' := b_met (d := d + 1) (by decide +kernel) (Nat.le_of_ble_eq_true rfl) rfl (fun X C Rt h1 h2 h3 => e_X12_isFree_0 C ⟨fun o q h => by rw [h1]; exact h, fun i h => by rw [h2]; exact h, h3⟩ Rt _ hx1 _ _ hF)
/-! BenchColonyModel.warmest -/
def f_X12_warmest_J71_23 (k : Int32 → Int32 → Int32 → bSto → Option (Int32 × bSto)) (x1 : Int32) (x3 : Int32) (σ : bSto) : Option (Int32 × bSto) := blet (x3 + (1 : Int32)) (fun x3_1 => k x1 x3 x3_1 σ)
def f_X12_warmest_L23 : Nat → Int32 → Int32 → Int32 → bSto → Option (Int32 × bSto)
  | 0, _, _, _, _ => none
  | n + 1, x1, x2, x3, σ => (if (σ.1 95 3) ≤ x3 then some (x2, σ) else bbd (f_X12_mayOn x1 x3 σ) (fun v4 σ3 => (if v4 = 0 then blet (x3 + (1 : Int32)) (fun x3_6 => f_X12_warmest_L23 n x1 x2 x3_6 σ3) else bbd (f_X12_isFree 97 x3 σ3) (fun v10 σ9 => (if v10 = 0 then blet (x3 + (1 : Int32)) (fun x3_12 => f_X12_warmest_L23 n x1 x2 x3_12 σ9) else (if x2 < 0 then f_X12_warmest_J71_23 (f_X12_warmest_L23 n) x1 x3 σ9 else bbd (f_X12_warmthOf x3 σ9) (fun v17 σ16 => bbd (f_X12_warmthOf x2 σ16) (fun v20 σ19 => (if v17 ≤ v20 then blet (x3 + (1 : Int32)) (fun x3_22 => f_X12_warmest_L23 n x1 x2 x3_22 σ19) else f_X12_warmest_J71_23 (f_X12_warmest_L23 n) x1 x3 σ19)))))))))
def f_X12_warmest (x1 : Int32) (σ : bSto) : Option (Int32 × bSto) := bbv (f_X12_good  σ) (fun σ2 => bbd (f_X12_isPerson x1 σ2) (fun v5 σ4 => (if v5 = 0 then bbd (f_X12_no (1 : Int32) σ4) (fun v11 σ10 => some (v11, σ10)) else bl1 (f_X12_warmest_L23 bFU x1 (-2 : Int32) (0 : Int32) σ4) (fun x2_7 σ8 => some (x2_7, σ8)))))
set_option maxHeartbeats 4000000 in
set_option maxRecDepth 20000 in
theorem e_X12_warmest_J71_23 {X : bX} {l : Launch} {G : bG} {ρ : Nat → Nat} {A : Nat → Prop} {d : Nat} {r : Int32} {σ' : bSto} (C : bCX X cX12_warmest RX12 (d + 4)) (Hh : bH X l G bSHf ρ A 4) (Rt : bRX X (some .int) (some (.int r)) σ') {k : Int32 → Int32 → Int32 → bSto → Option (Int32 × bSto)} (ih : ∀ (x1 : Int32) (x2 : Int32) (x3 : Int32) (σ : bSto) (q : (Int32 × bSto)), k x1 x2 x3 σ = some q → (∀ (x2 : Int32) (s : bSto), q = (x2, s) → bAJ X 79 [(2, .int x2)] [] s) → bAJ X 23 [(0, .ref 92), (1, .int x1), (2, .int x2), (3, .int x3)] [] σ) (x1 : Int32) (x3 : Int32) (σ : bSto) (q : (Int32 × bSto)) (hF : f_X12_warmest_J71_23 k x1 x3 σ = some q) : (∀ (x2 : Int32) (s : bSto), q = (x2, s) → bAJ X 79 [(2, .int x2)] [] s) → bAJ X 71 [(0, .ref 92), (1, .int x1), (3, .int x3)] [] σ := by
  intro hx
  rw [f_X12_warmest_J71_23] at hF
  refine b_iload_n (pc := 71) C dX12_warmest_71 rfl 2 rfl ?_
  refine b_istore_n (L' := [(2, .int x3), (0, .ref 92), (1, .int x1), (3, .int x3)]) (pc := 72) C dX12_warmest_72 rfl rfl (Hh.2.1 _ (Nat.le_of_ble_eq_true rfl)) rfl ?_
  obtain ⟨x3_1, e2, hF⟩ := blet_e hF
  refine b_iinc (L' := [(3, .int x3_1), (2, .int x3), (0, .ref 92), (1, .int x1)]) (pc := 73) C dX12_warmest_73 3 rfl ic_1 e2 (Hh.2.1 _ (Nat.le_of_ble_eq_true rfl)) rfl ?_
  refine b_goto (tgt := 23) (pc := 76) C dX12_warmest_76 rfl ?_
  exact b_sub [2, 3, 1, 0] rfl (ih x1 x3 x3_1 _ _ hF hx)
set_option maxHeartbeats 4000000 in
set_option maxRecDepth 20000 in
theorem e_X12_warmest_L23 {X : bX} {l : Launch} {G : bG} {ρ : Nat → Nat} {A : Nat → Prop} {d : Nat} {r : Int32} {σ' : bSto} (C : bCX X cX12_warmest RX12 (d + 4)) (Hh : bH X l G bSHf ρ A 4) (Rt : bRX X (some .int) (some (.int r)) σ') : ∀ (n : Nat) (x1 : Int32) (x2 : Int32) (x3 : Int32) (σ : bSto) (q : (Int32 × bSto)), f_X12_warmest_L23 n x1 x2 x3 σ = some q → (∀ (x2 : Int32) (s : bSto), q = (x2, s) → bAJ X 79 [(2, .int x2)] [] s) → bAJ X 23 [(0, .ref 92), (1, .int x1), (2, .int x2), (3, .int x3)] [] σ := by
  intro n
  induction n with
  | zero => intro x1 x2 x3 σ q hF; rw [f_X12_warmest_L23] at hF; cases hF
  | succ n ih =>
    intro x1 x2 x3 σ q hF hx
    rw [f_X12_warmest_L23] at hF
    refine b_iload_n (pc := 23) C dX12_warmest_23 rfl 3 rfl ?_
    refine b_aload_n (pc := 24) C dX12_warmest_24 rfl 0 rfl ?_
    refine b_getS (pc := 25) C dX12_warmest_25 fl_X12_20 (Hh.1 _ _ sh_92) rfl ?_
    refine b_iconst (pc := 28) C dX12_warmest_28 ic_3 ?_
    refine b_ialdK (pc := 29) C dX12_warmest_29 (Hh.1 _ _ sh_95) tn_3 (by decide) ?_
    refine b_icmp_ge (tgt := 79) (pc := 30) C dX12_warmest_30 rfl (fun hc1 => ?_) (fun hc1 => ?_)
    · rw [if_pos hc1] at hF
      exact b_sub [2] rfl (hx _ _ (Option.some.inj hF).symm )
    · rw [if_neg hc1] at hF
      refine b_aload_n (pc := 33) C dX12_warmest_33 rfl 0 rfl ?_
      refine b_iload_n (pc := 34) C dX12_warmest_34 rfl 1 rfl ?_
      refine b_iload_n (pc := 35) C dX12_warmest_35 rfl 3 rfl ?_
      obtain ⟨v4, σ3, hc2, hF⟩ := bbd_e hF
      refine b_cV2i (d' := (d + 3)) (pc := 36) C dX12_warmest_36 mm_X12_327 (Hh.1 _ _ sh_92) rfl (Nat.le_of_ble_eq_true rfl) (by omega) (Hh.2.2 _ _ _ _ _ _ _ _ _ (lvl_eq (by omega) (e_X12_mayOn (d + 2) x1 x3 _ _ _ hc2))) ?_
      refine b_if_eq (tgt := 73) (pc := 39) C dX12_warmest_39 rfl (fun hc5 => ?_) (fun hc5 => ?_)
      · rw [if_pos hc5] at hF
        obtain ⟨x3_6, e7, hF⟩ := blet_e hF
        refine b_iinc (L' := [(3, .int x3_6), (0, .ref 92), (1, .int x1), (2, .int x2)]) (pc := 73) C dX12_warmest_73 3 rfl ic_1 e7 (Hh.2.1 _ (Nat.le_of_ble_eq_true rfl)) rfl ?_
        refine b_goto (tgt := 23) (pc := 76) C dX12_warmest_76 rfl ?_
        exact b_sub [1, 2, 3, 0] rfl (ih x1 x2 x3_6 _ _ hF hx)
      · rw [if_neg hc5] at hF
        refine b_aload_n (pc := 42) C dX12_warmest_42 rfl 0 rfl ?_
        refine b_aload_n (pc := 43) C dX12_warmest_43 rfl 0 rfl ?_
        refine b_getS (pc := 44) C dX12_warmest_44 fl_X12_26 (Hh.1 _ _ sh_92) rfl ?_
        refine b_iload_n (pc := 47) C dX12_warmest_47 rfl 3 rfl ?_
        obtain ⟨v10, σ9, hc8, hF⟩ := bbd_e hF
        refine b_cV2i (d' := (d + 3)) (pc := 48) C dX12_warmest_48 mm_X12_336 (Hh.1 _ _ sh_92) rfl (Nat.le_of_ble_eq_true rfl) (by omega) (Hh.2.2 _ _ _ _ _ _ _ _ _ (lvl_eq (by omega) (e_X12_isFree (d + 2) _ (show kIA 97 from sh_97) x3 _ _ _ hc8))) ?_
        refine b_if_eq (tgt := 73) (pc := 51) C dX12_warmest_51 rfl (fun hc11 => ?_) (fun hc11 => ?_)
        · rw [if_pos hc11] at hF
          obtain ⟨x3_12, e13, hF⟩ := blet_e hF
          refine b_iinc (L' := [(3, .int x3_12), (0, .ref 92), (1, .int x1), (2, .int x2)]) (pc := 73) C dX12_warmest_73 3 rfl ic_1 e13 (Hh.2.1 _ (Nat.le_of_ble_eq_true rfl)) rfl ?_
          refine b_goto (tgt := 23) (pc := 76) C dX12_warmest_76 rfl ?_
          exact b_sub [1, 2, 3, 0] rfl (ih x1 x2 x3_12 _ _ hF hx)
        · rw [if_neg hc11] at hF
          refine b_iload_n (pc := 54) C dX12_warmest_54 rfl 2 rfl ?_
          refine b_if_lt (tgt := 71) (pc := 55) C dX12_warmest_55 rfl (fun hc14 => ?_) (fun hc14 => ?_)
          · rw [if_pos hc14] at hF
            exact b_sub [0, 1, 3] rfl (e_X12_warmest_J71_23 C Hh Rt ih x1 x3 _ _ hF hx)
          · rw [if_neg hc14] at hF
            refine b_aload_n (pc := 58) C dX12_warmest_58 rfl 0 rfl ?_
            refine b_iload_n (pc := 59) C dX12_warmest_59 rfl 3 rfl ?_
            obtain ⟨v17, σ16, hc15, hF⟩ := bbd_e hF
            refine b_cV1i (d' := (d + 3)) (pc := 60) C dX12_warmest_60 mm_X12_315 (Hh.1 _ _ sh_92) rfl (Nat.le_of_ble_eq_true rfl) (by omega) (Hh.2.2 _ _ _ _ _ _ _ _ _ (lvl_eq (by omega) (e_X12_warmthOf (d + 0) x3 _ _ _ hc15))) ?_
            refine b_aload_n (pc := 63) C dX12_warmest_63 rfl 0 rfl ?_
            refine b_iload_n (pc := 64) C dX12_warmest_64 rfl 2 rfl ?_
            obtain ⟨v20, σ19, hc18, hF⟩ := bbd_e hF
            refine b_cV1i (d' := (d + 3)) (pc := 65) C dX12_warmest_65 mm_X12_315 (Hh.1 _ _ sh_92) rfl (Nat.le_of_ble_eq_true rfl) (by omega) (Hh.2.2 _ _ _ _ _ _ _ _ _ (lvl_eq (by omega) (e_X12_warmthOf (d + 0) x2 _ _ _ hc18))) ?_
            refine b_icmp_le (tgt := 73) (pc := 68) C dX12_warmest_68 rfl (fun hc21 => ?_) (fun hc21 => ?_)
            · rw [if_pos hc21] at hF
              obtain ⟨x3_22, e23, hF⟩ := blet_e hF
              refine b_iinc (L' := [(3, .int x3_22), (0, .ref 92), (1, .int x1), (2, .int x2)]) (pc := 73) C dX12_warmest_73 3 rfl ic_1 e23 (Hh.2.1 _ (Nat.le_of_ble_eq_true rfl)) rfl ?_
              refine b_goto (tgt := 23) (pc := 76) C dX12_warmest_76 rfl ?_
              exact b_sub [1, 2, 3, 0] rfl (ih x1 x2 x3_22 _ _ hF hx)
            · rw [if_neg hc21] at hF
              exact b_sub [0, 1, 3] rfl (e_X12_warmest_J71_23 C Hh Rt ih x1 x3 _ _ hF hx)
set_option maxHeartbeats 4000000 in
set_option maxRecDepth 20000 in
theorem e_X12_warmest_0 {X : bX} {l : Launch} {G : bG} {ρ : Nat → Nat} {A : Nat → Prop} {d : Nat} {r : Int32} {σ' : bSto} (C : bCX X cX12_warmest RX12 (d + 4)) (Hh : bH X l G bSHf ρ A 4) (Rt : bRX X (some .int) (some (.int r)) σ') (x1 : Int32) (σ : bSto) (hF : f_X12_warmest x1 σ = some (r, σ')) : bAJ X 0 [(0, .ref 92), (1, .int x1)] [] σ := by
  rw [f_X12_warmest] at hF
  refine b_aload_n (pc := 0) C dX12_warmest_0 rfl 0 rfl ?_
  obtain ⟨σ2, hc1, hF⟩ := bbv_e hF
  refine b_cV0v (d' := (d + 3)) (pc := 1) C dX12_warmest_1 mm_X12_181 (Hh.1 _ _ sh_92) rfl (Nat.le_of_ble_eq_true rfl) (by omega) (Hh.2.2 _ _ _ _ _ _ _ _ _ (lvl_eq (by omega) (e_X12_good (d + 3)  _ _ hc1))) ?_
  refine b_aload_n (pc := 4) C dX12_warmest_4 rfl 0 rfl ?_
  refine b_iload_n (pc := 5) C dX12_warmest_5 rfl 1 rfl ?_
  obtain ⟨v5, σ4, hc3, hF⟩ := bbd_e hF
  refine b_cV1i (d' := (d + 3)) (pc := 6) C dX12_warmest_6 mm_X12_318 (Hh.1 _ _ sh_92) rfl (Nat.le_of_ble_eq_true rfl) (by omega) (Hh.2.2 _ _ _ _ _ _ _ _ _ (lvl_eq (by omega) (e_X12_isPerson (d + 2) x1 _ _ _ hc3))) ?_
  refine b_if_ne (tgt := 18) (pc := 9) C dX12_warmest_9 rfl (fun hc6 => ?_) (fun hc6 => ?_)
  · rw [if_neg hc6] at hF
    refine b_bipush (pc := 18) C dX12_warmest_18 bp_m2 ?_
    refine b_istore_n (L' := [(2, .int (-2 : Int32)), (0, .ref 92), (1, .int x1)]) (pc := 20) C dX12_warmest_20 rfl rfl (Hh.2.1 _ (Nat.le_of_ble_eq_true rfl)) rfl ?_
    refine b_iconst (pc := 21) C dX12_warmest_21 ic_0 ?_
    refine b_istore_n (L' := [(3, .int (0 : Int32)), (2, .int (-2 : Int32)), (0, .ref 92), (1, .int x1)]) (pc := 22) C dX12_warmest_22 rfl rfl (Hh.2.1 _ (Nat.le_of_ble_eq_true rfl)) rfl ?_
    obtain ⟨x2_7, σ8, hq7, hF⟩ := bl1_e hF
    refine b_sub [2, 3, 1, 0] rfl (e_X12_warmest_L23 C Hh Rt bFU x1 (-2 : Int32) (0 : Int32) _ _ hq7 (fun _ _ e  => ?_))
    cases e
    refine b_iload_n (pc := 79) C dX12_warmest_79 rfl 0 rfl ?_
    exact b_iret (pc := 80) C Rt dX12_warmest_80 hF
  · rw [if_pos hc6] at hF
    refine b_aload_n (pc := 12) C dX12_warmest_12 rfl 0 rfl ?_
    refine b_iconst (pc := 13) C dX12_warmest_13 ic_1 ?_
    obtain ⟨v11, σ10, hc9, hF⟩ := bbd_e hF
    refine b_cV1i (d' := (d + 3)) (pc := 14) C dX12_warmest_14 mm_X12_184 (Hh.1 _ _ sh_92) rfl (Nat.le_of_ble_eq_true rfl) (by omega) (Hh.2.2 _ _ _ _ _ _ _ _ _ (lvl_eq (by omega) (e_X12_no (d + 3) (1 : Int32) _ _ _ hc9))) ?_
    exact b_iret (pc := 17) C Rt dX12_warmest_17 hF
set_option maxHeartbeats 4000000 in
set_option maxRecDepth 20000 in
theorem e_X12_warmest {l : Launch} {G : bG} {ρ : Nat → Nat} {A : Nat → Prop} (d : Nat) (x1 : Int32) (σ : bSto) (r : Int32) (σ' : bSto) (hF : f_X12_warmest x1 σ = some (r, σ')) : bEv l G bSHf ρ A yX12_warmest cX12_warmest 4 (some .int) (d + 4) [.ref 92, .int x1] σ (some (.int r)) σ' := b_met (d := d + 4) (by decide +kernel) (Nat.le_of_ble_eq_true rfl) rfl (fun X C Rt h1 h2 h3 => e_X12_warmest_0 C ⟨fun o q h => by rw [h1]; exact h, fun i h => by rw [h2]; exact h, h3⟩ Rt _ _ hF)
/-! BenchColonyModel.rents -/
def f_X12_rents_J57_21 (k : Int32 → Int32 → bSto → Option (Int32 × bSto)) (x2 : Int32) (s0 : Int32) (s1 : Int32) (σ : bSto) : Option (Int32 × bSto) := blet (s0 + s1) (fun x1_1 => blet (x2 + (1 : Int32)) (fun x2_3 => k x1_1 x2_3 σ))
def f_X12_rents_L21 : Nat → Int32 → Int32 → bSto → Option (Int32 × bSto)
  | 0, _, _, _ => none
  | n + 1, x1, x2, σ => (if (σ.1 95 4) ≤ x2 then some (x1, σ) else if x2 < 0 ∨ 16 ≤ x2.toNatClampNeg then none else (if (σ.1 97 x2.toNatClampNeg) = 0 then f_X12_rents_J57_21 (f_X12_rents_L21 n) x2 x1 (0 : Int32) σ else if x2 < 0 ∨ 16 ≤ x2.toNatClampNeg then none else bbd (f_X12_rentOf ((σ.1 97 x2.toNatClampNeg) - (1 : Int32)) σ) (fun v7 σ6 => f_X12_rents_J57_21 (f_X12_rents_L21 n) x2 x1 v7 σ6)))
def f_X12_rents  (σ : bSto) : Option (Int32 × bSto) := bbv (f_X12_good  σ) (fun σ2 => (if (σ2.1 92 14) = 0 then bbd (f_X12_no (1 : Int32) σ2) (fun v8 σ7 => some (v8, σ7)) else bl1 (f_X12_rents_L21 bFU (0 : Int32) (0 : Int32) σ2) (fun x1_4 σ5 => some (x1_4, σ5))))
set_option maxHeartbeats 4000000 in
set_option maxRecDepth 20000 in
theorem e_X12_rents_J57_21 {X : bX} {l : Launch} {G : bG} {ρ : Nat → Nat} {A : Nat → Prop} {d : Nat} {r : Int32} {σ' : bSto} (C : bCX X cX12_rents RX12 (d + 1)) (Hh : bH X l G bSHf ρ A 3) (Rt : bRX X (some .int) (some (.int r)) σ') {k : Int32 → Int32 → bSto → Option (Int32 × bSto)} (ih : ∀ (x1 : Int32) (x2 : Int32) (σ : bSto) (q : (Int32 × bSto)), k x1 x2 σ = some q → (∀ (x1 : Int32) (s : bSto), q = (x1, s) → bAJ X 65 [(1, .int x1)] [] s) → bAJ X 21 [(0, .ref 92), (1, .int x1), (2, .int x2)] [] σ) (x2 : Int32) (s0 : Int32) (s1 : Int32) (σ : bSto) (q : (Int32 × bSto)) (hF : f_X12_rents_J57_21 k x2 s0 s1 σ = some q) : (∀ (x1 : Int32) (s : bSto), q = (x1, s) → bAJ X 65 [(1, .int x1)] [] s) → bAJ X 57 [(0, .ref 92), (2, .int x2)] [.int s1, .int s0] σ := by
  intro hx
  rw [f_X12_rents_J57_21] at hF
  refine b_iadd (pc := 57) C dX12_rents_57 ?_
  obtain ⟨x1_1, e2, hF⟩ := blet_e hF
  refine b_istore_n (L' := [(1, .int x1_1), (0, .ref 92), (2, .int x2)]) (pc := 58) C dX12_rents_58 rfl e2 (Hh.2.1 _ (Nat.le_of_ble_eq_true rfl)) rfl ?_
  obtain ⟨x2_3, e4, hF⟩ := blet_e hF
  refine b_iinc (L' := [(2, .int x2_3), (1, .int x1_1), (0, .ref 92)]) (pc := 59) C dX12_rents_59 2 rfl ic_1 e4 (Hh.2.1 _ (Nat.le_of_ble_eq_true rfl)) rfl ?_
  refine b_goto (tgt := 21) (pc := 62) C dX12_rents_62 rfl ?_
  exact b_sub [2, 1, 0] rfl (ih x1_1 x2_3 _ _ hF hx)
set_option maxHeartbeats 4000000 in
set_option maxRecDepth 20000 in
theorem e_X12_rents_L21 {X : bX} {l : Launch} {G : bG} {ρ : Nat → Nat} {A : Nat → Prop} {d : Nat} {r : Int32} {σ' : bSto} (C : bCX X cX12_rents RX12 (d + 1)) (Hh : bH X l G bSHf ρ A 3) (Rt : bRX X (some .int) (some (.int r)) σ') : ∀ (n : Nat) (x1 : Int32) (x2 : Int32) (σ : bSto) (q : (Int32 × bSto)), f_X12_rents_L21 n x1 x2 σ = some q → (∀ (x1 : Int32) (s : bSto), q = (x1, s) → bAJ X 65 [(1, .int x1)] [] s) → bAJ X 21 [(0, .ref 92), (1, .int x1), (2, .int x2)] [] σ := by
  intro n
  induction n with
  | zero => intro x1 x2 σ q hF; rw [f_X12_rents_L21] at hF; cases hF
  | succ n ih =>
    intro x1 x2 σ q hF hx
    rw [f_X12_rents_L21] at hF
    refine b_iload_n (pc := 21) C dX12_rents_21 rfl 2 rfl ?_
    refine b_aload_n (pc := 22) C dX12_rents_22 rfl 0 rfl ?_
    refine b_getS (pc := 23) C dX12_rents_23 fl_X12_20 (Hh.1 _ _ sh_92) rfl ?_
    refine b_iconst (pc := 26) C dX12_rents_26 ic_4 ?_
    refine b_ialdK (pc := 27) C dX12_rents_27 (Hh.1 _ _ sh_95) tn_4 (by decide) ?_
    refine b_icmp_ge (tgt := 65) (pc := 28) C dX12_rents_28 rfl (fun hc1 => ?_) (fun hc1 => ?_)
    · rw [if_pos hc1] at hF
      exact b_sub [1] rfl (hx _ _ (Option.some.inj hF).symm )
    · rw [if_neg hc1] at hF
      refine b_iload_n (pc := 31) C dX12_rents_31 rfl 1 rfl ?_
      refine b_aload_n (pc := 32) C dX12_rents_32 rfl 0 rfl ?_
      refine b_getS (pc := 33) C dX12_rents_33 fl_X12_26 (Hh.1 _ _ sh_92) rfl ?_
      refine b_iload_n (pc := 36) C dX12_rents_36 rfl 2 rfl ?_
      obtain ⟨hb2, hF⟩ := bif_n hF
      refine b_iald (pc := 37) C dX12_rents_37 (Hh.1 _ _ sh_97) hb2 ?_
      refine b_if_ne (tgt := 45) (pc := 38) C dX12_rents_38 rfl (fun hc3 => ?_) (fun hc3 => ?_)
      · rw [if_neg hc3] at hF
        refine b_aload_n (pc := 45) C dX12_rents_45 rfl 0 rfl ?_
        refine b_aload_n (pc := 46) C dX12_rents_46 rfl 0 rfl ?_
        refine b_getS (pc := 47) C dX12_rents_47 fl_X12_26 (Hh.1 _ _ sh_92) rfl ?_
        refine b_iload_n (pc := 50) C dX12_rents_50 rfl 2 rfl ?_
        obtain ⟨hb4, hF⟩ := bif_n hF
        refine b_iald (pc := 51) C dX12_rents_51 (Hh.1 _ _ sh_97) hb4 ?_
        refine b_iconst (pc := 52) C dX12_rents_52 ic_1 ?_
        refine b_isub (pc := 53) C dX12_rents_53 ?_
        obtain ⟨v7, σ6, hc5, hF⟩ := bbd_e hF
        refine b_cV1i (d' := (d + 0)) (pc := 54) C dX12_rents_54 mm_X12_340 (Hh.1 _ _ sh_92) rfl (Nat.le_of_ble_eq_true rfl) (by omega) (Hh.2.2 _ _ _ _ _ _ _ _ _ (lvl_eq (by omega) (e_X12_rentOf (d + 0) ((σ.1 97 x2.toNatClampNeg) - (1 : Int32)) _ _ _ hc5))) ?_
        exact b_sub [0, 2] rfl (e_X12_rents_J57_21 C Hh Rt ih x2 x1 v7 _ _ hF hx)
      · rw [if_pos hc3] at hF
        refine b_iconst (pc := 41) C dX12_rents_41 ic_0 ?_
        refine b_goto (tgt := 57) (pc := 42) C dX12_rents_42 rfl ?_
        exact b_sub [0, 2] rfl (e_X12_rents_J57_21 C Hh Rt ih x2 x1 (0 : Int32) _ _ hF hx)
set_option maxHeartbeats 4000000 in
set_option maxRecDepth 20000 in
theorem e_X12_rents_0 {X : bX} {l : Launch} {G : bG} {ρ : Nat → Nat} {A : Nat → Prop} {d : Nat} {r : Int32} {σ' : bSto} (C : bCX X cX12_rents RX12 (d + 1)) (Hh : bH X l G bSHf ρ A 3) (Rt : bRX X (some .int) (some (.int r)) σ')  (σ : bSto) (hF : f_X12_rents  σ = some (r, σ')) : bAJ X 0 [(0, .ref 92)] [] σ := by
  rw [f_X12_rents] at hF
  refine b_aload_n (pc := 0) C dX12_rents_0 rfl 0 rfl ?_
  obtain ⟨σ2, hc1, hF⟩ := bbv_e hF
  refine b_cV0v (d' := (d + 0)) (pc := 1) C dX12_rents_1 mm_X12_181 (Hh.1 _ _ sh_92) rfl (Nat.le_of_ble_eq_true rfl) (by omega) (Hh.2.2 _ _ _ _ _ _ _ _ _ (lvl_eq (by omega) (e_X12_good (d + 0)  _ _ hc1))) ?_
  refine b_aload_n (pc := 4) C dX12_rents_4 rfl 0 rfl ?_
  refine b_getI (pc := 5) C dX12_rents_5 fl_X12_194 (Hh.1 _ _ sh_92) rfl ?_
  refine b_if_ne (tgt := 17) (pc := 8) C dX12_rents_8 rfl (fun hc3 => ?_) (fun hc3 => ?_)
  · rw [if_neg hc3] at hF
    refine b_iconst (pc := 17) C dX12_rents_17 ic_0 ?_
    refine b_istore_n (L' := [(1, .int (0 : Int32)), (0, .ref 92)]) (pc := 18) C dX12_rents_18 rfl rfl (Hh.2.1 _ (Nat.le_of_ble_eq_true rfl)) rfl ?_
    refine b_iconst (pc := 19) C dX12_rents_19 ic_0 ?_
    refine b_istore_n (L' := [(2, .int (0 : Int32)), (1, .int (0 : Int32)), (0, .ref 92)]) (pc := 20) C dX12_rents_20 rfl rfl (Hh.2.1 _ (Nat.le_of_ble_eq_true rfl)) rfl ?_
    obtain ⟨x1_4, σ5, hq4, hF⟩ := bl1_e hF
    refine b_sub [2, 1, 0] rfl (e_X12_rents_L21 C Hh Rt bFU (0 : Int32) (0 : Int32) _ _ hq4 (fun _ _ e  => ?_))
    cases e
    refine b_iload_n (pc := 65) C dX12_rents_65 rfl 0 rfl ?_
    exact b_iret (pc := 66) C Rt dX12_rents_66 hF
  · rw [if_pos hc3] at hF
    refine b_aload_n (pc := 11) C dX12_rents_11 rfl 0 rfl ?_
    refine b_iconst (pc := 12) C dX12_rents_12 ic_1 ?_
    obtain ⟨v8, σ7, hc6, hF⟩ := bbd_e hF
    refine b_cV1i (d' := (d + 0)) (pc := 13) C dX12_rents_13 mm_X12_184 (Hh.1 _ _ sh_92) rfl (Nat.le_of_ble_eq_true rfl) (by omega) (Hh.2.2 _ _ _ _ _ _ _ _ _ (lvl_eq (by omega) (e_X12_no (d + 0) (1 : Int32) _ _ _ hc6))) ?_
    exact b_iret (pc := 16) C Rt dX12_rents_16 hF
set_option maxHeartbeats 4000000 in
set_option maxRecDepth 20000 in
theorem e_X12_rents {l : Launch} {G : bG} {ρ : Nat → Nat} {A : Nat → Prop} (d : Nat)  (σ : bSto) (r : Int32) (σ' : bSto) (hF : f_X12_rents  σ = some (r, σ')) : bEv l G bSHf ρ A yX12_rents cX12_rents 3 (some .int) (d + 1) [.ref 92] σ (some (.int r)) σ' := b_met (d := d + 1) (by decide +kernel) (Nat.le_of_ble_eq_true rfl) rfl (fun X C Rt h1 h2 h3 => e_X12_rents_0 C ⟨fun o q h => by rw [h1]; exact h, fun i h => by rw [h2]; exact h, h3⟩ Rt  _ hF)
/-! BenchColonyModel.heatFor -/
def f_X12_heatFor_L33 : Nat → Int32 → Int32 → bSto → Option (Int32 × bSto)
  | 0, _, _, _ => none
  | n + 1, x1, x2, σ => bbd (f_X12_contentOn 97 x2 σ) (fun v3 σ2 => bbd (f_X12_ones v3 σ2) (fun v6 σ5 => (if x1 ≤ v6 then some (x2, σ5) else blet (x2 + (1 : Int32)) (fun x2_8 => f_X12_heatFor_L33 n x1 x2_8 σ5))))
def f_X12_heatFor  (σ : bSto) : Option (Int32 × bSto) := bbv (f_X12_good  σ) (fun σ2 => (if (σ2.1 92 14) = 0 then bbd (f_X12_no (1 : Int32) σ2) (fun v14 σ13 => some (v14, σ13)) else bbd (f_X12_contentOn 97 (60 : Int32) σ2) (fun v6 σ5 => bbd (f_X12_ones v6 σ5) (fun v9 σ8 => bl1 (f_X12_heatFor_L33 bFU v9 (1 : Int32) σ8) (fun x2_10 σ11 => some (x2_10, σ11))))))
set_option maxHeartbeats 4000000 in
set_option maxRecDepth 20000 in
theorem e_X12_heatFor_L33 {X : bX} {l : Launch} {G : bG} {ρ : Nat → Nat} {A : Nat → Prop} {d : Nat} {r : Int32} {σ' : bSto} (C : bCX X cX12_heatFor RX12 (d + 4)) (Hh : bH X l G bSHf ρ A 3) (Rt : bRX X (some .int) (some (.int r)) σ') : ∀ (n : Nat) (x1 : Int32) (x2 : Int32) (σ : bSto) (q : (Int32 × bSto)), f_X12_heatFor_L33 n x1 x2 σ = some q → (∀ (x2 : Int32) (s : bSto), q = (x2, s) → bAJ X 55 [(2, .int x2)] [] s) → bAJ X 33 [(0, .ref 92), (1, .int x1), (2, .int x2)] [] σ := by
  intro n
  induction n with
  | zero => intro x1 x2 σ q hF; rw [f_X12_heatFor_L33] at hF; cases hF
  | succ n ih =>
    intro x1 x2 σ q hF hx
    rw [f_X12_heatFor_L33] at hF
    refine b_aload_n (pc := 33) C dX12_heatFor_33 rfl 0 rfl ?_
    refine b_aload_n (pc := 34) C dX12_heatFor_34 rfl 0 rfl ?_
    refine b_getS (pc := 35) C dX12_heatFor_35 fl_X12_26 (Hh.1 _ _ sh_92) rfl ?_
    refine b_iload_n (pc := 38) C dX12_heatFor_38 rfl 2 rfl ?_
    obtain ⟨v3, σ2, hc1, hF⟩ := bbd_e hF
    refine b_cV2i (d' := (d + 3)) (pc := 39) C dX12_heatFor_39 mm_X12_330 (Hh.1 _ _ sh_92) rfl (Nat.le_of_ble_eq_true rfl) (by omega) (Hh.2.2 _ _ _ _ _ _ _ _ _ (lvl_eq (by omega) (e_X12_contentOn (d + 0) _ (show kIA 97 from sh_97) x2 _ _ _ hc1))) ?_
    obtain ⟨v6, σ5, hc4, hF⟩ := bbd_e hF
    refine b_cS1i (d' := (d + 3)) (pc := 42) C dX12_heatFor_42 mm_X12_299 (Nat.le_of_ble_eq_true rfl) (by omega) (Hh.2.2 _ _ _ _ _ _ _ _ _ (lvl_eq (by omega) (e_X12_ones (d + 3) v3 _ _ _ hc4))) ?_
    refine b_iload_n (pc := 45) C dX12_heatFor_45 rfl 1 rfl ?_
    refine b_icmp_ge (tgt := 55) (pc := 46) C dX12_heatFor_46 rfl (fun hc7 => ?_) (fun hc7 => ?_)
    · rw [if_pos hc7] at hF
      exact b_sub [2] rfl (hx _ _ (Option.some.inj hF).symm )
    · rw [if_neg hc7] at hF
      obtain ⟨x2_8, e9, hF⟩ := blet_e hF
      refine b_iinc (L' := [(2, .int x2_8), (0, .ref 92), (1, .int x1)]) (pc := 49) C dX12_heatFor_49 2 rfl ic_1 e9 (Hh.2.1 _ (Nat.le_of_ble_eq_true rfl)) rfl ?_
      refine b_goto (tgt := 33) (pc := 52) C dX12_heatFor_52 rfl ?_
      exact b_sub [1, 2, 0] rfl (ih x1 x2_8 _ _ hF hx)
set_option maxHeartbeats 4000000 in
set_option maxRecDepth 20000 in
theorem e_X12_heatFor_0 {X : bX} {l : Launch} {G : bG} {ρ : Nat → Nat} {A : Nat → Prop} {d : Nat} {r : Int32} {σ' : bSto} (C : bCX X cX12_heatFor RX12 (d + 4)) (Hh : bH X l G bSHf ρ A 3) (Rt : bRX X (some .int) (some (.int r)) σ')  (σ : bSto) (hF : f_X12_heatFor  σ = some (r, σ')) : bAJ X 0 [(0, .ref 92)] [] σ := by
  rw [f_X12_heatFor] at hF
  refine b_aload_n (pc := 0) C dX12_heatFor_0 rfl 0 rfl ?_
  obtain ⟨σ2, hc1, hF⟩ := bbv_e hF
  refine b_cV0v (d' := (d + 3)) (pc := 1) C dX12_heatFor_1 mm_X12_181 (Hh.1 _ _ sh_92) rfl (Nat.le_of_ble_eq_true rfl) (by omega) (Hh.2.2 _ _ _ _ _ _ _ _ _ (lvl_eq (by omega) (e_X12_good (d + 3)  _ _ hc1))) ?_
  refine b_aload_n (pc := 4) C dX12_heatFor_4 rfl 0 rfl ?_
  refine b_getI (pc := 5) C dX12_heatFor_5 fl_X12_194 (Hh.1 _ _ sh_92) rfl ?_
  refine b_if_ne (tgt := 17) (pc := 8) C dX12_heatFor_8 rfl (fun hc3 => ?_) (fun hc3 => ?_)
  · rw [if_neg hc3] at hF
    refine b_aload_n (pc := 17) C dX12_heatFor_17 rfl 0 rfl ?_
    refine b_aload_n (pc := 18) C dX12_heatFor_18 rfl 0 rfl ?_
    refine b_getS (pc := 19) C dX12_heatFor_19 fl_X12_26 (Hh.1 _ _ sh_92) rfl ?_
    refine b_bipush (pc := 22) C dX12_heatFor_22 bp_60 ?_
    obtain ⟨v6, σ5, hc4, hF⟩ := bbd_e hF
    refine b_cV2i (d' := (d + 3)) (pc := 24) C dX12_heatFor_24 mm_X12_330 (Hh.1 _ _ sh_92) rfl (Nat.le_of_ble_eq_true rfl) (by omega) (Hh.2.2 _ _ _ _ _ _ _ _ _ (lvl_eq (by omega) (e_X12_contentOn (d + 0) _ (show kIA 97 from sh_97) (60 : Int32) _ _ _ hc4))) ?_
    obtain ⟨v9, σ8, hc7, hF⟩ := bbd_e hF
    refine b_cS1i (d' := (d + 3)) (pc := 27) C dX12_heatFor_27 mm_X12_299 (Nat.le_of_ble_eq_true rfl) (by omega) (Hh.2.2 _ _ _ _ _ _ _ _ _ (lvl_eq (by omega) (e_X12_ones (d + 3) v6 _ _ _ hc7))) ?_
    refine b_istore_n (L' := [(1, .int v9), (0, .ref 92)]) (pc := 30) C dX12_heatFor_30 rfl rfl (Hh.2.1 _ (Nat.le_of_ble_eq_true rfl)) rfl ?_
    refine b_iconst (pc := 31) C dX12_heatFor_31 ic_1 ?_
    refine b_istore_n (L' := [(2, .int (1 : Int32)), (1, .int v9), (0, .ref 92)]) (pc := 32) C dX12_heatFor_32 rfl rfl (Hh.2.1 _ (Nat.le_of_ble_eq_true rfl)) rfl ?_
    obtain ⟨x2_10, σ11, hq10, hF⟩ := bl1_e hF
    refine b_sub [2, 1, 0] rfl (e_X12_heatFor_L33 C Hh Rt bFU v9 (1 : Int32) _ _ hq10 (fun _ _ e  => ?_))
    cases e
    refine b_iload_n (pc := 55) C dX12_heatFor_55 rfl 0 rfl ?_
    exact b_iret (pc := 56) C Rt dX12_heatFor_56 hF
  · rw [if_pos hc3] at hF
    refine b_aload_n (pc := 11) C dX12_heatFor_11 rfl 0 rfl ?_
    refine b_iconst (pc := 12) C dX12_heatFor_12 ic_1 ?_
    obtain ⟨v14, σ13, hc12, hF⟩ := bbd_e hF
    refine b_cV1i (d' := (d + 3)) (pc := 13) C dX12_heatFor_13 mm_X12_184 (Hh.1 _ _ sh_92) rfl (Nat.le_of_ble_eq_true rfl) (by omega) (Hh.2.2 _ _ _ _ _ _ _ _ _ (lvl_eq (by omega) (e_X12_no (d + 3) (1 : Int32) _ _ _ hc12))) ?_
    exact b_iret (pc := 16) C Rt dX12_heatFor_16 hF
set_option maxHeartbeats 4000000 in
set_option maxRecDepth 20000 in
theorem e_X12_heatFor {l : Launch} {G : bG} {ρ : Nat → Nat} {A : Nat → Prop} (d : Nat)  (σ : bSto) (r : Int32) (σ' : bSto) (hF : f_X12_heatFor  σ = some (r, σ')) : bEv l G bSHf ρ A yX12_heatFor cX12_heatFor 3 (some .int) (d + 4) [.ref 92] σ (some (.int r)) σ' := b_met (d := d + 4) (by decide +kernel) (Nat.le_of_ble_eq_true rfl) rfl (fun X C Rt h1 h2 h3 => e_X12_heatFor_0 C ⟨fun o q h => by rw [h1]; exact h, fun i h => by rw [h2]; exact h, h3⟩ Rt  _ hF)
/-! BenchColonyModel.trySits -/
def f_X12_trySits_L85 (g : Int32 → Int32 → Int32 → Int32 → bSto → Option bSto) : Nat → Int32 → Int32 → Int32 → Int32 → Int32 → bSto → Option (Int32 × Int32 × Int32 × Int32 × bSto)
  | 0, _, _, _, _, _, _ => none
  | n + 1, x1, x2, x3, x4, x5, σ => (if (σ.1 95 3) ≤ x5 then some (x1, x2, x3, x4, σ) else (if x1 = x4 then some (x1, x2, x3, x4, σ) else if x5 < 0 ∨ 6 ≤ x5.toNatClampNeg then none else (if (σ.1 102 x5.toNatClampNeg) = 0 then blet (x5 + (1 : Int32)) (fun x5_5 => f_X12_trySits_L85 g n x1 x2 x3 x4 x5_5 σ) else bbd (f_X12_mayOn x1 x5 σ) (fun v9 σ8 => (if v9 = 0 then blet (x5 + (1 : Int32)) (fun x5_11 => f_X12_trySits_L85 g n x1 x2 x3 x4 x5_11 σ8) else bbd (f_X12_heatOf x5 σ8) (fun v15 σ14 => bbd (f_X12_coldOf x1 σ14) (fun v18 σ17 => (if v18 ≤ v15 then if x5 < 0 ∨ 6 ≤ x5.toNatClampNeg then none else if x5 < 0 ∨ 6 ≤ x5.toNatClampNeg then none else blet (bI σ17 102 x5.toNatClampNeg ((σ17.1 102 x5.toNatClampNeg) - (1 : Int32))) (fun σ21 => if x1 < 0 ∨ 7 ≤ x1.toNatClampNeg then none else blet (bI σ21 100 x1.toNatClampNeg (x5 + (1 : Int32))) (fun σ24 => bbd (f_X12_rentOf x5 σ24) (fun v29 σ28 => bbv (g (x1 + (1 : Int32)) (x2 + (1 : Int32)) (x3 + v29) x4 σ28) (fun σ31 => if x5 < 0 ∨ 6 ≤ x5.toNatClampNeg then none else if x5 < 0 ∨ 6 ≤ x5.toNatClampNeg then none else blet (bI σ31 102 x5.toNatClampNeg ((σ31.1 102 x5.toNatClampNeg) + (1 : Int32))) (fun σ33 => blet (x5 + (1 : Int32)) (fun x5_36 => f_X12_trySits_L85 g n x1 x2 x3 x4 x5_36 σ33)))))) else blet (x5 + (1 : Int32)) (fun x5_38 => f_X12_trySits_L85 g n x1 x2 x3 x4 x5_38 σ17)))))))))
def f_X12_trySits_J197 (g : Int32 → Int32 → Int32 → Int32 → bSto → Option bSto) (x1 : Int32) (x2 : Int32) (x3 : Int32) (x4 : Int32) (σ : bSto) : Option bSto := if x1 < 0 ∨ 7 ≤ x1.toNatClampNeg then none else blet (bI σ 100 x1.toNatClampNeg (0 : Int32)) (fun σ1 => bbv (g (x1 + (1 : Int32)) x2 x3 x4 σ1) (fun σ5 => some σ5))
def f_X12_trySits_J61 (g : Int32 → Int32 → Int32 → Int32 → bSto → Option bSto) (x3 : Int32) (σ : bSto) : Option bSto := (if (σ.1 92 26) ≤ x3 then blet (bI σ 92 26 (σ.1 92 26)) (fun σ2 => some σ2) else blet (bI σ 92 26 x3) (fun σ4 => some σ4))
def f_X12_trySits_B (g : Int32 → Int32 → Int32 → Int32 → bSto → Option bSto) (x1 : Int32) (x2 : Int32) (x3 : Int32) (x4 : Int32) (σ : bSto) : Option bSto := (if (σ.1 92 25) ≤ ((x2 + (σ.1 95 4)) - x1) then (if x1 = (σ.1 95 4) then (if x2 ≤ (σ.1 92 25) then f_X12_trySits_J61 g x3 σ else blet (bI σ 92 25 x2) (fun σ6 => blet (bI σ6 92 26 x3) (fun σ8 => bbv (f_X12_copy 100 (0 : Int32) 101 (0 : Int32) (7 : Int32) σ8) (fun σ11 => f_X12_trySits_J61 g x3 σ11)))) else bl4 (f_X12_trySits_L85 g bFU x1 x2 x3 x4 (0 : Int32) σ) (fun x1_3 x2_3 x3_3 x4_3 σ4 => f_X12_trySits_J197 g x1_3 x2_3 x3_3 x4_3 σ4)) else some σ)
def f_X12_trySits : Nat → Int32 → Int32 → Int32 → Int32 → bSto → Option bSto
  | 0, _, _, _, _, _ => none
  | n + 1, x1, x2, x3, x4, σ => f_X12_trySits_B (f_X12_trySits n) x1 x2 x3 x4 σ
set_option maxHeartbeats 4000000 in
set_option maxRecDepth 20000 in
theorem e_X12_trySits_L85 {X : bX} {l : Launch} {G : bG} {ρ : Nat → Nat} {A : Nat → Prop} {d : Nat} {σ' : bSto} {g : Int32 → Int32 → Int32 → Int32 → bSto → Option bSto} (C : bCX X cX12_trySits RX12 (d + 3)) (Hh : bH X l G bSHf ρ A 6) (Rt : bRX X none none σ') (hg : ∀ (y1 : Int32) (y2 : Int32) (y3 : Int32) (y4 : Int32) (σ : bSto) (σ2 : bSto), g y1 y2 y3 y4 σ = some σ2 → bEv l G bSHf ρ A yX12_trySits cX12_trySits 6 none (d + 2) [.ref 92, .int y1, .int y2, .int y3, .int y4] σ none σ2) : ∀ (n : Nat) (x1 : Int32) (x2 : Int32) (x3 : Int32) (x4 : Int32) (x5 : Int32) (σ : bSto) (q : (Int32 × Int32 × Int32 × Int32 × bSto)), f_X12_trySits_L85 g n x1 x2 x3 x4 x5 σ = some q → (∀ (x1 : Int32) (x2 : Int32) (x3 : Int32) (x4 : Int32) (s : bSto), q = (x1, x2, x3, x4, s) → bAJ X 197 [(0, .ref 92), (1, .int x1), (2, .int x2), (3, .int x3), (4, .int x4)] [] s) → bAJ X 85 [(0, .ref 92), (1, .int x1), (2, .int x2), (3, .int x3), (4, .int x4), (5, .int x5)] [] σ := by
  intro n
  induction n with
  | zero => intro x1 x2 x3 x4 x5 σ q hF; rw [f_X12_trySits_L85] at hF; cases hF
  | succ n ih =>
    intro x1 x2 x3 x4 x5 σ q hF hx
    rw [f_X12_trySits_L85] at hF
    refine b_iload (pc := 85) C dX12_trySits_85 5 rfl ?_
    refine b_aload_n (pc := 87) C dX12_trySits_87 rfl 0 rfl ?_
    refine b_getS (pc := 88) C dX12_trySits_88 fl_X12_20 (Hh.1 _ _ sh_92) rfl ?_
    refine b_iconst (pc := 91) C dX12_trySits_91 ic_3 ?_
    refine b_ialdK (pc := 92) C dX12_trySits_92 (Hh.1 _ _ sh_95) tn_3 (by decide) ?_
    refine b_icmp_ge (tgt := 197) (pc := 93) C dX12_trySits_93 rfl (fun hc1 => ?_) (fun hc1 => ?_)
    · rw [if_pos hc1] at hF
      exact b_sub [0, 1, 2, 3, 4] rfl (hx _ _ _ _ _ (Option.some.inj hF).symm )
    · rw [if_neg hc1] at hF
      refine b_iload_n (pc := 96) C dX12_trySits_96 rfl 1 rfl ?_
      refine b_iload (pc := 97) C dX12_trySits_97 4 rfl ?_
      refine b_icmp_eq (tgt := 197) (pc := 99) C dX12_trySits_99 rfl (fun hc2 => ?_) (fun hc2 => ?_)
      · rw [if_pos hc2] at hF
        exact b_sub [0, 1, 2, 3, 4] rfl (hx _ _ _ _ _ (Option.some.inj hF).symm )
      · rw [if_neg hc2] at hF
        refine b_aload_n (pc := 102) C dX12_trySits_102 rfl 0 rfl ?_
        refine b_getS (pc := 103) C dX12_trySits_103 fl_X12_41 (Hh.1 _ _ sh_92) rfl ?_
        refine b_iload (pc := 106) C dX12_trySits_106 5 rfl ?_
        obtain ⟨hb3, hF⟩ := bif_n hF
        refine b_iald (pc := 108) C dX12_trySits_108 (Hh.1 _ _ sh_102) hb3 ?_
        refine b_if_eq (tgt := 191) (pc := 109) C dX12_trySits_109 rfl (fun hc4 => ?_) (fun hc4 => ?_)
        · rw [if_pos hc4] at hF
          obtain ⟨x5_5, e6, hF⟩ := blet_e hF
          refine b_iinc (L' := [(5, .int x5_5), (0, .ref 92), (1, .int x1), (2, .int x2), (3, .int x3), (4, .int x4)]) (pc := 191) C dX12_trySits_191 5 rfl ic_1 e6 (Hh.2.1 _ (Nat.le_of_ble_eq_true rfl)) rfl ?_
          refine b_goto (tgt := 85) (pc := 194) C dX12_trySits_194 rfl ?_
          exact b_sub [1, 2, 3, 4, 5, 0] rfl (ih x1 x2 x3 x4 x5_5 _ _ hF hx)
        · rw [if_neg hc4] at hF
          refine b_aload_n (pc := 112) C dX12_trySits_112 rfl 0 rfl ?_
          refine b_iload_n (pc := 113) C dX12_trySits_113 rfl 1 rfl ?_
          refine b_iload (pc := 114) C dX12_trySits_114 5 rfl ?_
          obtain ⟨v9, σ8, hc7, hF⟩ := bbd_e hF
          refine b_cV2i (d' := (d + 2)) (pc := 116) C dX12_trySits_116 mm_X12_327 (Hh.1 _ _ sh_92) rfl (Nat.le_of_ble_eq_true rfl) (by omega) (Hh.2.2 _ _ _ _ _ _ _ _ _ (lvl_eq (by omega) (e_X12_mayOn (d + 1) x1 x5 _ _ _ hc7))) ?_
          refine b_if_eq (tgt := 191) (pc := 119) C dX12_trySits_119 rfl (fun hc10 => ?_) (fun hc10 => ?_)
          · rw [if_pos hc10] at hF
            obtain ⟨x5_11, e12, hF⟩ := blet_e hF
            refine b_iinc (L' := [(5, .int x5_11), (0, .ref 92), (1, .int x1), (2, .int x2), (3, .int x3), (4, .int x4)]) (pc := 191) C dX12_trySits_191 5 rfl ic_1 e12 (Hh.2.1 _ (Nat.le_of_ble_eq_true rfl)) rfl ?_
            refine b_goto (tgt := 85) (pc := 194) C dX12_trySits_194 rfl ?_
            exact b_sub [1, 2, 3, 4, 5, 0] rfl (ih x1 x2 x3 x4 x5_11 _ _ hF hx)
          · rw [if_neg hc10] at hF
            refine b_aload_n (pc := 122) C dX12_trySits_122 rfl 0 rfl ?_
            refine b_iload (pc := 123) C dX12_trySits_123 5 rfl ?_
            obtain ⟨v15, σ14, hc13, hF⟩ := bbd_e hF
            refine b_cV1i (d' := (d + 2)) (pc := 125) C dX12_trySits_125 mm_X12_292 (Hh.1 _ _ sh_92) rfl (Nat.le_of_ble_eq_true rfl) (by omega) (Hh.2.2 _ _ _ _ _ _ _ _ _ (lvl_eq (by omega) (e_X12_heatOf (d + 0) x5 _ _ _ hc13))) ?_
            refine b_aload_n (pc := 128) C dX12_trySits_128 rfl 0 rfl ?_
            refine b_iload_n (pc := 129) C dX12_trySits_129 rfl 1 rfl ?_
            obtain ⟨v18, σ17, hc16, hF⟩ := bbd_e hF
            refine b_cV1i (d' := (d + 2)) (pc := 130) C dX12_trySits_130 mm_X12_305 (Hh.1 _ _ sh_92) rfl (Nat.le_of_ble_eq_true rfl) (by omega) (Hh.2.2 _ _ _ _ _ _ _ _ _ (lvl_eq (by omega) (e_X12_coldOf (d + 2) x1 _ _ _ hc16))) ?_
            refine b_icmp_ge (tgt := 139) (pc := 133) C dX12_trySits_133 rfl (fun hc19 => ?_) (fun hc19 => ?_)
            · rw [if_pos hc19] at hF
              refine b_aload_n (pc := 139) C dX12_trySits_139 rfl 0 rfl ?_
              refine b_getS (pc := 140) C dX12_trySits_140 fl_X12_41 (Hh.1 _ _ sh_92) rfl ?_
              refine b_iload (pc := 143) C dX12_trySits_143 5 rfl ?_
              refine b_dup2 (pc := 145) C dX12_trySits_145 rfl rfl ?_
              obtain ⟨hb20, hF⟩ := bif_n hF
              refine b_iald (pc := 146) C dX12_trySits_146 (Hh.1 _ _ sh_102) hb20 ?_
              refine b_iconst (pc := 147) C dX12_trySits_147 ic_1 ?_
              refine b_isub (pc := 148) C dX12_trySits_148 ?_
              obtain ⟨hb23, hF⟩ := bif_n hF
              obtain ⟨σ21, e22, hF⟩ := blet_e hF
              refine b_iast (pc := 149) C dX12_trySits_149 (Hh.1 _ _ sh_102) hb23 e22 ?_
              refine b_aload_n (pc := 150) C dX12_trySits_150 rfl 0 rfl ?_
              refine b_getS (pc := 151) C dX12_trySits_151 fl_X12_35 (Hh.1 _ _ sh_92) rfl ?_
              refine b_iload_n (pc := 154) C dX12_trySits_154 rfl 1 rfl ?_
              refine b_iload (pc := 155) C dX12_trySits_155 5 rfl ?_
              refine b_iconst (pc := 157) C dX12_trySits_157 ic_1 ?_
              refine b_iadd (pc := 158) C dX12_trySits_158 ?_
              obtain ⟨hb26, hF⟩ := bif_n hF
              obtain ⟨σ24, e25, hF⟩ := blet_e hF
              refine b_iast (pc := 159) C dX12_trySits_159 (Hh.1 _ _ sh_100) hb26 e25 ?_
              refine b_aload_n (pc := 160) C dX12_trySits_160 rfl 0 rfl ?_
              refine b_iload_n (pc := 161) C dX12_trySits_161 rfl 1 rfl ?_
              refine b_iconst (pc := 162) C dX12_trySits_162 ic_1 ?_
              refine b_iadd (pc := 163) C dX12_trySits_163 ?_
              refine b_iload_n (pc := 164) C dX12_trySits_164 rfl 2 rfl ?_
              refine b_iconst (pc := 165) C dX12_trySits_165 ic_1 ?_
              refine b_iadd (pc := 166) C dX12_trySits_166 ?_
              refine b_iload_n (pc := 167) C dX12_trySits_167 rfl 3 rfl ?_
              refine b_aload_n (pc := 168) C dX12_trySits_168 rfl 0 rfl ?_
              refine b_iload (pc := 169) C dX12_trySits_169 5 rfl ?_
              obtain ⟨v29, σ28, hc27, hF⟩ := bbd_e hF
              refine b_cV1i (d' := (d + 2)) (pc := 171) C dX12_trySits_171 mm_X12_340 (Hh.1 _ _ sh_92) rfl (Nat.le_of_ble_eq_true rfl) (by omega) (Hh.2.2 _ _ _ _ _ _ _ _ _ (lvl_eq (by omega) (e_X12_rentOf (d + 2) x5 _ _ _ hc27))) ?_
              refine b_iadd (pc := 174) C dX12_trySits_174 ?_
              refine b_iload (pc := 175) C dX12_trySits_175 4 rfl ?_
              obtain ⟨σ31, hc30, hF⟩ := bbv_e hF
              refine b_cV4v (d' := (d + 2)) (pc := 177) C dX12_trySits_177 mm_X12_349 (Hh.1 _ _ sh_92) rfl (Nat.le_of_ble_eq_true rfl) (by omega) (Hh.2.2 _ _ _ _ _ _ _ _ _ (hg _ _ _ _ _ _ hc30)) ?_
              refine b_aload_n (pc := 180) C dX12_trySits_180 rfl 0 rfl ?_
              refine b_getS (pc := 181) C dX12_trySits_181 fl_X12_41 (Hh.1 _ _ sh_92) rfl ?_
              refine b_iload (pc := 184) C dX12_trySits_184 5 rfl ?_
              refine b_dup2 (pc := 186) C dX12_trySits_186 rfl rfl ?_
              obtain ⟨hb32, hF⟩ := bif_n hF
              refine b_iald (pc := 187) C dX12_trySits_187 (Hh.1 _ _ sh_102) hb32 ?_
              refine b_iconst (pc := 188) C dX12_trySits_188 ic_1 ?_
              refine b_iadd (pc := 189) C dX12_trySits_189 ?_
              obtain ⟨hb35, hF⟩ := bif_n hF
              obtain ⟨σ33, e34, hF⟩ := blet_e hF
              refine b_iast (pc := 190) C dX12_trySits_190 (Hh.1 _ _ sh_102) hb35 e34 ?_
              obtain ⟨x5_36, e37, hF⟩ := blet_e hF
              refine b_iinc (L' := [(5, .int x5_36), (0, .ref 92), (1, .int x1), (2, .int x2), (3, .int x3), (4, .int x4)]) (pc := 191) C dX12_trySits_191 5 rfl ic_1 e37 (Hh.2.1 _ (Nat.le_of_ble_eq_true rfl)) rfl ?_
              refine b_goto (tgt := 85) (pc := 194) C dX12_trySits_194 rfl ?_
              exact b_sub [1, 2, 3, 4, 5, 0] rfl (ih x1 x2 x3 x4 x5_36 _ _ hF hx)
            · rw [if_neg hc19] at hF
              refine b_goto (tgt := 191) (pc := 136) C dX12_trySits_136 rfl ?_
              obtain ⟨x5_38, e39, hF⟩ := blet_e hF
              refine b_iinc (L' := [(5, .int x5_38), (0, .ref 92), (1, .int x1), (2, .int x2), (3, .int x3), (4, .int x4)]) (pc := 191) C dX12_trySits_191 5 rfl ic_1 e39 (Hh.2.1 _ (Nat.le_of_ble_eq_true rfl)) rfl ?_
              refine b_goto (tgt := 85) (pc := 194) C dX12_trySits_194 rfl ?_
              exact b_sub [1, 2, 3, 4, 5, 0] rfl (ih x1 x2 x3 x4 x5_38 _ _ hF hx)
set_option maxHeartbeats 4000000 in
set_option maxRecDepth 20000 in
theorem e_X12_trySits_J197 {X : bX} {l : Launch} {G : bG} {ρ : Nat → Nat} {A : Nat → Prop} {d : Nat} {σ' : bSto} {g : Int32 → Int32 → Int32 → Int32 → bSto → Option bSto} (C : bCX X cX12_trySits RX12 (d + 3)) (Hh : bH X l G bSHf ρ A 6) (Rt : bRX X none none σ') (hg : ∀ (y1 : Int32) (y2 : Int32) (y3 : Int32) (y4 : Int32) (σ : bSto) (σ2 : bSto), g y1 y2 y3 y4 σ = some σ2 → bEv l G bSHf ρ A yX12_trySits cX12_trySits 6 none (d + 2) [.ref 92, .int y1, .int y2, .int y3, .int y4] σ none σ2) (x1 : Int32) (x2 : Int32) (x3 : Int32) (x4 : Int32) (σ : bSto) (hF : f_X12_trySits_J197 g x1 x2 x3 x4 σ = some σ') : bAJ X 197 [(0, .ref 92), (1, .int x1), (2, .int x2), (3, .int x3), (4, .int x4)] [] σ := by
  rw [f_X12_trySits_J197] at hF
  refine b_aload_n (pc := 197) C dX12_trySits_197 rfl 0 rfl ?_
  refine b_getS (pc := 198) C dX12_trySits_198 fl_X12_35 (Hh.1 _ _ sh_92) rfl ?_
  refine b_iload_n (pc := 201) C dX12_trySits_201 rfl 1 rfl ?_
  refine b_iconst (pc := 202) C dX12_trySits_202 ic_0 ?_
  obtain ⟨hb3, hF⟩ := bif_n hF
  obtain ⟨σ1, e2, hF⟩ := blet_e hF
  refine b_iast (pc := 203) C dX12_trySits_203 (Hh.1 _ _ sh_100) hb3 e2 ?_
  refine b_aload_n (pc := 204) C dX12_trySits_204 rfl 0 rfl ?_
  refine b_iload_n (pc := 205) C dX12_trySits_205 rfl 1 rfl ?_
  refine b_iconst (pc := 206) C dX12_trySits_206 ic_1 ?_
  refine b_iadd (pc := 207) C dX12_trySits_207 ?_
  refine b_iload_n (pc := 208) C dX12_trySits_208 rfl 2 rfl ?_
  refine b_iload_n (pc := 209) C dX12_trySits_209 rfl 3 rfl ?_
  refine b_iload (pc := 210) C dX12_trySits_210 4 rfl ?_
  obtain ⟨σ5, hc4, hF⟩ := bbv_e hF
  refine b_cV4v (d' := (d + 2)) (pc := 212) C dX12_trySits_212 mm_X12_349 (Hh.1 _ _ sh_92) rfl (Nat.le_of_ble_eq_true rfl) (by omega) (Hh.2.2 _ _ _ _ _ _ _ _ _ (hg _ _ _ _ _ _ hc4)) ?_
  exact b_vret (pc := 215) C Rt dX12_trySits_215 hF
set_option maxHeartbeats 4000000 in
set_option maxRecDepth 20000 in
theorem e_X12_trySits_J61 {X : bX} {l : Launch} {G : bG} {ρ : Nat → Nat} {A : Nat → Prop} {d : Nat} {σ' : bSto} {g : Int32 → Int32 → Int32 → Int32 → bSto → Option bSto} (C : bCX X cX12_trySits RX12 (d + 3)) (Hh : bH X l G bSHf ρ A 6) (Rt : bRX X none none σ') (hg : ∀ (y1 : Int32) (y2 : Int32) (y3 : Int32) (y4 : Int32) (σ : bSto) (σ2 : bSto), g y1 y2 y3 y4 σ = some σ2 → bEv l G bSHf ρ A yX12_trySits cX12_trySits 6 none (d + 2) [.ref 92, .int y1, .int y2, .int y3, .int y4] σ none σ2) (x3 : Int32) (σ : bSto) (hF : f_X12_trySits_J61 g x3 σ = some σ') : bAJ X 61 [(0, .ref 92), (3, .int x3)] [] σ := by
  rw [f_X12_trySits_J61] at hF
  refine b_aload_n (pc := 61) C dX12_trySits_61 rfl 0 rfl ?_
  refine b_iload_n (pc := 62) C dX12_trySits_62 rfl 1 rfl ?_
  refine b_aload_n (pc := 63) C dX12_trySits_63 rfl 0 rfl ?_
  refine b_getI (pc := 64) C dX12_trySits_64 fl_X12_346 (Hh.1 _ _ sh_92) rfl ?_
  refine b_icmp_ge (tgt := 74) (pc := 67) C dX12_trySits_67 rfl (fun hc1 => ?_) (fun hc1 => ?_)
  · rw [if_pos hc1] at hF
    refine b_aload_n (pc := 74) C dX12_trySits_74 rfl 0 rfl ?_
    refine b_getI (pc := 75) C dX12_trySits_75 fl_X12_346 (Hh.1 _ _ sh_92) rfl ?_
    obtain ⟨σ2, e3, hF⟩ := blet_e hF
    refine b_putI (pc := 78) C dX12_trySits_78 fp_X12_346 (Hh.1 _ _ sh_92) rfl rfl rfl e3 ?_
    exact b_vret (pc := 81) C Rt dX12_trySits_81 hF
  · rw [if_neg hc1] at hF
    refine b_iload_n (pc := 70) C dX12_trySits_70 rfl 1 rfl ?_
    refine b_goto (tgt := 78) (pc := 71) C dX12_trySits_71 rfl ?_
    obtain ⟨σ4, e5, hF⟩ := blet_e hF
    refine b_putI (pc := 78) C dX12_trySits_78 fp_X12_346 (Hh.1 _ _ sh_92) rfl rfl rfl e5 ?_
    exact b_vret (pc := 81) C Rt dX12_trySits_81 hF
set_option maxHeartbeats 4000000 in
set_option maxRecDepth 20000 in
theorem e_X12_trySits_0 {X : bX} {l : Launch} {G : bG} {ρ : Nat → Nat} {A : Nat → Prop} {d : Nat} {σ' : bSto} {g : Int32 → Int32 → Int32 → Int32 → bSto → Option bSto} (C : bCX X cX12_trySits RX12 (d + 3)) (Hh : bH X l G bSHf ρ A 6) (Rt : bRX X none none σ') (hg : ∀ (y1 : Int32) (y2 : Int32) (y3 : Int32) (y4 : Int32) (σ : bSto) (σ2 : bSto), g y1 y2 y3 y4 σ = some σ2 → bEv l G bSHf ρ A yX12_trySits cX12_trySits 6 none (d + 2) [.ref 92, .int y1, .int y2, .int y3, .int y4] σ none σ2) (x1 : Int32) (x2 : Int32) (x3 : Int32) (x4 : Int32) (σ : bSto) (hF : f_X12_trySits_B g x1 x2 x3 x4 σ = some σ') : bAJ X 0 [(0, .ref 92), (1, .int x1), (2, .int x2), (3, .int x3), (4, .int x4)] [] σ := by
  rw [f_X12_trySits_B] at hF
  refine b_iload_n (pc := 0) C dX12_trySits_0 rfl 2 rfl ?_
  refine b_aload_n (pc := 1) C dX12_trySits_1 rfl 0 rfl ?_
  refine b_getS (pc := 2) C dX12_trySits_2 fl_X12_20 (Hh.1 _ _ sh_92) rfl ?_
  refine b_iconst (pc := 5) C dX12_trySits_5 ic_4 ?_
  refine b_ialdK (pc := 6) C dX12_trySits_6 (Hh.1 _ _ sh_95) tn_4 (by decide) ?_
  refine b_iadd (pc := 7) C dX12_trySits_7 ?_
  refine b_iload_n (pc := 8) C dX12_trySits_8 rfl 1 rfl ?_
  refine b_isub (pc := 9) C dX12_trySits_9 ?_
  refine b_aload_n (pc := 10) C dX12_trySits_10 rfl 0 rfl ?_
  refine b_getI (pc := 11) C dX12_trySits_11 fl_X12_343 (Hh.1 _ _ sh_92) rfl ?_
  refine b_icmp_ge (tgt := 18) (pc := 14) C dX12_trySits_14 rfl (fun hc1 => ?_) (fun hc1 => ?_)
  · rw [if_pos hc1] at hF
    refine b_iload_n (pc := 18) C dX12_trySits_18 rfl 1 rfl ?_
    refine b_aload_n (pc := 19) C dX12_trySits_19 rfl 0 rfl ?_
    refine b_getS (pc := 20) C dX12_trySits_20 fl_X12_20 (Hh.1 _ _ sh_92) rfl ?_
    refine b_iconst (pc := 23) C dX12_trySits_23 ic_4 ?_
    refine b_ialdK (pc := 24) C dX12_trySits_24 (Hh.1 _ _ sh_95) tn_4 (by decide) ?_
    refine b_icmp_ne (tgt := 82) (pc := 25) C dX12_trySits_25 rfl (fun hc2 => ?_) (fun hc2 => ?_)
    · rw [if_neg hc2] at hF
      refine b_iconst (pc := 82) C dX12_trySits_82 ic_0 ?_
      refine b_istore (L' := [(5, .int (0 : Int32)), (0, .ref 92), (1, .int x1), (2, .int x2), (3, .int x3), (4, .int x4)]) (pc := 83) C dX12_trySits_83 rfl (Hh.2.1 _ (Nat.le_of_ble_eq_true rfl)) rfl ?_
      obtain ⟨x1_3, x2_3, x3_3, x4_3, σ4, hq3, hF⟩ := bl4_e hF
      refine b_sub [1, 2, 3, 4, 5, 0] rfl (e_X12_trySits_L85 C Hh Rt hg bFU x1 x2 x3 x4 (0 : Int32) _ _ hq3 (fun _ _ _ _ _ e  => ?_))
      cases e
      exact b_sub [0, 1, 2, 3, 4] rfl (e_X12_trySits_J197 C Hh Rt hg x1_3 x2_3 x3_3 x4_3 _ hF)
    · rw [if_pos hc2] at hF
      refine b_iload_n (pc := 28) C dX12_trySits_28 rfl 2 rfl ?_
      refine b_aload_n (pc := 29) C dX12_trySits_29 rfl 0 rfl ?_
      refine b_getI (pc := 30) C dX12_trySits_30 fl_X12_343 (Hh.1 _ _ sh_92) rfl ?_
      refine b_icmp_le (tgt := 61) (pc := 33) C dX12_trySits_33 rfl (fun hc5 => ?_) (fun hc5 => ?_)
      · rw [if_pos hc5] at hF
        exact b_sub [0, 3] rfl (e_X12_trySits_J61 C Hh Rt hg x3 _ hF)
      · rw [if_neg hc5] at hF
        refine b_aload_n (pc := 36) C dX12_trySits_36 rfl 0 rfl ?_
        refine b_iload_n (pc := 37) C dX12_trySits_37 rfl 2 rfl ?_
        obtain ⟨σ6, e7, hF⟩ := blet_e hF
        refine b_putI (pc := 38) C dX12_trySits_38 fp_X12_343 (Hh.1 _ _ sh_92) rfl rfl rfl e7 ?_
        refine b_aload_n (pc := 41) C dX12_trySits_41 rfl 0 rfl ?_
        refine b_iload_n (pc := 42) C dX12_trySits_42 rfl 3 rfl ?_
        obtain ⟨σ8, e9, hF⟩ := blet_e hF
        refine b_putI (pc := 43) C dX12_trySits_43 fp_X12_346 (Hh.1 _ _ sh_92) rfl rfl rfl e9 ?_
        refine b_aload_n (pc := 46) C dX12_trySits_46 rfl 0 rfl ?_
        refine b_getS (pc := 47) C dX12_trySits_47 fl_X12_35 (Hh.1 _ _ sh_92) rfl ?_
        refine b_iconst (pc := 50) C dX12_trySits_50 ic_0 ?_
        refine b_aload_n (pc := 51) C dX12_trySits_51 rfl 0 rfl ?_
        refine b_getS (pc := 52) C dX12_trySits_52 fl_X12_38 (Hh.1 _ _ sh_92) rfl ?_
        refine b_iconst (pc := 55) C dX12_trySits_55 ic_0 ?_
        refine b_bipush (pc := 56) C dX12_trySits_56 bp_7 ?_
        obtain ⟨σ11, hc10, hF⟩ := bbv_e hF
        refine b_cS5v (d' := (d + 2)) (pc := 58) C dX12_trySits_58 mm_X12_190 (Nat.le_of_ble_eq_true rfl) (by omega) (Hh.2.2 _ _ _ _ _ _ _ _ _ (lvl_eq (by omega) (e_X12_copy (d + 2) _ (show kIA 100 from sh_100) (0 : Int32) _ (show kIA 101 from sh_101) (0 : Int32) (7 : Int32) _ _ hc10))) ?_
        exact b_sub [0, 3] rfl (e_X12_trySits_J61 C Hh Rt hg x3 _ hF)
  · rw [if_neg hc1] at hF
    exact b_vret (pc := 17) C Rt dX12_trySits_17 hF
set_option maxHeartbeats 4000000 in
set_option maxRecDepth 20000 in
theorem e_X12_trySits {l : Launch} {G : bG} {ρ : Nat → Nat} {A : Nat → Prop} : ∀ (n d : Nat) (x1 : Int32) (x2 : Int32) (x3 : Int32) (x4 : Int32) (σ : bSto) (σ' : bSto), f_X12_trySits n x1 x2 x3 x4 σ = some σ' → bEv l G bSHf ρ A yX12_trySits cX12_trySits 6 none (d + n + 2) [.ref 92, .int x1, .int x2, .int x3, .int x4] σ none σ' := by
  intro n
  induction n with
  | zero => intro d x1 x2 x3 x4 σ σ' hF; rw [f_X12_trySits] at hF; cases hF
  | succ n ih =>
    intro d x1 x2 x3 x4 σ σ' hF
    rw [f_X12_trySits] at hF
    rw [show (d + (n + 1) + 2) = (d + n) + 3 by omega]
    exact b_met (d := (d + n) + 3) (by decide +kernel) (Nat.le_of_ble_eq_true rfl) rfl (fun X C Rt h1 h2 h3 => e_X12_trySits_0 C ⟨fun o q h => by rw [h1]; exact h, fun i h => by rw [h2]; exact h, h3⟩ Rt (fun _ _ _ _ _ _ h => ih d _ _ _ _ _ _ h) _ _ _ _ _ hF)
/-! BenchColonyModel.seekSits -/
def f_X12_seekSits_J32_2 (k : Int32 → Int32 → Int32 → bSto → Option (Int32 × bSto)) (x1 : Int32) (x2 : Int32) (x3 : Int32) (s1 : Int32) (s2 : Int32) (s3 : Int32) (σ : bSto) : Option (Int32 × bSto) := if s1 < 0 ∨ 6 ≤ s1.toNatClampNeg then none else blet (bI σ 102 s1.toNatClampNeg (s2 + s3)) (fun σ1 => blet (x3 + (1 : Int32)) (fun x3_4 => k x1 x2 x3_4 σ1))
def f_X12_seekSits_L2 : Nat → Int32 → Int32 → Int32 → bSto → Option (Int32 × bSto)
  | 0, _, _, _, _ => none
  | n + 1, x1, x2, x3, σ => (if (σ.1 95 3) ≤ x3 then some (x1, σ) else bbd (f_X12_seatsOf x3 σ) (fun v4 σ3 => (if x3 = x2 then f_X12_seekSits_J32_2 (f_X12_seekSits_L2 n) x1 x2 x3 x3 v4 (1 : Int32) σ3 else f_X12_seekSits_J32_2 (f_X12_seekSits_L2 n) x1 x2 x3 x3 v4 (0 : Int32) σ3)))
def f_X12_seekSits (x1 : Int32) (x2 : Int32) (σ : bSto) : Option (Int32 × bSto) := bl1 (f_X12_seekSits_L2 bFU x1 x2 (0 : Int32) σ) (fun x1_1 σ2 => blet (bI σ2 92 25 (-1 : Int32)) (fun σ3 => blet (bI σ3 92 26 (1000000 : Int32)) (fun σ5 => bbv (f_X12_trySits 20 (0 : Int32) (0 : Int32) (0 : Int32) x1_1 σ5) (fun σ8 => some ((σ8.1 92 25), σ8)))))
set_option maxHeartbeats 4000000 in
set_option maxRecDepth 20000 in
theorem e_X12_seekSits_J32_2 {X : bX} {l : Launch} {G : bG} {ρ : Nat → Nat} {A : Nat → Prop} {d : Nat} {r : Int32} {σ' : bSto} (C : bCX X cX12_seekSits RX12 (d + 23)) (Hh : bH X l G bSHf ρ A 4) (Rt : bRX X (some .int) (some (.int r)) σ') {k : Int32 → Int32 → Int32 → bSto → Option (Int32 × bSto)} (ih : ∀ (x1 : Int32) (x2 : Int32) (x3 : Int32) (σ : bSto) (q : (Int32 × bSto)), k x1 x2 x3 σ = some q → (∀ (x1 : Int32) (s : bSto), q = (x1, s) → bAJ X 40 [(0, .ref 92), (1, .int x1)] [] s) → bAJ X 2 [(0, .ref 92), (1, .int x1), (2, .int x2), (3, .int x3)] [] σ) (x1 : Int32) (x2 : Int32) (x3 : Int32) (s1 : Int32) (s2 : Int32) (s3 : Int32) (σ : bSto) (q : (Int32 × bSto)) (hF : f_X12_seekSits_J32_2 k x1 x2 x3 s1 s2 s3 σ = some q) : (∀ (x1 : Int32) (s : bSto), q = (x1, s) → bAJ X 40 [(0, .ref 92), (1, .int x1)] [] s) → bAJ X 32 [(0, .ref 92), (1, .int x1), (2, .int x2), (3, .int x3)] [.int s3, .int s2, .int s1, .ref 102] σ := by
  intro hx
  rw [f_X12_seekSits_J32_2] at hF
  refine b_iadd (pc := 32) C dX12_seekSits_32 ?_
  obtain ⟨hb3, hF⟩ := bif_n hF
  obtain ⟨σ1, e2, hF⟩ := blet_e hF
  refine b_iast (pc := 33) C dX12_seekSits_33 (Hh.1 _ _ sh_102) hb3 e2 ?_
  obtain ⟨x3_4, e5, hF⟩ := blet_e hF
  refine b_iinc (L' := [(3, .int x3_4), (0, .ref 92), (1, .int x1), (2, .int x2)]) (pc := 34) C dX12_seekSits_34 3 rfl ic_1 e5 (Hh.2.1 _ (Nat.le_of_ble_eq_true rfl)) rfl ?_
  refine b_goto (tgt := 2) (pc := 37) C dX12_seekSits_37 rfl ?_
  exact b_sub [1, 2, 3, 0] rfl (ih x1 x2 x3_4 _ _ hF hx)
set_option maxHeartbeats 4000000 in
set_option maxRecDepth 20000 in
theorem e_X12_seekSits_L2 {X : bX} {l : Launch} {G : bG} {ρ : Nat → Nat} {A : Nat → Prop} {d : Nat} {r : Int32} {σ' : bSto} (C : bCX X cX12_seekSits RX12 (d + 23)) (Hh : bH X l G bSHf ρ A 4) (Rt : bRX X (some .int) (some (.int r)) σ') : ∀ (n : Nat) (x1 : Int32) (x2 : Int32) (x3 : Int32) (σ : bSto) (q : (Int32 × bSto)), f_X12_seekSits_L2 n x1 x2 x3 σ = some q → (∀ (x1 : Int32) (s : bSto), q = (x1, s) → bAJ X 40 [(0, .ref 92), (1, .int x1)] [] s) → bAJ X 2 [(0, .ref 92), (1, .int x1), (2, .int x2), (3, .int x3)] [] σ := by
  intro n
  induction n with
  | zero => intro x1 x2 x3 σ q hF; rw [f_X12_seekSits_L2] at hF; cases hF
  | succ n ih =>
    intro x1 x2 x3 σ q hF hx
    rw [f_X12_seekSits_L2] at hF
    refine b_iload_n (pc := 2) C dX12_seekSits_2 rfl 3 rfl ?_
    refine b_aload_n (pc := 3) C dX12_seekSits_3 rfl 0 rfl ?_
    refine b_getS (pc := 4) C dX12_seekSits_4 fl_X12_20 (Hh.1 _ _ sh_92) rfl ?_
    refine b_iconst (pc := 7) C dX12_seekSits_7 ic_3 ?_
    refine b_ialdK (pc := 8) C dX12_seekSits_8 (Hh.1 _ _ sh_95) tn_3 (by decide) ?_
    refine b_icmp_ge (tgt := 40) (pc := 9) C dX12_seekSits_9 rfl (fun hc1 => ?_) (fun hc1 => ?_)
    · rw [if_pos hc1] at hF
      exact b_sub [0, 1] rfl (hx _ _ (Option.some.inj hF).symm )
    · rw [if_neg hc1] at hF
      refine b_aload_n (pc := 12) C dX12_seekSits_12 rfl 0 rfl ?_
      refine b_getS (pc := 13) C dX12_seekSits_13 fl_X12_41 (Hh.1 _ _ sh_92) rfl ?_
      refine b_iload_n (pc := 16) C dX12_seekSits_16 rfl 3 rfl ?_
      refine b_aload_n (pc := 17) C dX12_seekSits_17 rfl 0 rfl ?_
      refine b_iload_n (pc := 18) C dX12_seekSits_18 rfl 3 rfl ?_
      obtain ⟨v4, σ3, hc2, hF⟩ := bbd_e hF
      refine b_cV1i (d' := (d + 22)) (pc := 19) C dX12_seekSits_19 mm_X12_333 (Hh.1 _ _ sh_92) rfl (Nat.le_of_ble_eq_true rfl) (by omega) (Hh.2.2 _ _ _ _ _ _ _ _ _ (lvl_eq (by omega) (e_X12_seatsOf (d + 22) x3 _ _ _ hc2))) ?_
      refine b_iload_n (pc := 22) C dX12_seekSits_22 rfl 3 rfl ?_
      refine b_iload_n (pc := 23) C dX12_seekSits_23 rfl 2 rfl ?_
      refine b_icmp_ne (tgt := 31) (pc := 24) C dX12_seekSits_24 rfl (fun hc5 => ?_) (fun hc5 => ?_)
      · rw [if_neg hc5] at hF
        refine b_iconst (pc := 31) C dX12_seekSits_31 ic_0 ?_
        exact b_sub [0, 1, 2, 3] rfl (e_X12_seekSits_J32_2 C Hh Rt ih x1 x2 x3 x3 v4 (0 : Int32) _ _ hF hx)
      · rw [if_pos hc5] at hF
        refine b_iconst (pc := 27) C dX12_seekSits_27 ic_1 ?_
        refine b_goto (tgt := 32) (pc := 28) C dX12_seekSits_28 rfl ?_
        exact b_sub [0, 1, 2, 3] rfl (e_X12_seekSits_J32_2 C Hh Rt ih x1 x2 x3 x3 v4 (1 : Int32) _ _ hF hx)
set_option maxHeartbeats 4000000 in
set_option maxRecDepth 20000 in
theorem e_X12_seekSits_0 {X : bX} {l : Launch} {G : bG} {ρ : Nat → Nat} {A : Nat → Prop} {d : Nat} {r : Int32} {σ' : bSto} (C : bCX X cX12_seekSits RX12 (d + 23)) (Hh : bH X l G bSHf ρ A 4) (Rt : bRX X (some .int) (some (.int r)) σ') (x1 : Int32) (x2 : Int32) (σ : bSto) (hF : f_X12_seekSits x1 x2 σ = some (r, σ')) : bAJ X 0 [(0, .ref 92), (1, .int x1), (2, .int x2)] [] σ := by
  rw [f_X12_seekSits] at hF
  refine b_iconst (pc := 0) C dX12_seekSits_0 ic_0 ?_
  refine b_istore_n (L' := [(3, .int (0 : Int32)), (0, .ref 92), (1, .int x1), (2, .int x2)]) (pc := 1) C dX12_seekSits_1 rfl rfl (Hh.2.1 _ (Nat.le_of_ble_eq_true rfl)) rfl ?_
  obtain ⟨x1_1, σ2, hq1, hF⟩ := bl1_e hF
  refine b_sub [1, 2, 3, 0] rfl (e_X12_seekSits_L2 C Hh Rt bFU x1 x2 (0 : Int32) _ _ hq1 (fun _ _ e  => ?_))
  cases e
  refine b_aload_n (pc := 40) C dX12_seekSits_40 rfl 0 rfl ?_
  refine b_iconst (pc := 41) C dX12_seekSits_41 ic_m1 ?_
  obtain ⟨σ3, e4, hF⟩ := blet_e hF
  refine b_putI (pc := 42) C dX12_seekSits_42 fp_X12_343 (Hh.1 _ _ sh_92) rfl rfl rfl e4 ?_
  refine b_aload_n (pc := 45) C dX12_seekSits_45 rfl 0 rfl ?_
  refine b_ldcw (pc := 46) C dX12_seekSits_46 ww_X12_353 ?_
  obtain ⟨σ5, e6, hF⟩ := blet_e hF
  refine b_putI (pc := 49) C dX12_seekSits_49 fp_X12_346 (Hh.1 _ _ sh_92) rfl rfl rfl e6 ?_
  refine b_aload_n (pc := 52) C dX12_seekSits_52 rfl 0 rfl ?_
  refine b_iconst (pc := 53) C dX12_seekSits_53 ic_0 ?_
  refine b_iconst (pc := 54) C dX12_seekSits_54 ic_0 ?_
  refine b_iconst (pc := 55) C dX12_seekSits_55 ic_0 ?_
  refine b_iload_n (pc := 56) C dX12_seekSits_56 rfl 1 rfl ?_
  obtain ⟨σ8, hc7, hF⟩ := bbv_e hF
  refine b_cV4v (d' := (d + 22)) (pc := 57) C dX12_seekSits_57 mm_X12_349 (Hh.1 _ _ sh_92) rfl (Nat.le_of_ble_eq_true rfl) (by omega) (Hh.2.2 _ _ _ _ _ _ _ _ _ (lvl_eq (by omega) (e_X12_trySits 20 (d + 0) (0 : Int32) (0 : Int32) (0 : Int32) x1_1 _ _ hc7))) ?_
  refine b_aload_n (pc := 60) C dX12_seekSits_60 rfl 0 rfl ?_
  refine b_getI (pc := 61) C dX12_seekSits_61 fl_X12_343 (Hh.1 _ _ sh_92) rfl ?_
  exact b_iret (pc := 64) C Rt dX12_seekSits_64 hF
set_option maxHeartbeats 4000000 in
set_option maxRecDepth 20000 in
theorem e_X12_seekSits {l : Launch} {G : bG} {ρ : Nat → Nat} {A : Nat → Prop} (d : Nat) (x1 : Int32) (x2 : Int32) (σ : bSto) (r : Int32) (σ' : bSto) (hF : f_X12_seekSits x1 x2 σ = some (r, σ')) : bEv l G bSHf ρ A yX12_seekSits cX12_seekSits 4 (some .int) (d + 23) [.ref 92, .int x1, .int x2] σ (some (.int r)) σ' := b_met (d := d + 23) (by decide +kernel) (Nat.le_of_ble_eq_true rfl) rfl (fun X C Rt h1 h2 h3 => e_X12_seekSits_0 C ⟨fun o q h => by rw [h1]; exact h, fun i h => by rw [h2]; exact h, h3⟩ Rt _ _ _ hF)
/-! BenchColonyModel.packed -/
def f_X12_packed  (σ : bSto) : Option (Int32 × bSto) := bbv (f_X12_good  σ) (fun σ2 => (if (σ2.1 92 14) = 0 then bbd (f_X12_no (1 : Int32) σ2) (fun v6 σ5 => some (v6, σ5)) else bbd (f_X12_seekSits (-1 : Int32) (-1 : Int32) σ2) (fun v9 σ8 => some (v9, σ8))))
set_option maxHeartbeats 4000000 in
set_option maxRecDepth 20000 in
theorem e_X12_packed_0 {X : bX} {l : Launch} {G : bG} {ρ : Nat → Nat} {A : Nat → Prop} {d : Nat} {r : Int32} {σ' : bSto} (C : bCX X cX12_packed RX12 (d + 24)) (Hh : bH X l G bSHf ρ A 1) (Rt : bRX X (some .int) (some (.int r)) σ')  (σ : bSto) (hF : f_X12_packed  σ = some (r, σ')) : bAJ X 0 [(0, .ref 92)] [] σ := by
  rw [f_X12_packed] at hF
  refine b_aload_n (pc := 0) C dX12_packed_0 rfl 0 rfl ?_
  obtain ⟨σ2, hc1, hF⟩ := bbv_e hF
  refine b_cV0v (d' := (d + 23)) (pc := 1) C dX12_packed_1 mm_X12_181 (Hh.1 _ _ sh_92) rfl (Nat.le_of_ble_eq_true rfl) (by omega) (Hh.2.2 _ _ _ _ _ _ _ _ _ (lvl_eq (by omega) (e_X12_good (d + 23)  _ _ hc1))) ?_
  refine b_aload_n (pc := 4) C dX12_packed_4 rfl 0 rfl ?_
  refine b_getI (pc := 5) C dX12_packed_5 fl_X12_194 (Hh.1 _ _ sh_92) rfl ?_
  refine b_if_eq (tgt := 20) (pc := 8) C dX12_packed_8 rfl (fun hc3 => ?_) (fun hc3 => ?_)
  · rw [if_pos hc3] at hF
    refine b_aload_n (pc := 20) C dX12_packed_20 rfl 0 rfl ?_
    refine b_iconst (pc := 21) C dX12_packed_21 ic_1 ?_
    obtain ⟨v6, σ5, hc4, hF⟩ := bbd_e hF
    refine b_cV1i (d' := (d + 23)) (pc := 22) C dX12_packed_22 mm_X12_184 (Hh.1 _ _ sh_92) rfl (Nat.le_of_ble_eq_true rfl) (by omega) (Hh.2.2 _ _ _ _ _ _ _ _ _ (lvl_eq (by omega) (e_X12_no (d + 23) (1 : Int32) _ _ _ hc4))) ?_
    exact b_iret (pc := 25) C Rt dX12_packed_25 hF
  · rw [if_neg hc3] at hF
    refine b_aload_n (pc := 11) C dX12_packed_11 rfl 0 rfl ?_
    refine b_iconst (pc := 12) C dX12_packed_12 ic_m1 ?_
    refine b_iconst (pc := 13) C dX12_packed_13 ic_m1 ?_
    obtain ⟨v9, σ8, hc7, hF⟩ := bbd_e hF
    refine b_cV2i (d' := (d + 23)) (pc := 14) C dX12_packed_14 mm_X12_354 (Hh.1 _ _ sh_92) rfl (Nat.le_of_ble_eq_true rfl) (by omega) (Hh.2.2 _ _ _ _ _ _ _ _ _ (lvl_eq (by omega) (e_X12_seekSits (d + 0) (-1 : Int32) (-1 : Int32) _ _ _ hc7))) ?_
    refine b_goto (tgt := 25) (pc := 17) C dX12_packed_17 rfl ?_
    exact b_iret (pc := 25) C Rt dX12_packed_25 hF
set_option maxHeartbeats 4000000 in
set_option maxRecDepth 20000 in
theorem e_X12_packed {l : Launch} {G : bG} {ρ : Nat → Nat} {A : Nat → Prop} (d : Nat)  (σ : bSto) (r : Int32) (σ' : bSto) (hF : f_X12_packed  σ = some (r, σ')) : bEv l G bSHf ρ A yX12_packed cX12_packed 1 (some .int) (d + 24) [.ref 92] σ (some (.int r)) σ' := b_met (d := d + 24) (by decide +kernel) (Nat.le_of_ble_eq_true rfl) rfl (fun X C Rt h1 h2 h3 => e_X12_packed_0 C ⟨fun o q h => by rw [h1]; exact h, fun i h => by rw [h2]; exact h, h3⟩ Rt  _ hF)
/-! BenchColonyModel.packedAt -/
def f_X12_packedAt (x1 : Int32) (σ : bSto) : Option (Int32 × bSto) := bbv (f_X12_good  σ) (fun σ2 => bbd (f_X12_isPerson x1 σ2) (fun v5 σ4 => (if v5 = 0 then bbd (f_X12_no (1 : Int32) σ4) (fun v15 σ14 => some (v15, σ14)) else bbd (f_X12_seekSits (-1 : Int32) (-1 : Int32) σ4) (fun v9 σ8 => if x1 < 0 ∨ 7 ≤ x1.toNatClampNeg then none else (if (σ8.1 101 x1.toNatClampNeg) = 0 then some ((-2 : Int32), σ8) else if x1 < 0 ∨ 7 ≤ x1.toNatClampNeg then none else some (((σ8.1 101 x1.toNatClampNeg) - (1 : Int32)), σ8))))))
set_option maxHeartbeats 4000000 in
set_option maxRecDepth 20000 in
theorem e_X12_packedAt_0 {X : bX} {l : Launch} {G : bG} {ρ : Nat → Nat} {A : Nat → Prop} {d : Nat} {r : Int32} {σ' : bSto} (C : bCX X cX12_packedAt RX12 (d + 24)) (Hh : bH X l G bSHf ρ A 2) (Rt : bRX X (some .int) (some (.int r)) σ') (x1 : Int32) (σ : bSto) (hF : f_X12_packedAt x1 σ = some (r, σ')) : bAJ X 0 [(0, .ref 92), (1, .int x1)] [] σ := by
  rw [f_X12_packedAt] at hF
  refine b_aload_n (pc := 0) C dX12_packedAt_0 rfl 0 rfl ?_
  obtain ⟨σ2, hc1, hF⟩ := bbv_e hF
  refine b_cV0v (d' := (d + 23)) (pc := 1) C dX12_packedAt_1 mm_X12_181 (Hh.1 _ _ sh_92) rfl (Nat.le_of_ble_eq_true rfl) (by omega) (Hh.2.2 _ _ _ _ _ _ _ _ _ (lvl_eq (by omega) (e_X12_good (d + 23)  _ _ hc1))) ?_
  refine b_aload_n (pc := 4) C dX12_packedAt_4 rfl 0 rfl ?_
  refine b_iload_n (pc := 5) C dX12_packedAt_5 rfl 1 rfl ?_
  obtain ⟨v5, σ4, hc3, hF⟩ := bbd_e hF
  refine b_cV1i (d' := (d + 23)) (pc := 6) C dX12_packedAt_6 mm_X12_318 (Hh.1 _ _ sh_92) rfl (Nat.le_of_ble_eq_true rfl) (by omega) (Hh.2.2 _ _ _ _ _ _ _ _ _ (lvl_eq (by omega) (e_X12_isPerson (d + 22) x1 _ _ _ hc3))) ?_
  refine b_if_ne (tgt := 18) (pc := 9) C dX12_packedAt_9 rfl (fun hc6 => ?_) (fun hc6 => ?_)
  · rw [if_neg hc6] at hF
    refine b_aload_n (pc := 18) C dX12_packedAt_18 rfl 0 rfl ?_
    refine b_iconst (pc := 19) C dX12_packedAt_19 ic_m1 ?_
    refine b_iconst (pc := 20) C dX12_packedAt_20 ic_m1 ?_
    obtain ⟨v9, σ8, hc7, hF⟩ := bbd_e hF
    refine b_cV2i (d' := (d + 23)) (pc := 21) C dX12_packedAt_21 mm_X12_354 (Hh.1 _ _ sh_92) rfl (Nat.le_of_ble_eq_true rfl) (by omega) (Hh.2.2 _ _ _ _ _ _ _ _ _ (lvl_eq (by omega) (e_X12_seekSits (d + 0) (-1 : Int32) (-1 : Int32) _ _ _ hc7))) ?_
    refine b_pop (pc := 24) C dX12_packedAt_24 rfl ?_
    refine b_aload_n (pc := 25) C dX12_packedAt_25 rfl 0 rfl ?_
    refine b_getS (pc := 26) C dX12_packedAt_26 fl_X12_38 (Hh.1 _ _ sh_92) rfl ?_
    refine b_iload_n (pc := 29) C dX12_packedAt_29 rfl 1 rfl ?_
    obtain ⟨hb10, hF⟩ := bif_n hF
    refine b_iald (pc := 30) C dX12_packedAt_30 (Hh.1 _ _ sh_101) hb10 ?_
    refine b_if_ne (tgt := 39) (pc := 31) C dX12_packedAt_31 rfl (fun hc11 => ?_) (fun hc11 => ?_)
    · rw [if_neg hc11] at hF
      refine b_aload_n (pc := 39) C dX12_packedAt_39 rfl 0 rfl ?_
      refine b_getS (pc := 40) C dX12_packedAt_40 fl_X12_38 (Hh.1 _ _ sh_92) rfl ?_
      refine b_iload_n (pc := 43) C dX12_packedAt_43 rfl 1 rfl ?_
      obtain ⟨hb12, hF⟩ := bif_n hF
      refine b_iald (pc := 44) C dX12_packedAt_44 (Hh.1 _ _ sh_101) hb12 ?_
      refine b_iconst (pc := 45) C dX12_packedAt_45 ic_1 ?_
      refine b_isub (pc := 46) C dX12_packedAt_46 ?_
      exact b_iret (pc := 47) C Rt dX12_packedAt_47 hF
    · rw [if_pos hc11] at hF
      refine b_bipush (pc := 34) C dX12_packedAt_34 bp_m2 ?_
      refine b_goto (tgt := 47) (pc := 36) C dX12_packedAt_36 rfl ?_
      exact b_iret (pc := 47) C Rt dX12_packedAt_47 hF
  · rw [if_pos hc6] at hF
    refine b_aload_n (pc := 12) C dX12_packedAt_12 rfl 0 rfl ?_
    refine b_iconst (pc := 13) C dX12_packedAt_13 ic_1 ?_
    obtain ⟨v15, σ14, hc13, hF⟩ := bbd_e hF
    refine b_cV1i (d' := (d + 23)) (pc := 14) C dX12_packedAt_14 mm_X12_184 (Hh.1 _ _ sh_92) rfl (Nat.le_of_ble_eq_true rfl) (by omega) (Hh.2.2 _ _ _ _ _ _ _ _ _ (lvl_eq (by omega) (e_X12_no (d + 23) (1 : Int32) _ _ _ hc13))) ?_
    exact b_iret (pc := 17) C Rt dX12_packedAt_17 hF
set_option maxHeartbeats 4000000 in
set_option maxRecDepth 20000 in
theorem e_X12_packedAt {l : Launch} {G : bG} {ρ : Nat → Nat} {A : Nat → Prop} (d : Nat) (x1 : Int32) (σ : bSto) (r : Int32) (σ' : bSto) (hF : f_X12_packedAt x1 σ = some (r, σ')) : bEv l G bSHf ρ A yX12_packedAt cX12_packedAt 2 (some .int) (d + 24) [.ref 92, .int x1] σ (some (.int r)) σ' := b_met (d := d + 24) (by decide +kernel) (Nat.le_of_ble_eq_true rfl) rfl (fun X C Rt h1 h2 h3 => e_X12_packedAt_0 C ⟨fun o q h => by rw [h1]; exact h, fun i h => by rw [h2]; exact h, h3⟩ Rt _ _ hF)
/-! BenchColonyModel.cheapest -/
def f_X12_cheapest  (σ : bSto) : Option (Int32 × bSto) := bbv (f_X12_good  σ) (fun σ2 => (if (σ2.1 92 14) = 0 then bbd (f_X12_no (1 : Int32) σ2) (fun v9 σ8 => some (v9, σ8)) else bbd (f_X12_seekSits (-1 : Int32) (-1 : Int32) σ2) (fun v6 σ5 => some ((σ5.1 92 26), σ5))))
set_option maxHeartbeats 4000000 in
set_option maxRecDepth 20000 in
theorem e_X12_cheapest_0 {X : bX} {l : Launch} {G : bG} {ρ : Nat → Nat} {A : Nat → Prop} {d : Nat} {r : Int32} {σ' : bSto} (C : bCX X cX12_cheapest RX12 (d + 24)) (Hh : bH X l G bSHf ρ A 1) (Rt : bRX X (some .int) (some (.int r)) σ')  (σ : bSto) (hF : f_X12_cheapest  σ = some (r, σ')) : bAJ X 0 [(0, .ref 92)] [] σ := by
  rw [f_X12_cheapest] at hF
  refine b_aload_n (pc := 0) C dX12_cheapest_0 rfl 0 rfl ?_
  obtain ⟨σ2, hc1, hF⟩ := bbv_e hF
  refine b_cV0v (d' := (d + 23)) (pc := 1) C dX12_cheapest_1 mm_X12_181 (Hh.1 _ _ sh_92) rfl (Nat.le_of_ble_eq_true rfl) (by omega) (Hh.2.2 _ _ _ _ _ _ _ _ _ (lvl_eq (by omega) (e_X12_good (d + 23)  _ _ hc1))) ?_
  refine b_aload_n (pc := 4) C dX12_cheapest_4 rfl 0 rfl ?_
  refine b_getI (pc := 5) C dX12_cheapest_5 fl_X12_194 (Hh.1 _ _ sh_92) rfl ?_
  refine b_if_ne (tgt := 17) (pc := 8) C dX12_cheapest_8 rfl (fun hc3 => ?_) (fun hc3 => ?_)
  · rw [if_neg hc3] at hF
    refine b_aload_n (pc := 17) C dX12_cheapest_17 rfl 0 rfl ?_
    refine b_iconst (pc := 18) C dX12_cheapest_18 ic_m1 ?_
    refine b_iconst (pc := 19) C dX12_cheapest_19 ic_m1 ?_
    obtain ⟨v6, σ5, hc4, hF⟩ := bbd_e hF
    refine b_cV2i (d' := (d + 23)) (pc := 20) C dX12_cheapest_20 mm_X12_354 (Hh.1 _ _ sh_92) rfl (Nat.le_of_ble_eq_true rfl) (by omega) (Hh.2.2 _ _ _ _ _ _ _ _ _ (lvl_eq (by omega) (e_X12_seekSits (d + 0) (-1 : Int32) (-1 : Int32) _ _ _ hc4))) ?_
    refine b_pop (pc := 23) C dX12_cheapest_23 rfl ?_
    refine b_aload_n (pc := 24) C dX12_cheapest_24 rfl 0 rfl ?_
    refine b_getI (pc := 25) C dX12_cheapest_25 fl_X12_346 (Hh.1 _ _ sh_92) rfl ?_
    exact b_iret (pc := 28) C Rt dX12_cheapest_28 hF
  · rw [if_pos hc3] at hF
    refine b_aload_n (pc := 11) C dX12_cheapest_11 rfl 0 rfl ?_
    refine b_iconst (pc := 12) C dX12_cheapest_12 ic_1 ?_
    obtain ⟨v9, σ8, hc7, hF⟩ := bbd_e hF
    refine b_cV1i (d' := (d + 23)) (pc := 13) C dX12_cheapest_13 mm_X12_184 (Hh.1 _ _ sh_92) rfl (Nat.le_of_ble_eq_true rfl) (by omega) (Hh.2.2 _ _ _ _ _ _ _ _ _ (lvl_eq (by omega) (e_X12_no (d + 23) (1 : Int32) _ _ _ hc7))) ?_
    exact b_iret (pc := 16) C Rt dX12_cheapest_16 hF
set_option maxHeartbeats 4000000 in
set_option maxRecDepth 20000 in
theorem e_X12_cheapest {l : Launch} {G : bG} {ρ : Nat → Nat} {A : Nat → Prop} (d : Nat)  (σ : bSto) (r : Int32) (σ' : bSto) (hF : f_X12_cheapest  σ = some (r, σ')) : bEv l G bSHf ρ A yX12_cheapest cX12_cheapest 1 (some .int) (d + 24) [.ref 92] σ (some (.int r)) σ' := b_met (d := d + 24) (by decide +kernel) (Nat.le_of_ble_eq_true rfl) rfl (fun X C Rt h1 h2 h3 => e_X12_cheapest_0 C ⟨fun o q h => by rw [h1]; exact h, fun i h => by rw [h2]; exact h, h3⟩ Rt  _ hF)
/-! BenchColonyModel.packedWithout -/
def f_X12_packedWithout (x1 : Int32) (σ : bSto) : Option (Int32 × bSto) := bbv (f_X12_good  σ) (fun σ2 => bbd (f_X12_isPerson x1 σ2) (fun v5 σ4 => (if v5 = 0 then bbd (f_X12_no (1 : Int32) σ4) (fun v9 σ8 => some (v9, σ8)) else bbd (f_X12_seekSits x1 (-1 : Int32) σ4) (fun v12 σ11 => some (v12, σ11)))))
set_option maxHeartbeats 4000000 in
set_option maxRecDepth 20000 in
theorem e_X12_packedWithout_0 {X : bX} {l : Launch} {G : bG} {ρ : Nat → Nat} {A : Nat → Prop} {d : Nat} {r : Int32} {σ' : bSto} (C : bCX X cX12_packedWithout RX12 (d + 24)) (Hh : bH X l G bSHf ρ A 2) (Rt : bRX X (some .int) (some (.int r)) σ') (x1 : Int32) (σ : bSto) (hF : f_X12_packedWithout x1 σ = some (r, σ')) : bAJ X 0 [(0, .ref 92), (1, .int x1)] [] σ := by
  rw [f_X12_packedWithout] at hF
  refine b_aload_n (pc := 0) C dX12_packedWithout_0 rfl 0 rfl ?_
  obtain ⟨σ2, hc1, hF⟩ := bbv_e hF
  refine b_cV0v (d' := (d + 23)) (pc := 1) C dX12_packedWithout_1 mm_X12_181 (Hh.1 _ _ sh_92) rfl (Nat.le_of_ble_eq_true rfl) (by omega) (Hh.2.2 _ _ _ _ _ _ _ _ _ (lvl_eq (by omega) (e_X12_good (d + 23)  _ _ hc1))) ?_
  refine b_aload_n (pc := 4) C dX12_packedWithout_4 rfl 0 rfl ?_
  refine b_iload_n (pc := 5) C dX12_packedWithout_5 rfl 1 rfl ?_
  obtain ⟨v5, σ4, hc3, hF⟩ := bbd_e hF
  refine b_cV1i (d' := (d + 23)) (pc := 6) C dX12_packedWithout_6 mm_X12_318 (Hh.1 _ _ sh_92) rfl (Nat.le_of_ble_eq_true rfl) (by omega) (Hh.2.2 _ _ _ _ _ _ _ _ _ (lvl_eq (by omega) (e_X12_isPerson (d + 22) x1 _ _ _ hc3))) ?_
  refine b_if_eq (tgt := 21) (pc := 9) C dX12_packedWithout_9 rfl (fun hc6 => ?_) (fun hc6 => ?_)
  · rw [if_pos hc6] at hF
    refine b_aload_n (pc := 21) C dX12_packedWithout_21 rfl 0 rfl ?_
    refine b_iconst (pc := 22) C dX12_packedWithout_22 ic_1 ?_
    obtain ⟨v9, σ8, hc7, hF⟩ := bbd_e hF
    refine b_cV1i (d' := (d + 23)) (pc := 23) C dX12_packedWithout_23 mm_X12_184 (Hh.1 _ _ sh_92) rfl (Nat.le_of_ble_eq_true rfl) (by omega) (Hh.2.2 _ _ _ _ _ _ _ _ _ (lvl_eq (by omega) (e_X12_no (d + 23) (1 : Int32) _ _ _ hc7))) ?_
    exact b_iret (pc := 26) C Rt dX12_packedWithout_26 hF
  · rw [if_neg hc6] at hF
    refine b_aload_n (pc := 12) C dX12_packedWithout_12 rfl 0 rfl ?_
    refine b_iload_n (pc := 13) C dX12_packedWithout_13 rfl 1 rfl ?_
    refine b_iconst (pc := 14) C dX12_packedWithout_14 ic_m1 ?_
    obtain ⟨v12, σ11, hc10, hF⟩ := bbd_e hF
    refine b_cV2i (d' := (d + 23)) (pc := 15) C dX12_packedWithout_15 mm_X12_354 (Hh.1 _ _ sh_92) rfl (Nat.le_of_ble_eq_true rfl) (by omega) (Hh.2.2 _ _ _ _ _ _ _ _ _ (lvl_eq (by omega) (e_X12_seekSits (d + 0) x1 (-1 : Int32) _ _ _ hc10))) ?_
    refine b_goto (tgt := 26) (pc := 18) C dX12_packedWithout_18 rfl ?_
    exact b_iret (pc := 26) C Rt dX12_packedWithout_26 hF
set_option maxHeartbeats 4000000 in
set_option maxRecDepth 20000 in
theorem e_X12_packedWithout {l : Launch} {G : bG} {ρ : Nat → Nat} {A : Nat → Prop} (d : Nat) (x1 : Int32) (σ : bSto) (r : Int32) (σ' : bSto) (hF : f_X12_packedWithout x1 σ = some (r, σ')) : bEv l G bSHf ρ A yX12_packedWithout cX12_packedWithout 2 (some .int) (d + 24) [.ref 92, .int x1] σ (some (.int r)) σ' := b_met (d := d + 24) (by decide +kernel) (Nat.le_of_ble_eq_true rfl) rfl (fun X C Rt h1 h2 h3 => e_X12_packedWithout_0 C ⟨fun o q h => by rw [h1]; exact h, fun i h => by rw [h2]; exact h, h3⟩ Rt _ _ hF)
/-! BenchColonyModel.bestSeat -/
def f_X12_bestSeat_L29 : Nat → Int32 → Int32 → Int32 → bSto → Option (Int32 × bSto)
  | 0, _, _, _, _ => none
  | n + 1, x1, x2, x3, σ => (if (σ.1 95 3) ≤ x3 then some (x2, σ) else bbd (f_X12_seekSits (-1 : Int32) x3 σ) (fun v4 σ3 => (if x1 < v4 then blet (x3 + (1 : Int32)) (fun x3_6 => f_X12_bestSeat_L29 n v4 x3 x3_6 σ3) else blet (x3 + (1 : Int32)) (fun x3_8 => f_X12_bestSeat_L29 n x1 x2 x3_8 σ3))))
def f_X12_bestSeat  (σ : bSto) : Option (Int32 × bSto) := bbv (f_X12_good  σ) (fun σ2 => (if (σ2.1 92 14) = 0 then bbd (f_X12_no (1 : Int32) σ2) (fun v11 σ10 => some (v11, σ10)) else bbd (f_X12_seekSits (-1 : Int32) (-1 : Int32) σ2) (fun v6 σ5 => bl1 (f_X12_bestSeat_L29 bFU v6 (-2 : Int32) (0 : Int32) σ5) (fun x2_7 σ8 => some (x2_7, σ8)))))
set_option maxHeartbeats 4000000 in
set_option maxRecDepth 20000 in
theorem e_X12_bestSeat_L29 {X : bX} {l : Launch} {G : bG} {ρ : Nat → Nat} {A : Nat → Prop} {d : Nat} {r : Int32} {σ' : bSto} (C : bCX X cX12_bestSeat RX12 (d + 24)) (Hh : bH X l G bSHf ρ A 5) (Rt : bRX X (some .int) (some (.int r)) σ') : ∀ (n : Nat) (x1 : Int32) (x2 : Int32) (x3 : Int32) (σ : bSto) (q : (Int32 × bSto)), f_X12_bestSeat_L29 n x1 x2 x3 σ = some q → (∀ (x2 : Int32) (s : bSto), q = (x2, s) → bAJ X 67 [(2, .int x2)] [] s) → bAJ X 29 [(0, .ref 92), (1, .int x1), (2, .int x2), (3, .int x3)] [] σ := by
  intro n
  induction n with
  | zero => intro x1 x2 x3 σ q hF; rw [f_X12_bestSeat_L29] at hF; cases hF
  | succ n ih =>
    intro x1 x2 x3 σ q hF hx
    rw [f_X12_bestSeat_L29] at hF
    refine b_iload_n (pc := 29) C dX12_bestSeat_29 rfl 3 rfl ?_
    refine b_aload_n (pc := 30) C dX12_bestSeat_30 rfl 0 rfl ?_
    refine b_getS (pc := 31) C dX12_bestSeat_31 fl_X12_20 (Hh.1 _ _ sh_92) rfl ?_
    refine b_iconst (pc := 34) C dX12_bestSeat_34 ic_3 ?_
    refine b_ialdK (pc := 35) C dX12_bestSeat_35 (Hh.1 _ _ sh_95) tn_3 (by decide) ?_
    refine b_icmp_ge (tgt := 67) (pc := 36) C dX12_bestSeat_36 rfl (fun hc1 => ?_) (fun hc1 => ?_)
    · rw [if_pos hc1] at hF
      exact b_sub [2] rfl (hx _ _ (Option.some.inj hF).symm )
    · rw [if_neg hc1] at hF
      refine b_aload_n (pc := 39) C dX12_bestSeat_39 rfl 0 rfl ?_
      refine b_iconst (pc := 40) C dX12_bestSeat_40 ic_m1 ?_
      refine b_iload_n (pc := 41) C dX12_bestSeat_41 rfl 3 rfl ?_
      obtain ⟨v4, σ3, hc2, hF⟩ := bbd_e hF
      refine b_cV2i (d' := (d + 23)) (pc := 42) C dX12_bestSeat_42 mm_X12_354 (Hh.1 _ _ sh_92) rfl (Nat.le_of_ble_eq_true rfl) (by omega) (Hh.2.2 _ _ _ _ _ _ _ _ _ (lvl_eq (by omega) (e_X12_seekSits (d + 0) (-1 : Int32) x3 _ _ _ hc2))) ?_
      refine b_istore (L' := [(4, .int v4), (0, .ref 92), (1, .int x1), (2, .int x2), (3, .int x3)]) (pc := 45) C dX12_bestSeat_45 rfl (Hh.2.1 _ (Nat.le_of_ble_eq_true rfl)) rfl ?_
      refine b_iload (pc := 47) C dX12_bestSeat_47 0 rfl ?_
      refine b_iload_n (pc := 49) C dX12_bestSeat_49 rfl 2 rfl ?_
      refine b_icmp_gt (tgt := 56) (pc := 50) C dX12_bestSeat_50 rfl (fun hc5 => ?_) (fun hc5 => ?_)
      · rw [if_pos hc5] at hF
        refine b_iload_n (pc := 56) C dX12_bestSeat_56 rfl 4 rfl ?_
        refine b_istore_n (L' := [(2, .int x3), (4, .int v4), (0, .ref 92), (1, .int x1), (3, .int x3)]) (pc := 57) C dX12_bestSeat_57 rfl rfl (Hh.2.1 _ (Nat.le_of_ble_eq_true rfl)) rfl ?_
        refine b_iload (pc := 58) C dX12_bestSeat_58 1 rfl ?_
        refine b_istore_n (L' := [(1, .int v4), (2, .int x3), (4, .int v4), (0, .ref 92), (3, .int x3)]) (pc := 60) C dX12_bestSeat_60 rfl rfl (Hh.2.1 _ (Nat.le_of_ble_eq_true rfl)) rfl ?_
        obtain ⟨x3_6, e7, hF⟩ := blet_e hF
        refine b_iinc (L' := [(3, .int x3_6), (1, .int v4), (2, .int x3), (4, .int v4), (0, .ref 92)]) (pc := 61) C dX12_bestSeat_61 4 rfl ic_1 e7 (Hh.2.1 _ (Nat.le_of_ble_eq_true rfl)) rfl ?_
        refine b_goto (tgt := 29) (pc := 64) C dX12_bestSeat_64 rfl ?_
        exact b_sub [4, 1, 2, 0] rfl (ih v4 x3 x3_6 _ _ hF hx)
      · rw [if_neg hc5] at hF
        refine b_goto (tgt := 61) (pc := 53) C dX12_bestSeat_53 rfl ?_
        obtain ⟨x3_8, e9, hF⟩ := blet_e hF
        refine b_iinc (L' := [(3, .int x3_8), (4, .int v4), (0, .ref 92), (1, .int x1), (2, .int x2)]) (pc := 61) C dX12_bestSeat_61 4 rfl ic_1 e9 (Hh.2.1 _ (Nat.le_of_ble_eq_true rfl)) rfl ?_
        refine b_goto (tgt := 29) (pc := 64) C dX12_bestSeat_64 rfl ?_
        exact b_sub [2, 3, 4, 0] rfl (ih x1 x2 x3_8 _ _ hF hx)
set_option maxHeartbeats 4000000 in
set_option maxRecDepth 20000 in
theorem e_X12_bestSeat_0 {X : bX} {l : Launch} {G : bG} {ρ : Nat → Nat} {A : Nat → Prop} {d : Nat} {r : Int32} {σ' : bSto} (C : bCX X cX12_bestSeat RX12 (d + 24)) (Hh : bH X l G bSHf ρ A 5) (Rt : bRX X (some .int) (some (.int r)) σ')  (σ : bSto) (hF : f_X12_bestSeat  σ = some (r, σ')) : bAJ X 0 [(0, .ref 92)] [] σ := by
  rw [f_X12_bestSeat] at hF
  refine b_aload_n (pc := 0) C dX12_bestSeat_0 rfl 0 rfl ?_
  obtain ⟨σ2, hc1, hF⟩ := bbv_e hF
  refine b_cV0v (d' := (d + 23)) (pc := 1) C dX12_bestSeat_1 mm_X12_181 (Hh.1 _ _ sh_92) rfl (Nat.le_of_ble_eq_true rfl) (by omega) (Hh.2.2 _ _ _ _ _ _ _ _ _ (lvl_eq (by omega) (e_X12_good (d + 23)  _ _ hc1))) ?_
  refine b_aload_n (pc := 4) C dX12_bestSeat_4 rfl 0 rfl ?_
  refine b_getI (pc := 5) C dX12_bestSeat_5 fl_X12_194 (Hh.1 _ _ sh_92) rfl ?_
  refine b_if_ne (tgt := 17) (pc := 8) C dX12_bestSeat_8 rfl (fun hc3 => ?_) (fun hc3 => ?_)
  · rw [if_neg hc3] at hF
    refine b_aload_n (pc := 17) C dX12_bestSeat_17 rfl 0 rfl ?_
    refine b_iconst (pc := 18) C dX12_bestSeat_18 ic_m1 ?_
    refine b_iconst (pc := 19) C dX12_bestSeat_19 ic_m1 ?_
    obtain ⟨v6, σ5, hc4, hF⟩ := bbd_e hF
    refine b_cV2i (d' := (d + 23)) (pc := 20) C dX12_bestSeat_20 mm_X12_354 (Hh.1 _ _ sh_92) rfl (Nat.le_of_ble_eq_true rfl) (by omega) (Hh.2.2 _ _ _ _ _ _ _ _ _ (lvl_eq (by omega) (e_X12_seekSits (d + 0) (-1 : Int32) (-1 : Int32) _ _ _ hc4))) ?_
    refine b_istore_n (L' := [(1, .int v6), (0, .ref 92)]) (pc := 23) C dX12_bestSeat_23 rfl rfl (Hh.2.1 _ (Nat.le_of_ble_eq_true rfl)) rfl ?_
    refine b_bipush (pc := 24) C dX12_bestSeat_24 bp_m2 ?_
    refine b_istore_n (L' := [(2, .int (-2 : Int32)), (1, .int v6), (0, .ref 92)]) (pc := 26) C dX12_bestSeat_26 rfl rfl (Hh.2.1 _ (Nat.le_of_ble_eq_true rfl)) rfl ?_
    refine b_iconst (pc := 27) C dX12_bestSeat_27 ic_0 ?_
    refine b_istore_n (L' := [(3, .int (0 : Int32)), (2, .int (-2 : Int32)), (1, .int v6), (0, .ref 92)]) (pc := 28) C dX12_bestSeat_28 rfl rfl (Hh.2.1 _ (Nat.le_of_ble_eq_true rfl)) rfl ?_
    obtain ⟨x2_7, σ8, hq7, hF⟩ := bl1_e hF
    refine b_sub [3, 2, 1, 0] rfl (e_X12_bestSeat_L29 C Hh Rt bFU v6 (-2 : Int32) (0 : Int32) _ _ hq7 (fun _ _ e  => ?_))
    cases e
    refine b_iload_n (pc := 67) C dX12_bestSeat_67 rfl 0 rfl ?_
    exact b_iret (pc := 68) C Rt dX12_bestSeat_68 hF
  · rw [if_pos hc3] at hF
    refine b_aload_n (pc := 11) C dX12_bestSeat_11 rfl 0 rfl ?_
    refine b_iconst (pc := 12) C dX12_bestSeat_12 ic_1 ?_
    obtain ⟨v11, σ10, hc9, hF⟩ := bbd_e hF
    refine b_cV1i (d' := (d + 23)) (pc := 13) C dX12_bestSeat_13 mm_X12_184 (Hh.1 _ _ sh_92) rfl (Nat.le_of_ble_eq_true rfl) (by omega) (Hh.2.2 _ _ _ _ _ _ _ _ _ (lvl_eq (by omega) (e_X12_no (d + 23) (1 : Int32) _ _ _ hc9))) ?_
    exact b_iret (pc := 16) C Rt dX12_bestSeat_16 hF
set_option maxHeartbeats 4000000 in
set_option maxRecDepth 20000 in
theorem e_X12_bestSeat {l : Launch} {G : bG} {ρ : Nat → Nat} {A : Nat → Prop} (d : Nat)  (σ : bSto) (r : Int32) (σ' : bSto) (hF : f_X12_bestSeat  σ = some (r, σ')) : bEv l G bSHf ρ A yX12_bestSeat cX12_bestSeat 5 (some .int) (d + 24) [.ref 92] σ (some (.int r)) σ' := b_met (d := d + 24) (by decide +kernel) (Nat.le_of_ble_eq_true rfl) rfl (fun X C Rt h1 h2 h3 => e_X12_bestSeat_0 C ⟨fun o q h => by rw [h1]; exact h, fun i h => by rw [h2]; exact h, h3⟩ Rt  _ hF)
/-! BenchColonyModel.weightOf -/
def f_X12_weightOf (x1 : Int32) (σ : bSto) : Option (Int32 × bSto) := bbd (f_X12_heatOf x1 σ) (fun v3 σ2 => bbd (f_X12_onBench 97 x1 σ2) (fun v6 σ5 => bbd (f_X12_ones v6 σ5) (fun v9 σ8 => some ((v3 * v9), σ8))))
set_option maxHeartbeats 4000000 in
set_option maxRecDepth 20000 in
theorem e_X12_weightOf_0 {X : bX} {l : Launch} {G : bG} {ρ : Nat → Nat} {A : Nat → Prop} {d : Nat} {r : Int32} {σ' : bSto} (C : bCX X cX12_weightOf RX12 (d + 3)) (Hh : bH X l G bSHf ρ A 2) (Rt : bRX X (some .int) (some (.int r)) σ') (x1 : Int32) (σ : bSto) (hF : f_X12_weightOf x1 σ = some (r, σ')) : bAJ X 0 [(0, .ref 92), (1, .int x1)] [] σ := by
  rw [f_X12_weightOf] at hF
  refine b_aload_n (pc := 0) C dX12_weightOf_0 rfl 0 rfl ?_
  refine b_iload_n (pc := 1) C dX12_weightOf_1 rfl 1 rfl ?_
  obtain ⟨v3, σ2, hc1, hF⟩ := bbd_e hF
  refine b_cV1i (d' := (d + 2)) (pc := 2) C dX12_weightOf_2 mm_X12_292 (Hh.1 _ _ sh_92) rfl (Nat.le_of_ble_eq_true rfl) (by omega) (Hh.2.2 _ _ _ _ _ _ _ _ _ (lvl_eq (by omega) (e_X12_heatOf (d + 0) x1 _ _ _ hc1))) ?_
  refine b_aload_n (pc := 5) C dX12_weightOf_5 rfl 0 rfl ?_
  refine b_aload_n (pc := 6) C dX12_weightOf_6 rfl 0 rfl ?_
  refine b_getS (pc := 7) C dX12_weightOf_7 fl_X12_26 (Hh.1 _ _ sh_92) rfl ?_
  refine b_iload_n (pc := 10) C dX12_weightOf_10 rfl 1 rfl ?_
  obtain ⟨v6, σ5, hc4, hF⟩ := bbd_e hF
  refine b_cV2i (d' := (d + 2)) (pc := 11) C dX12_weightOf_11 mm_X12_295 (Hh.1 _ _ sh_92) rfl (Nat.le_of_ble_eq_true rfl) (by omega) (Hh.2.2 _ _ _ _ _ _ _ _ _ (lvl_eq (by omega) (e_X12_onBench (d + 2) _ (show kIA 97 from sh_97) x1 _ _ _ hc4))) ?_
  obtain ⟨v9, σ8, hc7, hF⟩ := bbd_e hF
  refine b_cS1i (d' := (d + 2)) (pc := 14) C dX12_weightOf_14 mm_X12_299 (Nat.le_of_ble_eq_true rfl) (by omega) (Hh.2.2 _ _ _ _ _ _ _ _ _ (lvl_eq (by omega) (e_X12_ones (d + 2) v6 _ _ _ hc7))) ?_
  refine b_imul (pc := 17) C dX12_weightOf_17 ?_
  exact b_iret (pc := 18) C Rt dX12_weightOf_18 hF
set_option maxHeartbeats 4000000 in
set_option maxRecDepth 20000 in
theorem e_X12_weightOf {l : Launch} {G : bG} {ρ : Nat → Nat} {A : Nat → Prop} (d : Nat) (x1 : Int32) (σ : bSto) (r : Int32) (σ' : bSto) (hF : f_X12_weightOf x1 σ = some (r, σ')) : bEv l G bSHf ρ A yX12_weightOf cX12_weightOf 2 (some .int) (d + 3) [.ref 92, .int x1] σ (some (.int r)) σ' := b_met (d := d + 3) (by decide +kernel) (Nat.le_of_ble_eq_true rfl) rfl (fun X C Rt h1 h2 h3 => e_X12_weightOf_0 C ⟨fun o q h => by rw [h1]; exact h, fun i h => by rw [h2]; exact h, h3⟩ Rt _ _ hF)
/-! BenchColonyModel.coal -/
def f_X12_coal_L40 : Nat → Int32 → Int32 → Int32 → Int32 → bSto → Option (Int32 × Int32 × Int32 × bSto)
  | 0, _, _, _, _, _ => none
  | n + 1, x1, x2, x3, x4, σ => (if (σ.1 95 3) ≤ x4 then some (x1, x2, x3, σ) else bbd (f_X12_weightOf x4 σ) (fun v4 σ3 => blet (x3 + v4) (fun x3_5 => blet (x4 + (1 : Int32)) (fun x4_7 => f_X12_coal_L40 n x1 x2 x3_5 x4_7 σ3))))
def f_X12_coal_L78 : Nat → Int32 → Int32 → Int32 → Int32 → Int32 → bSto → Option (Int32 × Int32 × Int32 × Int32 × bSto)
  | 0, _, _, _, _, _, _ => none
  | n + 1, x1, x2, x3, x4, x5, σ => (if (σ.1 95 3) ≤ x5 then some (x1, x2, x3, x4, σ) else bbd (f_X12_weightOf x5 σ) (fun v4 σ3 => if x3 = 0 then none else if x5 < 0 ∨ 6 ≤ x5.toNatClampNeg then none else blet (bI σ3 103 x5.toNatClampNeg ((x2 * v4) / x3)) (fun σ6 => if x5 < 0 ∨ 6 ≤ x5.toNatClampNeg then none else blet (x4 - (σ6.1 103 x5.toNatClampNeg)) (fun x4_10 => blet (x5 + (1 : Int32)) (fun x5_12 => f_X12_coal_L78 n x1 x2 x3 x4_10 x5_12 σ6)))))
def f_X12_coal_J187_138 (k : Int32 → Int32 → Int32 → Int32 → Int32 → Int32 → Int32 → bSto → Option (Int32 × Int32 × Int32 × Int32 × Int32 × Int32 × bSto)) (x1 : Int32) (x2 : Int32) (x3 : Int32) (x4 : Int32) (x5 : Int32) (x7 : Int32) (σ : bSto) : Option (Int32 × Int32 × Int32 × Int32 × Int32 × Int32 × bSto) := blet (x7 + (1 : Int32)) (fun x7_1 => k x1 x2 x3 x4 x5 x7 x7_1 σ)
def f_X12_coal_L138 : Nat → Int32 → Int32 → Int32 → Int32 → Int32 → Int32 → Int32 → bSto → Option (Int32 × Int32 × Int32 × Int32 × Int32 × Int32 × bSto)
  | 0, _, _, _, _, _, _, _, _ => none
  | n + 1, x1, x2, x3, x4, x5, x6, x7, σ => (if (σ.1 95 3) ≤ x7 then some (x1, x2, x3, x4, x5, x6, σ) else bbd (f_X12_hasBit x5 x7 σ) (fun v4 σ3 => (if v4 = 0 then (if x6 < 0 then f_X12_coal_J187_138 (f_X12_coal_L138 n) x1 x2 x3 x4 x5 x7 σ3 else bbd (f_X12_weightOf x7 σ3) (fun v11 σ10 => if x3 = 0 then none else bbd (f_X12_weightOf x6 σ10) (fun v15 σ14 => if x3 = 0 then none else (if ((x2 * v11) - (x2 * v11) / x3 * x3) ≤ ((x2 * v15) - (x2 * v15) / x3 * x3) then blet (x7 + (1 : Int32)) (fun x7_18 => f_X12_coal_L138 n x1 x2 x3 x4 x5 x6 x7_18 σ14) else f_X12_coal_J187_138 (f_X12_coal_L138 n) x1 x2 x3 x4 x5 x7 σ14)))) else blet (x7 + (1 : Int32)) (fun x7_6 => f_X12_coal_L138 n x1 x2 x3 x4 x5 x6 x7_6 σ3))))
def f_X12_coal_L127 : Nat → Int32 → Int32 → Int32 → Int32 → Int32 → bSto → Option (Int32 × bSto)
  | 0, _, _, _, _, _, _ => none
  | n + 1, x1, x2, x3, x4, x5, σ => (if x4 ≤ 0 then some (x1, σ) else bl6 (f_X12_coal_L138 bFU x1 x2 x3 x4 x5 (-1 : Int32) (0 : Int32) σ) (fun x1_2 x2_2 x3_2 x4_2 x5_2 x6_2 σ3 => blet (x5_2 ||| ((1 : Int32) <<< (x6_2 &&& 31))) (fun x5_4 => if x6_2 < 0 ∨ 6 ≤ x6_2.toNatClampNeg then none else if x6_2 < 0 ∨ 6 ≤ x6_2.toNatClampNeg then none else blet (bI σ3 103 x6_2.toNatClampNeg ((σ3.1 103 x6_2.toNatClampNeg) + (1 : Int32))) (fun σ7 => blet (x4_2 + (-1 : Int32)) (fun x4_10 => f_X12_coal_L127 n x1_2 x2_2 x3_2 x4_10 x5_4 σ7)))))
def f_X12_coal (x1 : Int32) (x2 : Int32) (σ : bSto) : Option (Int32 × bSto) := bbv (f_X12_good  σ) (fun σ2 => bbd (f_X12_isBench x1 σ2) (fun v5 σ4 => (if v5 = 0 then bbd (f_X12_no (1 : Int32) σ4) (fun v24 σ23 => some (v24, σ23)) else bbd (f_X12_in x2 (0 : Int32) (999 : Int32) σ4) (fun v9 σ8 => (if v9 = 0 then bbd (f_X12_no (2 : Int32) σ8) (fun v21 σ20 => some (v21, σ20)) else bl3 (f_X12_coal_L40 bFU x1 x2 (0 : Int32) (0 : Int32) σ8) (fun x1_11 x2_11 x3_11 σ12 => (if x3_11 = 0 then some ((0 : Int32), σ12) else bl4 (f_X12_coal_L78 bFU x1_11 x2_11 x3_11 x2_11 (0 : Int32) σ12) (fun x1_14 x2_14 x3_14 x4_14 σ15 => bl1 (f_X12_coal_L127 bFU x1_14 x2_14 x3_14 x4_14 (0 : Int32) σ15) (fun x1_16 σ17 => if x1_16 < 0 ∨ 6 ≤ x1_16.toNatClampNeg then none else some ((σ17.1 103 x1_16.toNatClampNeg), σ17))))))))))
set_option maxHeartbeats 4000000 in
set_option maxRecDepth 20000 in
theorem e_X12_coal_L40 {X : bX} {l : Launch} {G : bG} {ρ : Nat → Nat} {A : Nat → Prop} {d : Nat} {r : Int32} {σ' : bSto} (C : bCX X cX12_coal RX12 (d + 4)) (Hh : bH X l G bSHf ρ A 8) (Rt : bRX X (some .int) (some (.int r)) σ') : ∀ (n : Nat) (x1 : Int32) (x2 : Int32) (x3 : Int32) (x4 : Int32) (σ : bSto) (q : (Int32 × Int32 × Int32 × bSto)), f_X12_coal_L40 n x1 x2 x3 x4 σ = some q → (∀ (x1 : Int32) (x2 : Int32) (x3 : Int32) (s : bSto), q = (x1, x2, x3, s) → bAJ X 66 [(0, .ref 92), (1, .int x1), (2, .int x2), (3, .int x3)] [] s) → bAJ X 40 [(0, .ref 92), (1, .int x1), (2, .int x2), (3, .int x3), (4, .int x4)] [] σ := by
  intro n
  induction n with
  | zero => intro x1 x2 x3 x4 σ q hF; rw [f_X12_coal_L40] at hF; cases hF
  | succ n ih =>
    intro x1 x2 x3 x4 σ q hF hx
    rw [f_X12_coal_L40] at hF
    refine b_iload (pc := 40) C dX12_coal_40 4 rfl ?_
    refine b_aload_n (pc := 42) C dX12_coal_42 rfl 0 rfl ?_
    refine b_getS (pc := 43) C dX12_coal_43 fl_X12_20 (Hh.1 _ _ sh_92) rfl ?_
    refine b_iconst (pc := 46) C dX12_coal_46 ic_3 ?_
    refine b_ialdK (pc := 47) C dX12_coal_47 (Hh.1 _ _ sh_95) tn_3 (by decide) ?_
    refine b_icmp_ge (tgt := 66) (pc := 48) C dX12_coal_48 rfl (fun hc1 => ?_) (fun hc1 => ?_)
    · rw [if_pos hc1] at hF
      exact b_sub [0, 1, 2, 3] rfl (hx _ _ _ _ (Option.some.inj hF).symm )
    · rw [if_neg hc1] at hF
      refine b_iload_n (pc := 51) C dX12_coal_51 rfl 3 rfl ?_
      refine b_aload_n (pc := 52) C dX12_coal_52 rfl 0 rfl ?_
      refine b_iload (pc := 53) C dX12_coal_53 4 rfl ?_
      obtain ⟨v4, σ3, hc2, hF⟩ := bbd_e hF
      refine b_cV1i (d' := (d + 3)) (pc := 55) C dX12_coal_55 mm_X12_357 (Hh.1 _ _ sh_92) rfl (Nat.le_of_ble_eq_true rfl) (by omega) (Hh.2.2 _ _ _ _ _ _ _ _ _ (lvl_eq (by omega) (e_X12_weightOf (d + 0) x4 _ _ _ hc2))) ?_
      refine b_iadd (pc := 58) C dX12_coal_58 ?_
      obtain ⟨x3_5, e6, hF⟩ := blet_e hF
      refine b_istore_n (L' := [(3, .int x3_5), (0, .ref 92), (1, .int x1), (2, .int x2), (4, .int x4)]) (pc := 59) C dX12_coal_59 rfl e6 (Hh.2.1 _ (Nat.le_of_ble_eq_true rfl)) rfl ?_
      obtain ⟨x4_7, e8, hF⟩ := blet_e hF
      refine b_iinc (L' := [(4, .int x4_7), (3, .int x3_5), (0, .ref 92), (1, .int x1), (2, .int x2)]) (pc := 60) C dX12_coal_60 4 rfl ic_1 e8 (Hh.2.1 _ (Nat.le_of_ble_eq_true rfl)) rfl ?_
      refine b_goto (tgt := 40) (pc := 63) C dX12_coal_63 rfl ?_
      exact b_sub [2, 3, 4, 1, 0] rfl (ih x1 x2 x3_5 x4_7 _ _ hF hx)
set_option maxHeartbeats 4000000 in
set_option maxRecDepth 20000 in
theorem e_X12_coal_L78 {X : bX} {l : Launch} {G : bG} {ρ : Nat → Nat} {A : Nat → Prop} {d : Nat} {r : Int32} {σ' : bSto} (C : bCX X cX12_coal RX12 (d + 4)) (Hh : bH X l G bSHf ρ A 8) (Rt : bRX X (some .int) (some (.int r)) σ') : ∀ (n : Nat) (x1 : Int32) (x2 : Int32) (x3 : Int32) (x4 : Int32) (x5 : Int32) (σ : bSto) (q : (Int32 × Int32 × Int32 × Int32 × bSto)), f_X12_coal_L78 n x1 x2 x3 x4 x5 σ = some q → (∀ (x1 : Int32) (x2 : Int32) (x3 : Int32) (x4 : Int32) (s : bSto), q = (x1, x2, x3, x4, s) → bAJ X 124 [(0, .ref 92), (1, .int x1), (2, .int x2), (3, .int x3), (4, .int x4)] [] s) → bAJ X 78 [(0, .ref 92), (1, .int x1), (2, .int x2), (3, .int x3), (4, .int x4), (5, .int x5)] [] σ := by
  intro n
  induction n with
  | zero => intro x1 x2 x3 x4 x5 σ q hF; rw [f_X12_coal_L78] at hF; cases hF
  | succ n ih =>
    intro x1 x2 x3 x4 x5 σ q hF hx
    rw [f_X12_coal_L78] at hF
    refine b_iload (pc := 78) C dX12_coal_78 5 rfl ?_
    refine b_aload_n (pc := 80) C dX12_coal_80 rfl 0 rfl ?_
    refine b_getS (pc := 81) C dX12_coal_81 fl_X12_20 (Hh.1 _ _ sh_92) rfl ?_
    refine b_iconst (pc := 84) C dX12_coal_84 ic_3 ?_
    refine b_ialdK (pc := 85) C dX12_coal_85 (Hh.1 _ _ sh_95) tn_3 (by decide) ?_
    refine b_icmp_ge (tgt := 124) (pc := 86) C dX12_coal_86 rfl (fun hc1 => ?_) (fun hc1 => ?_)
    · rw [if_pos hc1] at hF
      exact b_sub [0, 1, 2, 3, 4] rfl (hx _ _ _ _ _ (Option.some.inj hF).symm )
    · rw [if_neg hc1] at hF
      refine b_aload_n (pc := 89) C dX12_coal_89 rfl 0 rfl ?_
      refine b_getS (pc := 90) C dX12_coal_90 fl_X12_44 (Hh.1 _ _ sh_92) rfl ?_
      refine b_iload (pc := 93) C dX12_coal_93 5 rfl ?_
      refine b_iload_n (pc := 95) C dX12_coal_95 rfl 2 rfl ?_
      refine b_aload_n (pc := 96) C dX12_coal_96 rfl 0 rfl ?_
      refine b_iload (pc := 97) C dX12_coal_97 5 rfl ?_
      obtain ⟨v4, σ3, hc2, hF⟩ := bbd_e hF
      refine b_cV1i (d' := (d + 3)) (pc := 99) C dX12_coal_99 mm_X12_357 (Hh.1 _ _ sh_92) rfl (Nat.le_of_ble_eq_true rfl) (by omega) (Hh.2.2 _ _ _ _ _ _ _ _ _ (lvl_eq (by omega) (e_X12_weightOf (d + 0) x5 _ _ _ hc2))) ?_
      refine b_imul (pc := 102) C dX12_coal_102 ?_
      refine b_iload_n (pc := 103) C dX12_coal_103 rfl 3 rfl ?_
      obtain ⟨hz5, hF⟩ := bif_n hF
      refine b_idiv (pc := 104) C dX12_coal_104 hz5 ?_
      obtain ⟨hb8, hF⟩ := bif_n hF
      obtain ⟨σ6, e7, hF⟩ := blet_e hF
      refine b_iast (pc := 105) C dX12_coal_105 (Hh.1 _ _ sh_103) hb8 e7 ?_
      refine b_iload (pc := 106) C dX12_coal_106 4 rfl ?_
      refine b_aload_n (pc := 108) C dX12_coal_108 rfl 0 rfl ?_
      refine b_getS (pc := 109) C dX12_coal_109 fl_X12_44 (Hh.1 _ _ sh_92) rfl ?_
      refine b_iload (pc := 112) C dX12_coal_112 5 rfl ?_
      obtain ⟨hb9, hF⟩ := bif_n hF
      refine b_iald (pc := 114) C dX12_coal_114 (Hh.1 _ _ sh_103) hb9 ?_
      refine b_isub (pc := 115) C dX12_coal_115 ?_
      obtain ⟨x4_10, e11, hF⟩ := blet_e hF
      refine b_istore (L' := [(4, .int x4_10), (0, .ref 92), (1, .int x1), (2, .int x2), (3, .int x3), (5, .int x5)]) (pc := 116) C dX12_coal_116 e11 (Hh.2.1 _ (Nat.le_of_ble_eq_true rfl)) rfl ?_
      obtain ⟨x5_12, e13, hF⟩ := blet_e hF
      refine b_iinc (L' := [(5, .int x5_12), (4, .int x4_10), (0, .ref 92), (1, .int x1), (2, .int x2), (3, .int x3)]) (pc := 118) C dX12_coal_118 5 rfl ic_1 e13 (Hh.2.1 _ (Nat.le_of_ble_eq_true rfl)) rfl ?_
      refine b_goto (tgt := 78) (pc := 121) C dX12_coal_121 rfl ?_
      exact b_sub [2, 3, 4, 5, 1, 0] rfl (ih x1 x2 x3 x4_10 x5_12 _ _ hF hx)
set_option maxHeartbeats 4000000 in
set_option maxRecDepth 20000 in
theorem e_X12_coal_J187_138 {X : bX} {l : Launch} {G : bG} {ρ : Nat → Nat} {A : Nat → Prop} {d : Nat} {r : Int32} {σ' : bSto} (C : bCX X cX12_coal RX12 (d + 4)) (Hh : bH X l G bSHf ρ A 8) (Rt : bRX X (some .int) (some (.int r)) σ') {k : Int32 → Int32 → Int32 → Int32 → Int32 → Int32 → Int32 → bSto → Option (Int32 × Int32 × Int32 × Int32 × Int32 × Int32 × bSto)} (ih : ∀ (x1 : Int32) (x2 : Int32) (x3 : Int32) (x4 : Int32) (x5 : Int32) (x6 : Int32) (x7 : Int32) (σ : bSto) (q : (Int32 × Int32 × Int32 × Int32 × Int32 × Int32 × bSto)), k x1 x2 x3 x4 x5 x6 x7 σ = some q → (∀ (x1 : Int32) (x2 : Int32) (x3 : Int32) (x4 : Int32) (x5 : Int32) (x6 : Int32) (s : bSto), q = (x1, x2, x3, x4, x5, x6, s) → bAJ X 197 [(0, .ref 92), (1, .int x1), (2, .int x2), (3, .int x3), (4, .int x4), (5, .int x5), (6, .int x6)] [] s) → bAJ X 138 [(0, .ref 92), (1, .int x1), (2, .int x2), (3, .int x3), (4, .int x4), (5, .int x5), (6, .int x6), (7, .int x7)] [] σ) (x1 : Int32) (x2 : Int32) (x3 : Int32) (x4 : Int32) (x5 : Int32) (x7 : Int32) (σ : bSto) (q : (Int32 × Int32 × Int32 × Int32 × Int32 × Int32 × bSto)) (hF : f_X12_coal_J187_138 k x1 x2 x3 x4 x5 x7 σ = some q) : (∀ (x1 : Int32) (x2 : Int32) (x3 : Int32) (x4 : Int32) (x5 : Int32) (x6 : Int32) (s : bSto), q = (x1, x2, x3, x4, x5, x6, s) → bAJ X 197 [(0, .ref 92), (1, .int x1), (2, .int x2), (3, .int x3), (4, .int x4), (5, .int x5), (6, .int x6)] [] s) → bAJ X 187 [(0, .ref 92), (1, .int x1), (2, .int x2), (3, .int x3), (4, .int x4), (5, .int x5), (7, .int x7)] [] σ := by
  intro hx
  rw [f_X12_coal_J187_138] at hF
  refine b_iload (pc := 187) C dX12_coal_187 6 rfl ?_
  refine b_istore (L' := [(6, .int x7), (0, .ref 92), (1, .int x1), (2, .int x2), (3, .int x3), (4, .int x4), (5, .int x5), (7, .int x7)]) (pc := 189) C dX12_coal_189 rfl (Hh.2.1 _ (Nat.le_of_ble_eq_true rfl)) rfl ?_
  obtain ⟨x7_1, e2, hF⟩ := blet_e hF
  refine b_iinc (L' := [(7, .int x7_1), (6, .int x7), (0, .ref 92), (1, .int x1), (2, .int x2), (3, .int x3), (4, .int x4), (5, .int x5)]) (pc := 191) C dX12_coal_191 7 rfl ic_1 e2 (Hh.2.1 _ (Nat.le_of_ble_eq_true rfl)) rfl ?_
  refine b_goto (tgt := 138) (pc := 194) C dX12_coal_194 rfl ?_
  exact b_sub [2, 3, 4, 5, 6, 7, 1, 0] rfl (ih x1 x2 x3 x4 x5 x7 x7_1 _ _ hF hx)
set_option maxHeartbeats 4000000 in
set_option maxRecDepth 20000 in
theorem e_X12_coal_L138 {X : bX} {l : Launch} {G : bG} {ρ : Nat → Nat} {A : Nat → Prop} {d : Nat} {r : Int32} {σ' : bSto} (C : bCX X cX12_coal RX12 (d + 4)) (Hh : bH X l G bSHf ρ A 8) (Rt : bRX X (some .int) (some (.int r)) σ') : ∀ (n : Nat) (x1 : Int32) (x2 : Int32) (x3 : Int32) (x4 : Int32) (x5 : Int32) (x6 : Int32) (x7 : Int32) (σ : bSto) (q : (Int32 × Int32 × Int32 × Int32 × Int32 × Int32 × bSto)), f_X12_coal_L138 n x1 x2 x3 x4 x5 x6 x7 σ = some q → (∀ (x1 : Int32) (x2 : Int32) (x3 : Int32) (x4 : Int32) (x5 : Int32) (x6 : Int32) (s : bSto), q = (x1, x2, x3, x4, x5, x6, s) → bAJ X 197 [(0, .ref 92), (1, .int x1), (2, .int x2), (3, .int x3), (4, .int x4), (5, .int x5), (6, .int x6)] [] s) → bAJ X 138 [(0, .ref 92), (1, .int x1), (2, .int x2), (3, .int x3), (4, .int x4), (5, .int x5), (6, .int x6), (7, .int x7)] [] σ := by
  intro n
  induction n with
  | zero => intro x1 x2 x3 x4 x5 x6 x7 σ q hF; rw [f_X12_coal_L138] at hF; cases hF
  | succ n ih =>
    intro x1 x2 x3 x4 x5 x6 x7 σ q hF hx
    rw [f_X12_coal_L138] at hF
    refine b_iload (pc := 138) C dX12_coal_138 7 rfl ?_
    refine b_aload_n (pc := 140) C dX12_coal_140 rfl 0 rfl ?_
    refine b_getS (pc := 141) C dX12_coal_141 fl_X12_20 (Hh.1 _ _ sh_92) rfl ?_
    refine b_iconst (pc := 144) C dX12_coal_144 ic_3 ?_
    refine b_ialdK (pc := 145) C dX12_coal_145 (Hh.1 _ _ sh_95) tn_3 (by decide) ?_
    refine b_icmp_ge (tgt := 197) (pc := 146) C dX12_coal_146 rfl (fun hc1 => ?_) (fun hc1 => ?_)
    · rw [if_pos hc1] at hF
      exact b_sub [0, 1, 2, 3, 4, 5, 6] rfl (hx _ _ _ _ _ _ _ (Option.some.inj hF).symm )
    · rw [if_neg hc1] at hF
      refine b_iload (pc := 149) C dX12_coal_149 5 rfl ?_
      refine b_iload (pc := 151) C dX12_coal_151 7 rfl ?_
      obtain ⟨v4, σ3, hc2, hF⟩ := bbd_e hF
      refine b_cS2i (d' := (d + 3)) (pc := 153) C dX12_coal_153 mm_X12_281 (Nat.le_of_ble_eq_true rfl) (by omega) (Hh.2.2 _ _ _ _ _ _ _ _ _ (lvl_eq (by omega) (e_X12_hasBit (d + 3) x5 x7 _ _ _ hc2))) ?_
      refine b_if_ne (tgt := 191) (pc := 156) C dX12_coal_156 rfl (fun hc5 => ?_) (fun hc5 => ?_)
      · rw [if_neg hc5] at hF
        obtain ⟨x7_6, e7, hF⟩ := blet_e hF
        refine b_iinc (L' := [(7, .int x7_6), (0, .ref 92), (1, .int x1), (2, .int x2), (3, .int x3), (4, .int x4), (5, .int x5), (6, .int x6)]) (pc := 191) C dX12_coal_191 7 rfl ic_1 e7 (Hh.2.1 _ (Nat.le_of_ble_eq_true rfl)) rfl ?_
        refine b_goto (tgt := 138) (pc := 194) C dX12_coal_194 rfl ?_
        exact b_sub [1, 2, 3, 4, 5, 6, 7, 0] rfl (ih x1 x2 x3 x4 x5 x6 x7_6 _ _ hF hx)
      · rw [if_pos hc5] at hF
        refine b_iload (pc := 159) C dX12_coal_159 6 rfl ?_
        refine b_if_lt (tgt := 187) (pc := 161) C dX12_coal_161 rfl (fun hc8 => ?_) (fun hc8 => ?_)
        · rw [if_pos hc8] at hF
          exact b_sub [0, 1, 2, 3, 4, 5, 7] rfl (e_X12_coal_J187_138 C Hh Rt ih x1 x2 x3 x4 x5 x7 _ _ hF hx)
        · rw [if_neg hc8] at hF
          refine b_iload_n (pc := 164) C dX12_coal_164 rfl 2 rfl ?_
          refine b_aload_n (pc := 165) C dX12_coal_165 rfl 0 rfl ?_
          refine b_iload (pc := 166) C dX12_coal_166 7 rfl ?_
          obtain ⟨v11, σ10, hc9, hF⟩ := bbd_e hF
          refine b_cV1i (d' := (d + 3)) (pc := 168) C dX12_coal_168 mm_X12_357 (Hh.1 _ _ sh_92) rfl (Nat.le_of_ble_eq_true rfl) (by omega) (Hh.2.2 _ _ _ _ _ _ _ _ _ (lvl_eq (by omega) (e_X12_weightOf (d + 0) x7 _ _ _ hc9))) ?_
          refine b_imul (pc := 171) C dX12_coal_171 ?_
          refine b_iload_n (pc := 172) C dX12_coal_172 rfl 3 rfl ?_
          obtain ⟨hz12, hF⟩ := bif_n hF
          refine b_irem (pc := 173) C dX12_coal_173 hz12 ?_
          refine b_iload_n (pc := 174) C dX12_coal_174 rfl 2 rfl ?_
          refine b_aload_n (pc := 175) C dX12_coal_175 rfl 0 rfl ?_
          refine b_iload (pc := 176) C dX12_coal_176 6 rfl ?_
          obtain ⟨v15, σ14, hc13, hF⟩ := bbd_e hF
          refine b_cV1i (d' := (d + 3)) (pc := 178) C dX12_coal_178 mm_X12_357 (Hh.1 _ _ sh_92) rfl (Nat.le_of_ble_eq_true rfl) (by omega) (Hh.2.2 _ _ _ _ _ _ _ _ _ (lvl_eq (by omega) (e_X12_weightOf (d + 0) x6 _ _ _ hc13))) ?_
          refine b_imul (pc := 181) C dX12_coal_181 ?_
          refine b_iload_n (pc := 182) C dX12_coal_182 rfl 3 rfl ?_
          obtain ⟨hz16, hF⟩ := bif_n hF
          refine b_irem (pc := 183) C dX12_coal_183 hz16 ?_
          refine b_icmp_le (tgt := 191) (pc := 184) C dX12_coal_184 rfl (fun hc17 => ?_) (fun hc17 => ?_)
          · rw [if_pos hc17] at hF
            obtain ⟨x7_18, e19, hF⟩ := blet_e hF
            refine b_iinc (L' := [(7, .int x7_18), (0, .ref 92), (1, .int x1), (2, .int x2), (3, .int x3), (4, .int x4), (5, .int x5), (6, .int x6)]) (pc := 191) C dX12_coal_191 7 rfl ic_1 e19 (Hh.2.1 _ (Nat.le_of_ble_eq_true rfl)) rfl ?_
            refine b_goto (tgt := 138) (pc := 194) C dX12_coal_194 rfl ?_
            exact b_sub [1, 2, 3, 4, 5, 6, 7, 0] rfl (ih x1 x2 x3 x4 x5 x6 x7_18 _ _ hF hx)
          · rw [if_neg hc17] at hF
            exact b_sub [0, 1, 2, 3, 4, 5, 7] rfl (e_X12_coal_J187_138 C Hh Rt ih x1 x2 x3 x4 x5 x7 _ _ hF hx)
set_option maxHeartbeats 4000000 in
set_option maxRecDepth 20000 in
theorem e_X12_coal_L127 {X : bX} {l : Launch} {G : bG} {ρ : Nat → Nat} {A : Nat → Prop} {d : Nat} {r : Int32} {σ' : bSto} (C : bCX X cX12_coal RX12 (d + 4)) (Hh : bH X l G bSHf ρ A 8) (Rt : bRX X (some .int) (some (.int r)) σ') : ∀ (n : Nat) (x1 : Int32) (x2 : Int32) (x3 : Int32) (x4 : Int32) (x5 : Int32) (σ : bSto) (q : (Int32 × bSto)), f_X12_coal_L127 n x1 x2 x3 x4 x5 σ = some q → (∀ (x1 : Int32) (s : bSto), q = (x1, s) → bAJ X 223 [(0, .ref 92), (1, .int x1)] [] s) → bAJ X 127 [(0, .ref 92), (1, .int x1), (2, .int x2), (3, .int x3), (4, .int x4), (5, .int x5)] [] σ := by
  intro n
  induction n with
  | zero => intro x1 x2 x3 x4 x5 σ q hF; rw [f_X12_coal_L127] at hF; cases hF
  | succ n ih =>
    intro x1 x2 x3 x4 x5 σ q hF hx
    rw [f_X12_coal_L127] at hF
    refine b_iload (pc := 127) C dX12_coal_127 4 rfl ?_
    refine b_if_le (tgt := 223) (pc := 129) C dX12_coal_129 rfl (fun hc1 => ?_) (fun hc1 => ?_)
    · rw [if_pos hc1] at hF
      exact b_sub [0, 1] rfl (hx _ _ (Option.some.inj hF).symm )
    · rw [if_neg hc1] at hF
      refine b_iconst (pc := 132) C dX12_coal_132 ic_m1 ?_
      refine b_istore (L' := [(6, .int (-1 : Int32)), (0, .ref 92), (1, .int x1), (2, .int x2), (3, .int x3), (4, .int x4), (5, .int x5)]) (pc := 133) C dX12_coal_133 rfl (Hh.2.1 _ (Nat.le_of_ble_eq_true rfl)) rfl ?_
      refine b_iconst (pc := 135) C dX12_coal_135 ic_0 ?_
      refine b_istore (L' := [(7, .int (0 : Int32)), (6, .int (-1 : Int32)), (0, .ref 92), (1, .int x1), (2, .int x2), (3, .int x3), (4, .int x4), (5, .int x5)]) (pc := 136) C dX12_coal_136 rfl (Hh.2.1 _ (Nat.le_of_ble_eq_true rfl)) rfl ?_
      obtain ⟨x1_2, x2_2, x3_2, x4_2, x5_2, x6_2, σ3, hq2, hF⟩ := bl6_e hF
      refine b_sub [2, 3, 4, 5, 6, 7, 1, 0] rfl (e_X12_coal_L138 C Hh Rt bFU x1 x2 x3 x4 x5 (-1 : Int32) (0 : Int32) _ _ hq2 (fun _ _ _ _ _ _ _ e  => ?_))
      cases e
      refine b_iload (pc := 197) C dX12_coal_197 5 rfl ?_
      refine b_iconst (pc := 199) C dX12_coal_199 ic_1 ?_
      refine b_iload (pc := 200) C dX12_coal_200 6 rfl ?_
      refine b_ishl (pc := 202) C dX12_coal_202 ?_
      refine b_ior (pc := 203) C dX12_coal_203 ?_
      obtain ⟨x5_4, e5, hF⟩ := blet_e hF
      refine b_istore (L' := [(5, .int x5_4), (0, .ref 92), (1, .int x1_2), (2, .int x2_2), (3, .int x3_2), (4, .int x4_2), (6, .int x6_2)]) (pc := 204) C dX12_coal_204 e5 (Hh.2.1 _ (Nat.le_of_ble_eq_true rfl)) rfl ?_
      refine b_aload_n (pc := 206) C dX12_coal_206 rfl 1 rfl ?_
      refine b_getS (pc := 207) C dX12_coal_207 fl_X12_44 (Hh.1 _ _ sh_92) rfl ?_
      refine b_iload (pc := 210) C dX12_coal_210 6 rfl ?_
      refine b_dup2 (pc := 212) C dX12_coal_212 rfl rfl ?_
      obtain ⟨hb6, hF⟩ := bif_n hF
      refine b_iald (pc := 213) C dX12_coal_213 (Hh.1 _ _ sh_103) hb6 ?_
      refine b_iconst (pc := 214) C dX12_coal_214 ic_1 ?_
      refine b_iadd (pc := 215) C dX12_coal_215 ?_
      obtain ⟨hb9, hF⟩ := bif_n hF
      obtain ⟨σ7, e8, hF⟩ := blet_e hF
      refine b_iast (pc := 216) C dX12_coal_216 (Hh.1 _ _ sh_103) hb9 e8 ?_
      obtain ⟨x4_10, e11, hF⟩ := blet_e hF
      refine b_iinc (L' := [(4, .int x4_10), (5, .int x5_4), (0, .ref 92), (1, .int x1_2), (2, .int x2_2), (3, .int x3_2), (6, .int x6_2)]) (pc := 217) C dX12_coal_217 5 rfl ic_m1 e11 (Hh.2.1 _ (Nat.le_of_ble_eq_true rfl)) rfl ?_
      refine b_goto (tgt := 127) (pc := 220) C dX12_coal_220 rfl ?_
      exact b_sub [2, 3, 4, 5, 0, 1] rfl (ih x1_2 x2_2 x3_2 x4_10 x5_4 _ _ hF hx)
set_option maxHeartbeats 4000000 in
set_option maxRecDepth 20000 in
theorem e_X12_coal_0 {X : bX} {l : Launch} {G : bG} {ρ : Nat → Nat} {A : Nat → Prop} {d : Nat} {r : Int32} {σ' : bSto} (C : bCX X cX12_coal RX12 (d + 4)) (Hh : bH X l G bSHf ρ A 8) (Rt : bRX X (some .int) (some (.int r)) σ') (x1 : Int32) (x2 : Int32) (σ : bSto) (hF : f_X12_coal x1 x2 σ = some (r, σ')) : bAJ X 0 [(0, .ref 92), (1, .int x1), (2, .int x2)] [] σ := by
  rw [f_X12_coal] at hF
  refine b_aload_n (pc := 0) C dX12_coal_0 rfl 0 rfl ?_
  obtain ⟨σ2, hc1, hF⟩ := bbv_e hF
  refine b_cV0v (d' := (d + 3)) (pc := 1) C dX12_coal_1 mm_X12_181 (Hh.1 _ _ sh_92) rfl (Nat.le_of_ble_eq_true rfl) (by omega) (Hh.2.2 _ _ _ _ _ _ _ _ _ (lvl_eq (by omega) (e_X12_good (d + 3)  _ _ hc1))) ?_
  refine b_aload_n (pc := 4) C dX12_coal_4 rfl 0 rfl ?_
  refine b_iload_n (pc := 5) C dX12_coal_5 rfl 1 rfl ?_
  obtain ⟨v5, σ4, hc3, hF⟩ := bbd_e hF
  refine b_cV1i (d' := (d + 3)) (pc := 6) C dX12_coal_6 mm_X12_312 (Hh.1 _ _ sh_92) rfl (Nat.le_of_ble_eq_true rfl) (by omega) (Hh.2.2 _ _ _ _ _ _ _ _ _ (lvl_eq (by omega) (e_X12_isBench (d + 2) x1 _ _ _ hc3))) ?_
  refine b_if_ne (tgt := 18) (pc := 9) C dX12_coal_9 rfl (fun hc6 => ?_) (fun hc6 => ?_)
  · rw [if_neg hc6] at hF
    refine b_iload_n (pc := 18) C dX12_coal_18 rfl 2 rfl ?_
    refine b_iconst (pc := 19) C dX12_coal_19 ic_0 ?_
    refine b_sipush (pc := 20) C dX12_coal_20 sp_999 ?_
    obtain ⟨v9, σ8, hc7, hF⟩ := bbd_e hF
    refine b_cS3i (d' := (d + 3)) (pc := 23) C dX12_coal_23 mm_X12_160 (Nat.le_of_ble_eq_true rfl) (by omega) (Hh.2.2 _ _ _ _ _ _ _ _ _ (lvl_eq (by omega) (e_X12_in (d + 3) x2 (0 : Int32) (999 : Int32) _ _ _ hc7))) ?_
    refine b_if_ne (tgt := 35) (pc := 26) C dX12_coal_26 rfl (fun hc10 => ?_) (fun hc10 => ?_)
    · rw [if_neg hc10] at hF
      refine b_iconst (pc := 35) C dX12_coal_35 ic_0 ?_
      refine b_istore_n (L' := [(3, .int (0 : Int32)), (0, .ref 92), (1, .int x1), (2, .int x2)]) (pc := 36) C dX12_coal_36 rfl rfl (Hh.2.1 _ (Nat.le_of_ble_eq_true rfl)) rfl ?_
      refine b_iconst (pc := 37) C dX12_coal_37 ic_0 ?_
      refine b_istore (L' := [(4, .int (0 : Int32)), (3, .int (0 : Int32)), (0, .ref 92), (1, .int x1), (2, .int x2)]) (pc := 38) C dX12_coal_38 rfl (Hh.2.1 _ (Nat.le_of_ble_eq_true rfl)) rfl ?_
      obtain ⟨x1_11, x2_11, x3_11, σ12, hq11, hF⟩ := bl3_e hF
      refine b_sub [2, 3, 4, 1, 0] rfl (e_X12_coal_L40 C Hh Rt bFU x1 x2 (0 : Int32) (0 : Int32) _ _ hq11 (fun _ _ _ _ e  => ?_))
      cases e
      refine b_iload_n (pc := 66) C dX12_coal_66 rfl 3 rfl ?_
      refine b_if_ne (tgt := 72) (pc := 67) C dX12_coal_67 rfl (fun hc13 => ?_) (fun hc13 => ?_)
      · rw [if_neg hc13] at hF
        refine b_iload_n (pc := 72) C dX12_coal_72 rfl 2 rfl ?_
        refine b_istore (L' := [(4, .int x2_11), (0, .ref 92), (1, .int x1_11), (2, .int x2_11), (3, .int x3_11)]) (pc := 73) C dX12_coal_73 rfl (Hh.2.1 _ (Nat.le_of_ble_eq_true rfl)) rfl ?_
        refine b_iconst (pc := 75) C dX12_coal_75 ic_0 ?_
        refine b_istore (L' := [(5, .int (0 : Int32)), (4, .int x2_11), (0, .ref 92), (1, .int x1_11), (2, .int x2_11), (3, .int x3_11)]) (pc := 76) C dX12_coal_76 rfl (Hh.2.1 _ (Nat.le_of_ble_eq_true rfl)) rfl ?_
        obtain ⟨x1_14, x2_14, x3_14, x4_14, σ15, hq14, hF⟩ := bl4_e hF
        refine b_sub [2, 3, 4, 5, 1, 0] rfl (e_X12_coal_L78 C Hh Rt bFU x1_11 x2_11 x3_11 x2_11 (0 : Int32) _ _ hq14 (fun _ _ _ _ _ e  => ?_))
        cases e
        refine b_iconst (pc := 124) C dX12_coal_124 ic_0 ?_
        refine b_istore (L' := [(5, .int (0 : Int32)), (0, .ref 92), (1, .int x1_14), (2, .int x2_14), (3, .int x3_14), (4, .int x4_14)]) (pc := 125) C dX12_coal_125 rfl (Hh.2.1 _ (Nat.le_of_ble_eq_true rfl)) rfl ?_
        obtain ⟨x1_16, σ17, hq16, hF⟩ := bl1_e hF
        refine b_sub [1, 2, 3, 4, 5, 0] rfl (e_X12_coal_L127 C Hh Rt bFU x1_14 x2_14 x3_14 x4_14 (0 : Int32) _ _ hq16 (fun _ _ e  => ?_))
        cases e
        refine b_aload_n (pc := 223) C dX12_coal_223 rfl 0 rfl ?_
        refine b_getS (pc := 224) C dX12_coal_224 fl_X12_44 (Hh.1 _ _ sh_92) rfl ?_
        refine b_iload_n (pc := 227) C dX12_coal_227 rfl 1 rfl ?_
        obtain ⟨hb18, hF⟩ := bif_n hF
        refine b_iald (pc := 228) C dX12_coal_228 (Hh.1 _ _ sh_103) hb18 ?_
        exact b_iret (pc := 229) C Rt dX12_coal_229 hF
      · rw [if_pos hc13] at hF
        refine b_iconst (pc := 70) C dX12_coal_70 ic_0 ?_
        exact b_iret (pc := 71) C Rt dX12_coal_71 hF
    · rw [if_pos hc10] at hF
      refine b_aload_n (pc := 29) C dX12_coal_29 rfl 0 rfl ?_
      refine b_iconst (pc := 30) C dX12_coal_30 ic_2 ?_
      obtain ⟨v21, σ20, hc19, hF⟩ := bbd_e hF
      refine b_cV1i (d' := (d + 3)) (pc := 31) C dX12_coal_31 mm_X12_184 (Hh.1 _ _ sh_92) rfl (Nat.le_of_ble_eq_true rfl) (by omega) (Hh.2.2 _ _ _ _ _ _ _ _ _ (lvl_eq (by omega) (e_X12_no (d + 3) (2 : Int32) _ _ _ hc19))) ?_
      exact b_iret (pc := 34) C Rt dX12_coal_34 hF
  · rw [if_pos hc6] at hF
    refine b_aload_n (pc := 12) C dX12_coal_12 rfl 0 rfl ?_
    refine b_iconst (pc := 13) C dX12_coal_13 ic_1 ?_
    obtain ⟨v24, σ23, hc22, hF⟩ := bbd_e hF
    refine b_cV1i (d' := (d + 3)) (pc := 14) C dX12_coal_14 mm_X12_184 (Hh.1 _ _ sh_92) rfl (Nat.le_of_ble_eq_true rfl) (by omega) (Hh.2.2 _ _ _ _ _ _ _ _ _ (lvl_eq (by omega) (e_X12_no (d + 3) (1 : Int32) _ _ _ hc22))) ?_
    exact b_iret (pc := 17) C Rt dX12_coal_17 hF
set_option maxHeartbeats 4000000 in
set_option maxRecDepth 20000 in
theorem e_X12_coal {l : Launch} {G : bG} {ρ : Nat → Nat} {A : Nat → Prop} (d : Nat) (x1 : Int32) (x2 : Int32) (σ : bSto) (r : Int32) (σ' : bSto) (hF : f_X12_coal x1 x2 σ = some (r, σ')) : bEv l G bSHf ρ A yX12_coal cX12_coal 8 (some .int) (d + 4) [.ref 92, .int x1, .int x2] σ (some (.int r)) σ' := b_met (d := d + 4) (by decide +kernel) (Nat.le_of_ble_eq_true rfl) rfl (fun X C Rt h1 h2 h3 => e_X12_coal_0 C ⟨fun o q h => by rw [h1]; exact h, fun i h => by rw [h2]; exact h, h3⟩ Rt _ _ _ hF)
/-! BenchColonyModel.canMarry -/
def f_X12_canMarry_J52  (σ : bSto) : Option (Int32 × bSto) := some ((0 : Int32), σ)
def f_X12_canMarry (x1 : Int32) (x2 : Int32) (σ : bSto) : Option (Int32 × bSto) := (if x1 = x2 then f_X12_canMarry_J52  σ else bbd (f_X12_isTownOf x1 x2 σ) (fun v4 σ3 => (if v4 = 0 then f_X12_canMarry_J52  σ3 else if ((70 : Int32) + x1) < 0 ∨ 406 ≤ ((70 : Int32) + x1).toNatClampNeg then none else bbd (f_X12_hasBit (σ3.1 95 ((70 : Int32) + x1).toNatClampNeg) x2 σ3) (fun v9 σ8 => (if v9 = 0 then bbd (f_X12_kindOf x1 σ8) (fun v13 σ12 => (if v13 = (3 : Int32) then f_X12_canMarry_J52  σ12 else bbd (f_X12_kindOf x2 σ12) (fun v17 σ16 => (if v17 = (3 : Int32) then f_X12_canMarry_J52  σ16 else some ((1 : Int32), σ16))))) else f_X12_canMarry_J52  σ8)))))
set_option maxHeartbeats 4000000 in
set_option maxRecDepth 20000 in
theorem e_X12_canMarry_J52 {X : bX} {l : Launch} {G : bG} {ρ : Nat → Nat} {A : Nat → Prop} {d : Nat} {r : Int32} {σ' : bSto} (C : bCX X cX12_canMarry RX12 (d + 1)) (Hh : bH X l G bSHf ρ A 3) (Rt : bRX X (some .boolean) (some (.int r)) σ')  (σ : bSto) (hF : f_X12_canMarry_J52  σ = some (r, σ')) : bAJ X 52 [] [] σ := by
  rw [f_X12_canMarry_J52] at hF
  refine b_iconst (pc := 52) C dX12_canMarry_52 ic_0 ?_
  exact b_zret (pc := 53) C Rt dX12_canMarry_53 rfl hF
set_option maxHeartbeats 4000000 in
set_option maxRecDepth 20000 in
theorem e_X12_canMarry_0 {X : bX} {l : Launch} {G : bG} {ρ : Nat → Nat} {A : Nat → Prop} {d : Nat} {r : Int32} {σ' : bSto} (C : bCX X cX12_canMarry RX12 (d + 1)) (Hh : bH X l G bSHf ρ A 3) (Rt : bRX X (some .boolean) (some (.int r)) σ') (x1 : Int32) (x2 : Int32) (σ : bSto) (hF : f_X12_canMarry x1 x2 σ = some (r, σ')) : bAJ X 0 [(0, .ref 92), (1, .int x1), (2, .int x2)] [] σ := by
  rw [f_X12_canMarry] at hF
  refine b_iload_n (pc := 0) C dX12_canMarry_0 rfl 1 rfl ?_
  refine b_iload_n (pc := 1) C dX12_canMarry_1 rfl 2 rfl ?_
  refine b_icmp_eq (tgt := 52) (pc := 2) C dX12_canMarry_2 rfl (fun hc1 => ?_) (fun hc1 => ?_)
  · rw [if_pos hc1] at hF
    exact b_sub [] rfl (e_X12_canMarry_J52 C Hh Rt  _ hF)
  · rw [if_neg hc1] at hF
    refine b_aload_n (pc := 5) C dX12_canMarry_5 rfl 0 rfl ?_
    refine b_iload_n (pc := 6) C dX12_canMarry_6 rfl 1 rfl ?_
    refine b_iload_n (pc := 7) C dX12_canMarry_7 rfl 2 rfl ?_
    obtain ⟨v4, σ3, hc2, hF⟩ := bbd_e hF
    refine b_cV2i (d' := (d + 0)) (pc := 8) C dX12_canMarry_8 mm_X12_324 (Hh.1 _ _ sh_92) rfl (Nat.le_of_ble_eq_true rfl) (by omega) (Hh.2.2 _ _ _ _ _ _ _ _ _ (lvl_eq (by omega) (e_X12_isTownOf (d + 0) x1 x2 _ _ _ hc2))) ?_
    refine b_if_eq (tgt := 52) (pc := 11) C dX12_canMarry_11 rfl (fun hc5 => ?_) (fun hc5 => ?_)
    · rw [if_pos hc5] at hF
      exact b_sub [] rfl (e_X12_canMarry_J52 C Hh Rt  _ hF)
    · rw [if_neg hc5] at hF
      refine b_aload_n (pc := 14) C dX12_canMarry_14 rfl 0 rfl ?_
      refine b_getS (pc := 15) C dX12_canMarry_15 fl_X12_20 (Hh.1 _ _ sh_92) rfl ?_
      refine b_bipush (pc := 18) C dX12_canMarry_18 bp_70 ?_
      refine b_iload_n (pc := 20) C dX12_canMarry_20 rfl 1 rfl ?_
      refine b_iadd (pc := 21) C dX12_canMarry_21 ?_
      obtain ⟨hb6, hF⟩ := bif_n hF
      refine b_iald (pc := 22) C dX12_canMarry_22 (Hh.1 _ _ sh_95) hb6 ?_
      refine b_iload_n (pc := 23) C dX12_canMarry_23 rfl 2 rfl ?_
      obtain ⟨v9, σ8, hc7, hF⟩ := bbd_e hF
      refine b_cS2i (d' := (d + 0)) (pc := 24) C dX12_canMarry_24 mm_X12_281 (Nat.le_of_ble_eq_true rfl) (by omega) (Hh.2.2 _ _ _ _ _ _ _ _ _ (lvl_eq (by omega) (e_X12_hasBit (d + 0) (σ3.1 95 ((70 : Int32) + x1).toNatClampNeg) x2 _ _ _ hc7))) ?_
      refine b_if_ne (tgt := 52) (pc := 27) C dX12_canMarry_27 rfl (fun hc10 => ?_) (fun hc10 => ?_)
      · rw [if_neg hc10] at hF
        exact b_sub [] rfl (e_X12_canMarry_J52 C Hh Rt  _ hF)
      · rw [if_pos hc10] at hF
        refine b_aload_n (pc := 30) C dX12_canMarry_30 rfl 0 rfl ?_
        refine b_iload_n (pc := 31) C dX12_canMarry_31 rfl 1 rfl ?_
        obtain ⟨v13, σ12, hc11, hF⟩ := bbd_e hF
        refine b_cV1i (d' := (d + 0)) (pc := 32) C dX12_canMarry_32 mm_X12_302 (Hh.1 _ _ sh_92) rfl (Nat.le_of_ble_eq_true rfl) (by omega) (Hh.2.2 _ _ _ _ _ _ _ _ _ (lvl_eq (by omega) (e_X12_kindOf (d + 0) x1 _ _ _ hc11))) ?_
        refine b_iconst (pc := 35) C dX12_canMarry_35 ic_3 ?_
        refine b_icmp_eq (tgt := 52) (pc := 36) C dX12_canMarry_36 rfl (fun hc14 => ?_) (fun hc14 => ?_)
        · rw [if_pos hc14] at hF
          exact b_sub [] rfl (e_X12_canMarry_J52 C Hh Rt  _ hF)
        · rw [if_neg hc14] at hF
          refine b_aload_n (pc := 39) C dX12_canMarry_39 rfl 0 rfl ?_
          refine b_iload_n (pc := 40) C dX12_canMarry_40 rfl 2 rfl ?_
          obtain ⟨v17, σ16, hc15, hF⟩ := bbd_e hF
          refine b_cV1i (d' := (d + 0)) (pc := 41) C dX12_canMarry_41 mm_X12_302 (Hh.1 _ _ sh_92) rfl (Nat.le_of_ble_eq_true rfl) (by omega) (Hh.2.2 _ _ _ _ _ _ _ _ _ (lvl_eq (by omega) (e_X12_kindOf (d + 0) x2 _ _ _ hc15))) ?_
          refine b_iconst (pc := 44) C dX12_canMarry_44 ic_3 ?_
          refine b_icmp_eq (tgt := 52) (pc := 45) C dX12_canMarry_45 rfl (fun hc18 => ?_) (fun hc18 => ?_)
          · rw [if_pos hc18] at hF
            exact b_sub [] rfl (e_X12_canMarry_J52 C Hh Rt  _ hF)
          · rw [if_neg hc18] at hF
            refine b_iconst (pc := 48) C dX12_canMarry_48 ic_1 ?_
            refine b_goto (tgt := 53) (pc := 49) C dX12_canMarry_49 rfl ?_
            exact b_zret (pc := 53) C Rt dX12_canMarry_53 rfl hF
set_option maxHeartbeats 4000000 in
set_option maxRecDepth 20000 in
theorem e_X12_canMarry {l : Launch} {G : bG} {ρ : Nat → Nat} {A : Nat → Prop} (d : Nat) (x1 : Int32) (x2 : Int32) (σ : bSto) (r : Int32) (σ' : bSto) (hF : f_X12_canMarry x1 x2 σ = some (r, σ')) : bEv l G bSHf ρ A yX12_canMarry cX12_canMarry 3 (some .boolean) (d + 1) [.ref 92, .int x1, .int x2] σ (some (.int r)) σ' := b_met (d := d + 1) (by decide +kernel) (Nat.le_of_ble_eq_true rfl) rfl (fun X C Rt h1 h2 h3 => e_X12_canMarry_0 C ⟨fun o q h => by rw [h1]; exact h, fun i h => by rw [h2]; exact h, h3⟩ Rt _ _ _ hF)
/-! BenchColonyModel.tryCouples -/
def f_X12_tryCouples_L63 (g : Int32 → Int32 → Int32 → bSto → Option bSto) : Nat → Int32 → Int32 → Int32 → Int32 → bSto → Option (Int32 × Int32 × Int32 × bSto)
  | 0, _, _, _, _, _ => none
  | n + 1, x1, x2, x3, x4, σ => (if (σ.1 95 4) ≤ x4 then some (x1, x2, x3, σ) else bbd (f_X12_hasBit x2 x4 σ) (fun v4 σ3 => (if v4 = 0 then bbd (f_X12_canMarry x1 x4 σ3) (fun v10 σ9 => (if v10 = 0 then blet (x4 + (1 : Int32)) (fun x4_28 => f_X12_tryCouples_L63 g n x1 x2 x3 x4_28 σ9) else if x1 < 0 ∨ 7 ≤ x1.toNatClampNeg then none else blet (bI σ9 104 x1.toNatClampNeg x4) (fun σ12 => if x4 < 0 ∨ 7 ≤ x4.toNatClampNeg then none else blet (bI σ12 104 x4.toNatClampNeg x1) (fun σ15 => bbv (g (x1 + (1 : Int32)) ((x2 ||| ((1 : Int32) <<< (x1 &&& 31))) ||| ((1 : Int32) <<< (x4 &&& 31))) (x3 + (1 : Int32)) σ15) (fun σ19 => if x1 < 0 ∨ 7 ≤ x1.toNatClampNeg then none else blet (bI σ19 104 x1.toNatClampNeg (-2 : Int32)) (fun σ20 => if x4 < 0 ∨ 7 ≤ x4.toNatClampNeg then none else blet (bI σ20 104 x4.toNatClampNeg (-2 : Int32)) (fun σ23 => blet (x4 + (1 : Int32)) (fun x4_26 => f_X12_tryCouples_L63 g n x1 x2 x3 x4_26 σ23)))))))) else blet (x4 + (1 : Int32)) (fun x4_6 => f_X12_tryCouples_L63 g n x1 x2 x3 x4_6 σ3))))
def f_X12_tryCouples_B (g : Int32 → Int32 → Int32 → bSto → Option bSto) (x1 : Int32) (x2 : Int32) (x3 : Int32) (σ : bSto) : Option bSto := (if x1 = (σ.1 95 4) then (if (σ.1 92 30) < x3 then blet (bI σ 92 30 x3) (fun σ15 => bbv (f_X12_copy 104 (0 : Int32) 105 (0 : Int32) (7 : Int32) σ15) (fun σ18 => some σ18)) else some σ) else bbd (f_X12_hasBit x2 x1 σ) (fun v4 σ3 => (if v4 = 0 then blet (x1 + (1 : Int32)) (fun x4_6 => bl3 (f_X12_tryCouples_L63 g bFU x1 x2 x3 x4_6 σ3) (fun x1_8 x2_8 x3_8 σ9 => bbv (g (x1_8 + (1 : Int32)) x2_8 x3_8 σ9) (fun σ11 => some σ11))) else bbv (g (x1 + (1 : Int32)) x2 x3 σ3) (fun σ13 => some σ13))))
def f_X12_tryCouples : Nat → Int32 → Int32 → Int32 → bSto → Option bSto
  | 0, _, _, _, _ => none
  | n + 1, x1, x2, x3, σ => f_X12_tryCouples_B (f_X12_tryCouples n) x1 x2 x3 σ
set_option maxHeartbeats 4000000 in
set_option maxRecDepth 20000 in
theorem e_X12_tryCouples_L63 {X : bX} {l : Launch} {G : bG} {ρ : Nat → Nat} {A : Nat → Prop} {d : Nat} {σ' : bSto} {g : Int32 → Int32 → Int32 → bSto → Option bSto} (C : bCX X cX12_tryCouples RX12 (d + 2)) (Hh : bH X l G bSHf ρ A 5) (Rt : bRX X none none σ') (hg : ∀ (y1 : Int32) (y2 : Int32) (y3 : Int32) (σ : bSto) (σ2 : bSto), g y1 y2 y3 σ = some σ2 → bEv l G bSHf ρ A yX12_tryCouples cX12_tryCouples 5 none (d + 1) [.ref 92, .int y1, .int y2, .int y3] σ none σ2) : ∀ (n : Nat) (x1 : Int32) (x2 : Int32) (x3 : Int32) (x4 : Int32) (σ : bSto) (q : (Int32 × Int32 × Int32 × bSto)), f_X12_tryCouples_L63 g n x1 x2 x3 x4 σ = some q → (∀ (x1 : Int32) (x2 : Int32) (x3 : Int32) (s : bSto), q = (x1, x2, x3, s) → bAJ X 155 [(0, .ref 92), (1, .int x1), (2, .int x2), (3, .int x3)] [] s) → bAJ X 63 [(0, .ref 92), (1, .int x1), (2, .int x2), (3, .int x3), (4, .int x4)] [] σ := by
  intro n
  induction n with
  | zero => intro x1 x2 x3 x4 σ q hF; rw [f_X12_tryCouples_L63] at hF; cases hF
  | succ n ih =>
    intro x1 x2 x3 x4 σ q hF hx
    rw [f_X12_tryCouples_L63] at hF
    refine b_iload (pc := 63) C dX12_tryCouples_63 4 rfl ?_
    refine b_aload_n (pc := 65) C dX12_tryCouples_65 rfl 0 rfl ?_
    refine b_getS (pc := 66) C dX12_tryCouples_66 fl_X12_20 (Hh.1 _ _ sh_92) rfl ?_
    refine b_iconst (pc := 69) C dX12_tryCouples_69 ic_4 ?_
    refine b_ialdK (pc := 70) C dX12_tryCouples_70 (Hh.1 _ _ sh_95) tn_4 (by decide) ?_
    refine b_icmp_ge (tgt := 155) (pc := 71) C dX12_tryCouples_71 rfl (fun hc1 => ?_) (fun hc1 => ?_)
    · rw [if_pos hc1] at hF
      exact b_sub [0, 1, 2, 3] rfl (hx _ _ _ _ (Option.some.inj hF).symm )
    · rw [if_neg hc1] at hF
      refine b_iload_n (pc := 74) C dX12_tryCouples_74 rfl 2 rfl ?_
      refine b_iload (pc := 75) C dX12_tryCouples_75 4 rfl ?_
      obtain ⟨v4, σ3, hc2, hF⟩ := bbd_e hF
      refine b_cS2i (d' := (d + 1)) (pc := 77) C dX12_tryCouples_77 mm_X12_281 (Nat.le_of_ble_eq_true rfl) (by omega) (Hh.2.2 _ _ _ _ _ _ _ _ _ (lvl_eq (by omega) (e_X12_hasBit (d + 1) x2 x4 _ _ _ hc2))) ?_
      refine b_if_ne (tgt := 149) (pc := 80) C dX12_tryCouples_80 rfl (fun hc5 => ?_) (fun hc5 => ?_)
      · rw [if_neg hc5] at hF
        obtain ⟨x4_6, e7, hF⟩ := blet_e hF
        refine b_iinc (L' := [(4, .int x4_6), (0, .ref 92), (1, .int x1), (2, .int x2), (3, .int x3)]) (pc := 149) C dX12_tryCouples_149 4 rfl ic_1 e7 (Hh.2.1 _ (Nat.le_of_ble_eq_true rfl)) rfl ?_
        refine b_goto (tgt := 63) (pc := 152) C dX12_tryCouples_152 rfl ?_
        exact b_sub [1, 2, 3, 4, 0] rfl (ih x1 x2 x3 x4_6 _ _ hF hx)
      · rw [if_pos hc5] at hF
        refine b_aload_n (pc := 83) C dX12_tryCouples_83 rfl 0 rfl ?_
        refine b_iload_n (pc := 84) C dX12_tryCouples_84 rfl 1 rfl ?_
        refine b_iload (pc := 85) C dX12_tryCouples_85 4 rfl ?_
        obtain ⟨v10, σ9, hc8, hF⟩ := bbd_e hF
        refine b_cV2i (d' := (d + 1)) (pc := 87) C dX12_tryCouples_87 mm_X12_367 (Hh.1 _ _ sh_92) rfl (Nat.le_of_ble_eq_true rfl) (by omega) (Hh.2.2 _ _ _ _ _ _ _ _ _ (lvl_eq (by omega) (e_X12_canMarry (d + 0) x1 x4 _ _ _ hc8))) ?_
        refine b_if_ne (tgt := 96) (pc := 90) C dX12_tryCouples_90 rfl (fun hc11 => ?_) (fun hc11 => ?_)
        · rw [if_neg hc11] at hF
          refine b_aload_n (pc := 96) C dX12_tryCouples_96 rfl 0 rfl ?_
          refine b_getS (pc := 97) C dX12_tryCouples_97 fl_X12_47 (Hh.1 _ _ sh_92) rfl ?_
          refine b_iload_n (pc := 100) C dX12_tryCouples_100 rfl 1 rfl ?_
          refine b_iload (pc := 101) C dX12_tryCouples_101 4 rfl ?_
          obtain ⟨hb14, hF⟩ := bif_n hF
          obtain ⟨σ12, e13, hF⟩ := blet_e hF
          refine b_iast (pc := 103) C dX12_tryCouples_103 (Hh.1 _ _ sh_104) hb14 e13 ?_
          refine b_aload_n (pc := 104) C dX12_tryCouples_104 rfl 0 rfl ?_
          refine b_getS (pc := 105) C dX12_tryCouples_105 fl_X12_47 (Hh.1 _ _ sh_92) rfl ?_
          refine b_iload (pc := 108) C dX12_tryCouples_108 4 rfl ?_
          refine b_iload_n (pc := 110) C dX12_tryCouples_110 rfl 1 rfl ?_
          obtain ⟨hb17, hF⟩ := bif_n hF
          obtain ⟨σ15, e16, hF⟩ := blet_e hF
          refine b_iast (pc := 111) C dX12_tryCouples_111 (Hh.1 _ _ sh_104) hb17 e16 ?_
          refine b_aload_n (pc := 112) C dX12_tryCouples_112 rfl 0 rfl ?_
          refine b_iload_n (pc := 113) C dX12_tryCouples_113 rfl 1 rfl ?_
          refine b_iconst (pc := 114) C dX12_tryCouples_114 ic_1 ?_
          refine b_iadd (pc := 115) C dX12_tryCouples_115 ?_
          refine b_iload_n (pc := 116) C dX12_tryCouples_116 rfl 2 rfl ?_
          refine b_iconst (pc := 117) C dX12_tryCouples_117 ic_1 ?_
          refine b_iload_n (pc := 118) C dX12_tryCouples_118 rfl 1 rfl ?_
          refine b_ishl (pc := 119) C dX12_tryCouples_119 ?_
          refine b_ior (pc := 120) C dX12_tryCouples_120 ?_
          refine b_iconst (pc := 121) C dX12_tryCouples_121 ic_1 ?_
          refine b_iload (pc := 122) C dX12_tryCouples_122 4 rfl ?_
          refine b_ishl (pc := 124) C dX12_tryCouples_124 ?_
          refine b_ior (pc := 125) C dX12_tryCouples_125 ?_
          refine b_iload_n (pc := 126) C dX12_tryCouples_126 rfl 3 rfl ?_
          refine b_iconst (pc := 127) C dX12_tryCouples_127 ic_1 ?_
          refine b_iadd (pc := 128) C dX12_tryCouples_128 ?_
          obtain ⟨σ19, hc18, hF⟩ := bbv_e hF
          refine b_cV3v (d' := (d + 1)) (pc := 129) C dX12_tryCouples_129 mm_X12_363 (Hh.1 _ _ sh_92) rfl (Nat.le_of_ble_eq_true rfl) (by omega) (Hh.2.2 _ _ _ _ _ _ _ _ _ (hg _ _ _ _ _ hc18)) ?_
          refine b_aload_n (pc := 132) C dX12_tryCouples_132 rfl 0 rfl ?_
          refine b_getS (pc := 133) C dX12_tryCouples_133 fl_X12_47 (Hh.1 _ _ sh_92) rfl ?_
          refine b_iload_n (pc := 136) C dX12_tryCouples_136 rfl 1 rfl ?_
          refine b_bipush (pc := 137) C dX12_tryCouples_137 bp_m2 ?_
          obtain ⟨hb22, hF⟩ := bif_n hF
          obtain ⟨σ20, e21, hF⟩ := blet_e hF
          refine b_iast (pc := 139) C dX12_tryCouples_139 (Hh.1 _ _ sh_104) hb22 e21 ?_
          refine b_aload_n (pc := 140) C dX12_tryCouples_140 rfl 0 rfl ?_
          refine b_getS (pc := 141) C dX12_tryCouples_141 fl_X12_47 (Hh.1 _ _ sh_92) rfl ?_
          refine b_iload (pc := 144) C dX12_tryCouples_144 4 rfl ?_
          refine b_bipush (pc := 146) C dX12_tryCouples_146 bp_m2 ?_
          obtain ⟨hb25, hF⟩ := bif_n hF
          obtain ⟨σ23, e24, hF⟩ := blet_e hF
          refine b_iast (pc := 148) C dX12_tryCouples_148 (Hh.1 _ _ sh_104) hb25 e24 ?_
          obtain ⟨x4_26, e27, hF⟩ := blet_e hF
          refine b_iinc (L' := [(4, .int x4_26), (0, .ref 92), (1, .int x1), (2, .int x2), (3, .int x3)]) (pc := 149) C dX12_tryCouples_149 4 rfl ic_1 e27 (Hh.2.1 _ (Nat.le_of_ble_eq_true rfl)) rfl ?_
          refine b_goto (tgt := 63) (pc := 152) C dX12_tryCouples_152 rfl ?_
          exact b_sub [1, 2, 3, 4, 0] rfl (ih x1 x2 x3 x4_26 _ _ hF hx)
        · rw [if_pos hc11] at hF
          refine b_goto (tgt := 149) (pc := 93) C dX12_tryCouples_93 rfl ?_
          obtain ⟨x4_28, e29, hF⟩ := blet_e hF
          refine b_iinc (L' := [(4, .int x4_28), (0, .ref 92), (1, .int x1), (2, .int x2), (3, .int x3)]) (pc := 149) C dX12_tryCouples_149 4 rfl ic_1 e29 (Hh.2.1 _ (Nat.le_of_ble_eq_true rfl)) rfl ?_
          refine b_goto (tgt := 63) (pc := 152) C dX12_tryCouples_152 rfl ?_
          exact b_sub [1, 2, 3, 4, 0] rfl (ih x1 x2 x3 x4_28 _ _ hF hx)
set_option maxHeartbeats 4000000 in
set_option maxRecDepth 20000 in
theorem e_X12_tryCouples_0 {X : bX} {l : Launch} {G : bG} {ρ : Nat → Nat} {A : Nat → Prop} {d : Nat} {σ' : bSto} {g : Int32 → Int32 → Int32 → bSto → Option bSto} (C : bCX X cX12_tryCouples RX12 (d + 2)) (Hh : bH X l G bSHf ρ A 5) (Rt : bRX X none none σ') (hg : ∀ (y1 : Int32) (y2 : Int32) (y3 : Int32) (σ : bSto) (σ2 : bSto), g y1 y2 y3 σ = some σ2 → bEv l G bSHf ρ A yX12_tryCouples cX12_tryCouples 5 none (d + 1) [.ref 92, .int y1, .int y2, .int y3] σ none σ2) (x1 : Int32) (x2 : Int32) (x3 : Int32) (σ : bSto) (hF : f_X12_tryCouples_B g x1 x2 x3 σ = some σ') : bAJ X 0 [(0, .ref 92), (1, .int x1), (2, .int x2), (3, .int x3)] [] σ := by
  rw [f_X12_tryCouples_B] at hF
  refine b_iload_n (pc := 0) C dX12_tryCouples_0 rfl 1 rfl ?_
  refine b_aload_n (pc := 1) C dX12_tryCouples_1 rfl 0 rfl ?_
  refine b_getS (pc := 2) C dX12_tryCouples_2 fl_X12_20 (Hh.1 _ _ sh_92) rfl ?_
  refine b_iconst (pc := 5) C dX12_tryCouples_5 ic_4 ?_
  refine b_ialdK (pc := 6) C dX12_tryCouples_6 (Hh.1 _ _ sh_95) tn_4 (by decide) ?_
  refine b_icmp_ne (tgt := 40) (pc := 7) C dX12_tryCouples_7 rfl (fun hc1 => ?_) (fun hc1 => ?_)
  · rw [if_neg hc1] at hF
    refine b_iload_n (pc := 40) C dX12_tryCouples_40 rfl 2 rfl ?_
    refine b_iload_n (pc := 41) C dX12_tryCouples_41 rfl 1 rfl ?_
    obtain ⟨v4, σ3, hc2, hF⟩ := bbd_e hF
    refine b_cS2i (d' := (d + 1)) (pc := 42) C dX12_tryCouples_42 mm_X12_281 (Nat.le_of_ble_eq_true rfl) (by omega) (Hh.2.2 _ _ _ _ _ _ _ _ _ (lvl_eq (by omega) (e_X12_hasBit (d + 1) x2 x1 _ _ _ hc2))) ?_
    refine b_if_eq (tgt := 58) (pc := 45) C dX12_tryCouples_45 rfl (fun hc5 => ?_) (fun hc5 => ?_)
    · rw [if_pos hc5] at hF
      refine b_iload_n (pc := 58) C dX12_tryCouples_58 rfl 1 rfl ?_
      refine b_iconst (pc := 59) C dX12_tryCouples_59 ic_1 ?_
      refine b_iadd (pc := 60) C dX12_tryCouples_60 ?_
      obtain ⟨x4_6, e7, hF⟩ := blet_e hF
      refine b_istore (L' := [(4, .int x4_6), (0, .ref 92), (1, .int x1), (2, .int x2), (3, .int x3)]) (pc := 61) C dX12_tryCouples_61 e7 (Hh.2.1 _ (Nat.le_of_ble_eq_true rfl)) rfl ?_
      obtain ⟨x1_8, x2_8, x3_8, σ9, hq8, hF⟩ := bl3_e hF
      refine b_sub [1, 2, 3, 4, 0] rfl (e_X12_tryCouples_L63 C Hh Rt hg bFU x1 x2 x3 x4_6 _ _ hq8 (fun _ _ _ _ e  => ?_))
      cases e
      refine b_aload_n (pc := 155) C dX12_tryCouples_155 rfl 0 rfl ?_
      refine b_iload_n (pc := 156) C dX12_tryCouples_156 rfl 1 rfl ?_
      refine b_iconst (pc := 157) C dX12_tryCouples_157 ic_1 ?_
      refine b_iadd (pc := 158) C dX12_tryCouples_158 ?_
      refine b_iload_n (pc := 159) C dX12_tryCouples_159 rfl 2 rfl ?_
      refine b_iload_n (pc := 160) C dX12_tryCouples_160 rfl 3 rfl ?_
      obtain ⟨σ11, hc10, hF⟩ := bbv_e hF
      refine b_cV3v (d' := (d + 1)) (pc := 161) C dX12_tryCouples_161 mm_X12_363 (Hh.1 _ _ sh_92) rfl (Nat.le_of_ble_eq_true rfl) (by omega) (Hh.2.2 _ _ _ _ _ _ _ _ _ (hg _ _ _ _ _ hc10)) ?_
      exact b_vret (pc := 164) C Rt dX12_tryCouples_164 hF
    · rw [if_neg hc5] at hF
      refine b_aload_n (pc := 48) C dX12_tryCouples_48 rfl 0 rfl ?_
      refine b_iload_n (pc := 49) C dX12_tryCouples_49 rfl 1 rfl ?_
      refine b_iconst (pc := 50) C dX12_tryCouples_50 ic_1 ?_
      refine b_iadd (pc := 51) C dX12_tryCouples_51 ?_
      refine b_iload_n (pc := 52) C dX12_tryCouples_52 rfl 2 rfl ?_
      refine b_iload_n (pc := 53) C dX12_tryCouples_53 rfl 3 rfl ?_
      obtain ⟨σ13, hc12, hF⟩ := bbv_e hF
      refine b_cV3v (d' := (d + 1)) (pc := 54) C dX12_tryCouples_54 mm_X12_363 (Hh.1 _ _ sh_92) rfl (Nat.le_of_ble_eq_true rfl) (by omega) (Hh.2.2 _ _ _ _ _ _ _ _ _ (hg _ _ _ _ _ hc12)) ?_
      exact b_vret (pc := 57) C Rt dX12_tryCouples_57 hF
  · rw [if_pos hc1] at hF
    refine b_iload_n (pc := 10) C dX12_tryCouples_10 rfl 3 rfl ?_
    refine b_aload_n (pc := 11) C dX12_tryCouples_11 rfl 0 rfl ?_
    refine b_getI (pc := 12) C dX12_tryCouples_12 fl_X12_360 (Hh.1 _ _ sh_92) rfl ?_
    refine b_icmp_gt (tgt := 19) (pc := 15) C dX12_tryCouples_15 rfl (fun hc14 => ?_) (fun hc14 => ?_)
    · rw [if_pos hc14] at hF
      refine b_aload_n (pc := 19) C dX12_tryCouples_19 rfl 0 rfl ?_
      refine b_iload_n (pc := 20) C dX12_tryCouples_20 rfl 3 rfl ?_
      obtain ⟨σ15, e16, hF⟩ := blet_e hF
      refine b_putI (pc := 21) C dX12_tryCouples_21 fp_X12_360 (Hh.1 _ _ sh_92) rfl rfl rfl e16 ?_
      refine b_aload_n (pc := 24) C dX12_tryCouples_24 rfl 0 rfl ?_
      refine b_getS (pc := 25) C dX12_tryCouples_25 fl_X12_47 (Hh.1 _ _ sh_92) rfl ?_
      refine b_iconst (pc := 28) C dX12_tryCouples_28 ic_0 ?_
      refine b_aload_n (pc := 29) C dX12_tryCouples_29 rfl 0 rfl ?_
      refine b_getS (pc := 30) C dX12_tryCouples_30 fl_X12_50 (Hh.1 _ _ sh_92) rfl ?_
      refine b_iconst (pc := 33) C dX12_tryCouples_33 ic_0 ?_
      refine b_bipush (pc := 34) C dX12_tryCouples_34 bp_7 ?_
      obtain ⟨σ18, hc17, hF⟩ := bbv_e hF
      refine b_cS5v (d' := (d + 1)) (pc := 36) C dX12_tryCouples_36 mm_X12_190 (Nat.le_of_ble_eq_true rfl) (by omega) (Hh.2.2 _ _ _ _ _ _ _ _ _ (lvl_eq (by omega) (e_X12_copy (d + 1) _ (show kIA 104 from sh_104) (0 : Int32) _ (show kIA 105 from sh_105) (0 : Int32) (7 : Int32) _ _ hc17))) ?_
      exact b_vret (pc := 39) C Rt dX12_tryCouples_39 hF
    · rw [if_neg hc14] at hF
      exact b_vret (pc := 18) C Rt dX12_tryCouples_18 hF
set_option maxHeartbeats 4000000 in
set_option maxRecDepth 20000 in
theorem e_X12_tryCouples {l : Launch} {G : bG} {ρ : Nat → Nat} {A : Nat → Prop} : ∀ (n d : Nat) (x1 : Int32) (x2 : Int32) (x3 : Int32) (σ : bSto) (σ' : bSto), f_X12_tryCouples n x1 x2 x3 σ = some σ' → bEv l G bSHf ρ A yX12_tryCouples cX12_tryCouples 5 none (d + n + 1) [.ref 92, .int x1, .int x2, .int x3] σ none σ' := by
  intro n
  induction n with
  | zero => intro d x1 x2 x3 σ σ' hF; rw [f_X12_tryCouples] at hF; cases hF
  | succ n ih =>
    intro d x1 x2 x3 σ σ' hF
    rw [f_X12_tryCouples] at hF
    rw [show (d + (n + 1) + 1) = (d + n) + 2 by omega]
    exact b_met (d := (d + n) + 2) (by decide +kernel) (Nat.le_of_ble_eq_true rfl) rfl (fun X C Rt h1 h2 h3 => e_X12_tryCouples_0 C ⟨fun o q h => by rw [h1]; exact h, fun i h => by rw [h2]; exact h, h3⟩ Rt (fun _ _ _ _ _ h => ih d _ _ _ _ _ h) _ _ _ _ hF)
/-! BenchColonyModel.seekCouples -/
def f_X12_seekCouples_L7 : Nat → Int32 → bSto → Option (bSto)
  | 0, _, _ => none
  | n + 1, x1, σ => (if (7 : Int32) ≤ x1 then some σ else if x1 < 0 ∨ 7 ≤ x1.toNatClampNeg then none else blet (bI σ 104 x1.toNatClampNeg (-2 : Int32)) (fun σ2 => blet (x1 + (1 : Int32)) (fun x1_5 => f_X12_seekCouples_L7 n x1_5 σ2)))
def f_X12_seekCouples  (σ : bSto) : Option (Int32 × bSto) := blet (bI σ 92 30 (-1 : Int32)) (fun σ1 => bl0 (f_X12_seekCouples_L7 bFU (0 : Int32) σ1) (fun σ4 => bbv (f_X12_tryCouples 20 (0 : Int32) (0 : Int32) (0 : Int32) σ4) (fun σ6 => some ((σ6.1 92 30), σ6))))
set_option maxHeartbeats 4000000 in
set_option maxRecDepth 20000 in
theorem e_X12_seekCouples_L7 {X : bX} {l : Launch} {G : bG} {ρ : Nat → Nat} {A : Nat → Prop} {d : Nat} {r : Int32} {σ' : bSto} (C : bCX X cX12_seekCouples RX12 (d + 22)) (Hh : bH X l G bSHf ρ A 2) (Rt : bRX X (some .int) (some (.int r)) σ') : ∀ (n : Nat) (x1 : Int32) (σ : bSto) (q : (bSto)), f_X12_seekCouples_L7 n x1 σ = some q → (∀  (s : bSto), q = s → bAJ X 27 [(0, .ref 92)] [] s) → bAJ X 7 [(0, .ref 92), (1, .int x1)] [] σ := by
  intro n
  induction n with
  | zero => intro x1 σ q hF; rw [f_X12_seekCouples_L7] at hF; cases hF
  | succ n ih =>
    intro x1 σ q hF hx
    rw [f_X12_seekCouples_L7] at hF
    refine b_iload_n (pc := 7) C dX12_seekCouples_7 rfl 1 rfl ?_
    refine b_bipush (pc := 8) C dX12_seekCouples_8 bp_7 ?_
    refine b_icmp_ge (tgt := 27) (pc := 10) C dX12_seekCouples_10 rfl (fun hc1 => ?_) (fun hc1 => ?_)
    · rw [if_pos hc1] at hF
      exact b_sub [0] rfl (hx  _ (Option.some.inj hF).symm )
    · rw [if_neg hc1] at hF
      refine b_aload_n (pc := 13) C dX12_seekCouples_13 rfl 0 rfl ?_
      refine b_getS (pc := 14) C dX12_seekCouples_14 fl_X12_47 (Hh.1 _ _ sh_92) rfl ?_
      refine b_iload_n (pc := 17) C dX12_seekCouples_17 rfl 1 rfl ?_
      refine b_bipush (pc := 18) C dX12_seekCouples_18 bp_m2 ?_
      obtain ⟨hb4, hF⟩ := bif_n hF
      obtain ⟨σ2, e3, hF⟩ := blet_e hF
      refine b_iast (pc := 20) C dX12_seekCouples_20 (Hh.1 _ _ sh_104) hb4 e3 ?_
      obtain ⟨x1_5, e6, hF⟩ := blet_e hF
      refine b_iinc (L' := [(1, .int x1_5), (0, .ref 92)]) (pc := 21) C dX12_seekCouples_21 1 rfl ic_1 e6 (Hh.2.1 _ (Nat.le_of_ble_eq_true rfl)) rfl ?_
      refine b_goto (tgt := 7) (pc := 24) C dX12_seekCouples_24 rfl ?_
      exact b_sub [1, 0] rfl (ih x1_5 _ _ hF hx)
set_option maxHeartbeats 4000000 in
set_option maxRecDepth 20000 in
theorem e_X12_seekCouples_0 {X : bX} {l : Launch} {G : bG} {ρ : Nat → Nat} {A : Nat → Prop} {d : Nat} {r : Int32} {σ' : bSto} (C : bCX X cX12_seekCouples RX12 (d + 22)) (Hh : bH X l G bSHf ρ A 2) (Rt : bRX X (some .int) (some (.int r)) σ')  (σ : bSto) (hF : f_X12_seekCouples  σ = some (r, σ')) : bAJ X 0 [(0, .ref 92)] [] σ := by
  rw [f_X12_seekCouples] at hF
  refine b_aload_n (pc := 0) C dX12_seekCouples_0 rfl 0 rfl ?_
  refine b_iconst (pc := 1) C dX12_seekCouples_1 ic_m1 ?_
  obtain ⟨σ1, e2, hF⟩ := blet_e hF
  refine b_putI (pc := 2) C dX12_seekCouples_2 fp_X12_360 (Hh.1 _ _ sh_92) rfl rfl rfl e2 ?_
  refine b_iconst (pc := 5) C dX12_seekCouples_5 ic_0 ?_
  refine b_istore_n (L' := [(1, .int (0 : Int32)), (0, .ref 92)]) (pc := 6) C dX12_seekCouples_6 rfl rfl (Hh.2.1 _ (Nat.le_of_ble_eq_true rfl)) rfl ?_
  obtain ⟨σ4, hq3, hF⟩ := bl0_e hF
  refine b_sub [1, 0] rfl (e_X12_seekCouples_L7 C Hh Rt bFU (0 : Int32) _ _ hq3 (fun  _ e  => ?_))
  cases e
  refine b_aload_n (pc := 27) C dX12_seekCouples_27 rfl 0 rfl ?_
  refine b_iconst (pc := 28) C dX12_seekCouples_28 ic_0 ?_
  refine b_iconst (pc := 29) C dX12_seekCouples_29 ic_0 ?_
  refine b_iconst (pc := 30) C dX12_seekCouples_30 ic_0 ?_
  obtain ⟨σ6, hc5, hF⟩ := bbv_e hF
  refine b_cV3v (d' := (d + 21)) (pc := 31) C dX12_seekCouples_31 mm_X12_363 (Hh.1 _ _ sh_92) rfl (Nat.le_of_ble_eq_true rfl) (by omega) (Hh.2.2 _ _ _ _ _ _ _ _ _ (lvl_eq (by omega) (e_X12_tryCouples 20 (d + 0) (0 : Int32) (0 : Int32) (0 : Int32) _ _ hc5))) ?_
  refine b_aload_n (pc := 34) C dX12_seekCouples_34 rfl 0 rfl ?_
  refine b_getI (pc := 35) C dX12_seekCouples_35 fl_X12_360 (Hh.1 _ _ sh_92) rfl ?_
  exact b_iret (pc := 38) C Rt dX12_seekCouples_38 hF
set_option maxHeartbeats 4000000 in
set_option maxRecDepth 20000 in
theorem e_X12_seekCouples {l : Launch} {G : bG} {ρ : Nat → Nat} {A : Nat → Prop} (d : Nat)  (σ : bSto) (r : Int32) (σ' : bSto) (hF : f_X12_seekCouples  σ = some (r, σ')) : bEv l G bSHf ρ A yX12_seekCouples cX12_seekCouples 2 (some .int) (d + 22) [.ref 92] σ (some (.int r)) σ' := b_met (d := d + 22) (by decide +kernel) (Nat.le_of_ble_eq_true rfl) rfl (fun X C Rt h1 h2 h3 => e_X12_seekCouples_0 C ⟨fun o q h => by rw [h1]; exact h, fun i h => by rw [h2]; exact h, h3⟩ Rt  _ hF)
/-! BenchColonyModel.couples -/
def f_X12_couples  (σ : bSto) : Option (Int32 × bSto) := bbv (f_X12_good  σ) (fun σ2 => (if (σ2.1 92 14) = 0 then bbd (f_X12_no (1 : Int32) σ2) (fun v6 σ5 => some (v6, σ5)) else bbd (f_X12_seekCouples  σ2) (fun v9 σ8 => some (v9, σ8))))
set_option maxHeartbeats 4000000 in
set_option maxRecDepth 20000 in
theorem e_X12_couples_0 {X : bX} {l : Launch} {G : bG} {ρ : Nat → Nat} {A : Nat → Prop} {d : Nat} {r : Int32} {σ' : bSto} (C : bCX X cX12_couples RX12 (d + 23)) (Hh : bH X l G bSHf ρ A 1) (Rt : bRX X (some .int) (some (.int r)) σ')  (σ : bSto) (hF : f_X12_couples  σ = some (r, σ')) : bAJ X 0 [(0, .ref 92)] [] σ := by
  rw [f_X12_couples] at hF
  refine b_aload_n (pc := 0) C dX12_couples_0 rfl 0 rfl ?_
  obtain ⟨σ2, hc1, hF⟩ := bbv_e hF
  refine b_cV0v (d' := (d + 22)) (pc := 1) C dX12_couples_1 mm_X12_181 (Hh.1 _ _ sh_92) rfl (Nat.le_of_ble_eq_true rfl) (by omega) (Hh.2.2 _ _ _ _ _ _ _ _ _ (lvl_eq (by omega) (e_X12_good (d + 22)  _ _ hc1))) ?_
  refine b_aload_n (pc := 4) C dX12_couples_4 rfl 0 rfl ?_
  refine b_getI (pc := 5) C dX12_couples_5 fl_X12_194 (Hh.1 _ _ sh_92) rfl ?_
  refine b_if_eq (tgt := 18) (pc := 8) C dX12_couples_8 rfl (fun hc3 => ?_) (fun hc3 => ?_)
  · rw [if_pos hc3] at hF
    refine b_aload_n (pc := 18) C dX12_couples_18 rfl 0 rfl ?_
    refine b_iconst (pc := 19) C dX12_couples_19 ic_1 ?_
    obtain ⟨v6, σ5, hc4, hF⟩ := bbd_e hF
    refine b_cV1i (d' := (d + 22)) (pc := 20) C dX12_couples_20 mm_X12_184 (Hh.1 _ _ sh_92) rfl (Nat.le_of_ble_eq_true rfl) (by omega) (Hh.2.2 _ _ _ _ _ _ _ _ _ (lvl_eq (by omega) (e_X12_no (d + 22) (1 : Int32) _ _ _ hc4))) ?_
    exact b_iret (pc := 23) C Rt dX12_couples_23 hF
  · rw [if_neg hc3] at hF
    refine b_aload_n (pc := 11) C dX12_couples_11 rfl 0 rfl ?_
    obtain ⟨v9, σ8, hc7, hF⟩ := bbd_e hF
    refine b_cV0i (d' := (d + 22)) (pc := 12) C dX12_couples_12 mm_X12_370 (Hh.1 _ _ sh_92) rfl (Nat.le_of_ble_eq_true rfl) (by omega) (Hh.2.2 _ _ _ _ _ _ _ _ _ (lvl_eq (by omega) (e_X12_seekCouples (d + 0)  _ _ _ hc7))) ?_
    refine b_goto (tgt := 23) (pc := 15) C dX12_couples_15 rfl ?_
    exact b_iret (pc := 23) C Rt dX12_couples_23 hF
set_option maxHeartbeats 4000000 in
set_option maxRecDepth 20000 in
theorem e_X12_couples {l : Launch} {G : bG} {ρ : Nat → Nat} {A : Nat → Prop} (d : Nat)  (σ : bSto) (r : Int32) (σ' : bSto) (hF : f_X12_couples  σ = some (r, σ')) : bEv l G bSHf ρ A yX12_couples cX12_couples 1 (some .int) (d + 23) [.ref 92] σ (some (.int r)) σ' := b_met (d := d + 23) (by decide +kernel) (Nat.le_of_ble_eq_true rfl) rfl (fun X C Rt h1 h2 h3 => e_X12_couples_0 C ⟨fun o q h => by rw [h1]; exact h, fun i h => by rw [h2]; exact h, h3⟩ Rt  _ hF)
/-! BenchColonyModel.spouse -/
def f_X12_spouse (x1 : Int32) (σ : bSto) : Option (Int32 × bSto) := bbv (f_X12_good  σ) (fun σ2 => bbd (f_X12_isPerson x1 σ2) (fun v5 σ4 => (if v5 = 0 then bbd (f_X12_no (1 : Int32) σ4) (fun v13 σ12 => some (v13, σ12)) else bbd (f_X12_seekCouples  σ4) (fun v9 σ8 => if x1 < 0 ∨ 7 ≤ x1.toNatClampNeg then none else some ((σ8.1 105 x1.toNatClampNeg), σ8)))))
set_option maxHeartbeats 4000000 in
set_option maxRecDepth 20000 in
theorem e_X12_spouse_0 {X : bX} {l : Launch} {G : bG} {ρ : Nat → Nat} {A : Nat → Prop} {d : Nat} {r : Int32} {σ' : bSto} (C : bCX X cX12_spouse RX12 (d + 23)) (Hh : bH X l G bSHf ρ A 2) (Rt : bRX X (some .int) (some (.int r)) σ') (x1 : Int32) (σ : bSto) (hF : f_X12_spouse x1 σ = some (r, σ')) : bAJ X 0 [(0, .ref 92), (1, .int x1)] [] σ := by
  rw [f_X12_spouse] at hF
  refine b_aload_n (pc := 0) C dX12_spouse_0 rfl 0 rfl ?_
  obtain ⟨σ2, hc1, hF⟩ := bbv_e hF
  refine b_cV0v (d' := (d + 22)) (pc := 1) C dX12_spouse_1 mm_X12_181 (Hh.1 _ _ sh_92) rfl (Nat.le_of_ble_eq_true rfl) (by omega) (Hh.2.2 _ _ _ _ _ _ _ _ _ (lvl_eq (by omega) (e_X12_good (d + 22)  _ _ hc1))) ?_
  refine b_aload_n (pc := 4) C dX12_spouse_4 rfl 0 rfl ?_
  refine b_iload_n (pc := 5) C dX12_spouse_5 rfl 1 rfl ?_
  obtain ⟨v5, σ4, hc3, hF⟩ := bbd_e hF
  refine b_cV1i (d' := (d + 22)) (pc := 6) C dX12_spouse_6 mm_X12_318 (Hh.1 _ _ sh_92) rfl (Nat.le_of_ble_eq_true rfl) (by omega) (Hh.2.2 _ _ _ _ _ _ _ _ _ (lvl_eq (by omega) (e_X12_isPerson (d + 21) x1 _ _ _ hc3))) ?_
  refine b_if_ne (tgt := 18) (pc := 9) C dX12_spouse_9 rfl (fun hc6 => ?_) (fun hc6 => ?_)
  · rw [if_neg hc6] at hF
    refine b_aload_n (pc := 18) C dX12_spouse_18 rfl 0 rfl ?_
    obtain ⟨v9, σ8, hc7, hF⟩ := bbd_e hF
    refine b_cV0i (d' := (d + 22)) (pc := 19) C dX12_spouse_19 mm_X12_370 (Hh.1 _ _ sh_92) rfl (Nat.le_of_ble_eq_true rfl) (by omega) (Hh.2.2 _ _ _ _ _ _ _ _ _ (lvl_eq (by omega) (e_X12_seekCouples (d + 0)  _ _ _ hc7))) ?_
    refine b_pop (pc := 22) C dX12_spouse_22 rfl ?_
    refine b_aload_n (pc := 23) C dX12_spouse_23 rfl 0 rfl ?_
    refine b_getS (pc := 24) C dX12_spouse_24 fl_X12_50 (Hh.1 _ _ sh_92) rfl ?_
    refine b_iload_n (pc := 27) C dX12_spouse_27 rfl 1 rfl ?_
    obtain ⟨hb10, hF⟩ := bif_n hF
    refine b_iald (pc := 28) C dX12_spouse_28 (Hh.1 _ _ sh_105) hb10 ?_
    exact b_iret (pc := 29) C Rt dX12_spouse_29 hF
  · rw [if_pos hc6] at hF
    refine b_aload_n (pc := 12) C dX12_spouse_12 rfl 0 rfl ?_
    refine b_iconst (pc := 13) C dX12_spouse_13 ic_1 ?_
    obtain ⟨v13, σ12, hc11, hF⟩ := bbd_e hF
    refine b_cV1i (d' := (d + 22)) (pc := 14) C dX12_spouse_14 mm_X12_184 (Hh.1 _ _ sh_92) rfl (Nat.le_of_ble_eq_true rfl) (by omega) (Hh.2.2 _ _ _ _ _ _ _ _ _ (lvl_eq (by omega) (e_X12_no (d + 22) (1 : Int32) _ _ _ hc11))) ?_
    exact b_iret (pc := 17) C Rt dX12_spouse_17 hF
set_option maxHeartbeats 4000000 in
set_option maxRecDepth 20000 in
theorem e_X12_spouse {l : Launch} {G : bG} {ρ : Nat → Nat} {A : Nat → Prop} (d : Nat) (x1 : Int32) (σ : bSto) (r : Int32) (σ' : bSto) (hF : f_X12_spouse x1 σ = some (r, σ')) : bEv l G bSHf ρ A yX12_spouse cX12_spouse 2 (some .int) (d + 23) [.ref 92, .int x1] σ (some (.int r)) σ' := b_met (d := d + 23) (by decide +kernel) (Nat.le_of_ble_eq_true rfl) rfl (fun X C Rt h1 h2 h3 => e_X12_spouse_0 C ⟨fun o q h => by rw [h1]; exact h, fun i h => by rw [h2]; exact h, h3⟩ Rt _ _ hF)
/-! BenchColonyModel.mayMarry -/
def f_X12_mayMarry_J49_22 (k : Int32 → Int32 → Int32 → bSto → Option (Int32 × bSto)) (x1 : Int32) (x3 : Int32) (s0 : Int32) (s1 : Int32) (σ : bSto) : Option (Int32 × bSto) := blet (s0 ||| s1) (fun x2_1 => blet (x3 + (1 : Int32)) (fun x3_3 => k x1 x2_1 x3_3 σ))
def f_X12_mayMarry_L22 : Nat → Int32 → Int32 → Int32 → bSto → Option (Int32 × bSto)
  | 0, _, _, _, _ => none
  | n + 1, x1, x2, x3, σ => (if (σ.1 95 4) ≤ x3 then some (x2, σ) else bbd (f_X12_canMarry x1 x3 σ) (fun v4 σ3 => (if v4 = 0 then f_X12_mayMarry_J49_22 (f_X12_mayMarry_L22 n) x1 x3 x2 (0 : Int32) σ3 else f_X12_mayMarry_J49_22 (f_X12_mayMarry_L22 n) x1 x3 x2 ((1 : Int32) <<< (x3 &&& 31)) σ3)))
def f_X12_mayMarry (x1 : Int32) (σ : bSto) : Option (Int32 × bSto) := bbv (f_X12_good  σ) (fun σ2 => bbd (f_X12_isPerson x1 σ2) (fun v5 σ4 => (if v5 = 0 then bbd (f_X12_no (1 : Int32) σ4) (fun v11 σ10 => some (v11, σ10)) else bl1 (f_X12_mayMarry_L22 bFU x1 (0 : Int32) (0 : Int32) σ4) (fun x2_7 σ8 => some (x2_7, σ8)))))
set_option maxHeartbeats 4000000 in
set_option maxRecDepth 20000 in
theorem e_X12_mayMarry_J49_22 {X : bX} {l : Launch} {G : bG} {ρ : Nat → Nat} {A : Nat → Prop} {d : Nat} {r : Int32} {σ' : bSto} (C : bCX X cX12_mayMarry RX12 (d + 2)) (Hh : bH X l G bSHf ρ A 4) (Rt : bRX X (some .int) (some (.int r)) σ') {k : Int32 → Int32 → Int32 → bSto → Option (Int32 × bSto)} (ih : ∀ (x1 : Int32) (x2 : Int32) (x3 : Int32) (σ : bSto) (q : (Int32 × bSto)), k x1 x2 x3 σ = some q → (∀ (x2 : Int32) (s : bSto), q = (x2, s) → bAJ X 57 [(2, .int x2)] [] s) → bAJ X 22 [(0, .ref 92), (1, .int x1), (2, .int x2), (3, .int x3)] [] σ) (x1 : Int32) (x3 : Int32) (s0 : Int32) (s1 : Int32) (σ : bSto) (q : (Int32 × bSto)) (hF : f_X12_mayMarry_J49_22 k x1 x3 s0 s1 σ = some q) : (∀ (x2 : Int32) (s : bSto), q = (x2, s) → bAJ X 57 [(2, .int x2)] [] s) → bAJ X 49 [(0, .ref 92), (1, .int x1), (3, .int x3)] [.int s1, .int s0] σ := by
  intro hx
  rw [f_X12_mayMarry_J49_22] at hF
  refine b_ior (pc := 49) C dX12_mayMarry_49 ?_
  obtain ⟨x2_1, e2, hF⟩ := blet_e hF
  refine b_istore_n (L' := [(2, .int x2_1), (0, .ref 92), (1, .int x1), (3, .int x3)]) (pc := 50) C dX12_mayMarry_50 rfl e2 (Hh.2.1 _ (Nat.le_of_ble_eq_true rfl)) rfl ?_
  obtain ⟨x3_3, e4, hF⟩ := blet_e hF
  refine b_iinc (L' := [(3, .int x3_3), (2, .int x2_1), (0, .ref 92), (1, .int x1)]) (pc := 51) C dX12_mayMarry_51 3 rfl ic_1 e4 (Hh.2.1 _ (Nat.le_of_ble_eq_true rfl)) rfl ?_
  refine b_goto (tgt := 22) (pc := 54) C dX12_mayMarry_54 rfl ?_
  exact b_sub [2, 3, 1, 0] rfl (ih x1 x2_1 x3_3 _ _ hF hx)
set_option maxHeartbeats 4000000 in
set_option maxRecDepth 20000 in
theorem e_X12_mayMarry_L22 {X : bX} {l : Launch} {G : bG} {ρ : Nat → Nat} {A : Nat → Prop} {d : Nat} {r : Int32} {σ' : bSto} (C : bCX X cX12_mayMarry RX12 (d + 2)) (Hh : bH X l G bSHf ρ A 4) (Rt : bRX X (some .int) (some (.int r)) σ') : ∀ (n : Nat) (x1 : Int32) (x2 : Int32) (x3 : Int32) (σ : bSto) (q : (Int32 × bSto)), f_X12_mayMarry_L22 n x1 x2 x3 σ = some q → (∀ (x2 : Int32) (s : bSto), q = (x2, s) → bAJ X 57 [(2, .int x2)] [] s) → bAJ X 22 [(0, .ref 92), (1, .int x1), (2, .int x2), (3, .int x3)] [] σ := by
  intro n
  induction n with
  | zero => intro x1 x2 x3 σ q hF; rw [f_X12_mayMarry_L22] at hF; cases hF
  | succ n ih =>
    intro x1 x2 x3 σ q hF hx
    rw [f_X12_mayMarry_L22] at hF
    refine b_iload_n (pc := 22) C dX12_mayMarry_22 rfl 3 rfl ?_
    refine b_aload_n (pc := 23) C dX12_mayMarry_23 rfl 0 rfl ?_
    refine b_getS (pc := 24) C dX12_mayMarry_24 fl_X12_20 (Hh.1 _ _ sh_92) rfl ?_
    refine b_iconst (pc := 27) C dX12_mayMarry_27 ic_4 ?_
    refine b_ialdK (pc := 28) C dX12_mayMarry_28 (Hh.1 _ _ sh_95) tn_4 (by decide) ?_
    refine b_icmp_ge (tgt := 57) (pc := 29) C dX12_mayMarry_29 rfl (fun hc1 => ?_) (fun hc1 => ?_)
    · rw [if_pos hc1] at hF
      exact b_sub [2] rfl (hx _ _ (Option.some.inj hF).symm )
    · rw [if_neg hc1] at hF
      refine b_iload_n (pc := 32) C dX12_mayMarry_32 rfl 2 rfl ?_
      refine b_aload_n (pc := 33) C dX12_mayMarry_33 rfl 0 rfl ?_
      refine b_iload_n (pc := 34) C dX12_mayMarry_34 rfl 1 rfl ?_
      refine b_iload_n (pc := 35) C dX12_mayMarry_35 rfl 3 rfl ?_
      obtain ⟨v4, σ3, hc2, hF⟩ := bbd_e hF
      refine b_cV2i (d' := (d + 1)) (pc := 36) C dX12_mayMarry_36 mm_X12_367 (Hh.1 _ _ sh_92) rfl (Nat.le_of_ble_eq_true rfl) (by omega) (Hh.2.2 _ _ _ _ _ _ _ _ _ (lvl_eq (by omega) (e_X12_canMarry (d + 0) x1 x3 _ _ _ hc2))) ?_
      refine b_if_eq (tgt := 48) (pc := 39) C dX12_mayMarry_39 rfl (fun hc5 => ?_) (fun hc5 => ?_)
      · rw [if_pos hc5] at hF
        refine b_iconst (pc := 48) C dX12_mayMarry_48 ic_0 ?_
        exact b_sub [0, 1, 3] rfl (e_X12_mayMarry_J49_22 C Hh Rt ih x1 x3 x2 (0 : Int32) _ _ hF hx)
      · rw [if_neg hc5] at hF
        refine b_iconst (pc := 42) C dX12_mayMarry_42 ic_1 ?_
        refine b_iload_n (pc := 43) C dX12_mayMarry_43 rfl 3 rfl ?_
        refine b_ishl (pc := 44) C dX12_mayMarry_44 ?_
        refine b_goto (tgt := 49) (pc := 45) C dX12_mayMarry_45 rfl ?_
        exact b_sub [0, 1, 3] rfl (e_X12_mayMarry_J49_22 C Hh Rt ih x1 x3 x2 ((1 : Int32) <<< (x3 &&& 31)) _ _ hF hx)
set_option maxHeartbeats 4000000 in
set_option maxRecDepth 20000 in
theorem e_X12_mayMarry_0 {X : bX} {l : Launch} {G : bG} {ρ : Nat → Nat} {A : Nat → Prop} {d : Nat} {r : Int32} {σ' : bSto} (C : bCX X cX12_mayMarry RX12 (d + 2)) (Hh : bH X l G bSHf ρ A 4) (Rt : bRX X (some .int) (some (.int r)) σ') (x1 : Int32) (σ : bSto) (hF : f_X12_mayMarry x1 σ = some (r, σ')) : bAJ X 0 [(0, .ref 92), (1, .int x1)] [] σ := by
  rw [f_X12_mayMarry] at hF
  refine b_aload_n (pc := 0) C dX12_mayMarry_0 rfl 0 rfl ?_
  obtain ⟨σ2, hc1, hF⟩ := bbv_e hF
  refine b_cV0v (d' := (d + 1)) (pc := 1) C dX12_mayMarry_1 mm_X12_181 (Hh.1 _ _ sh_92) rfl (Nat.le_of_ble_eq_true rfl) (by omega) (Hh.2.2 _ _ _ _ _ _ _ _ _ (lvl_eq (by omega) (e_X12_good (d + 1)  _ _ hc1))) ?_
  refine b_aload_n (pc := 4) C dX12_mayMarry_4 rfl 0 rfl ?_
  refine b_iload_n (pc := 5) C dX12_mayMarry_5 rfl 1 rfl ?_
  obtain ⟨v5, σ4, hc3, hF⟩ := bbd_e hF
  refine b_cV1i (d' := (d + 1)) (pc := 6) C dX12_mayMarry_6 mm_X12_318 (Hh.1 _ _ sh_92) rfl (Nat.le_of_ble_eq_true rfl) (by omega) (Hh.2.2 _ _ _ _ _ _ _ _ _ (lvl_eq (by omega) (e_X12_isPerson (d + 0) x1 _ _ _ hc3))) ?_
  refine b_if_ne (tgt := 18) (pc := 9) C dX12_mayMarry_9 rfl (fun hc6 => ?_) (fun hc6 => ?_)
  · rw [if_neg hc6] at hF
    refine b_iconst (pc := 18) C dX12_mayMarry_18 ic_0 ?_
    refine b_istore_n (L' := [(2, .int (0 : Int32)), (0, .ref 92), (1, .int x1)]) (pc := 19) C dX12_mayMarry_19 rfl rfl (Hh.2.1 _ (Nat.le_of_ble_eq_true rfl)) rfl ?_
    refine b_iconst (pc := 20) C dX12_mayMarry_20 ic_0 ?_
    refine b_istore_n (L' := [(3, .int (0 : Int32)), (2, .int (0 : Int32)), (0, .ref 92), (1, .int x1)]) (pc := 21) C dX12_mayMarry_21 rfl rfl (Hh.2.1 _ (Nat.le_of_ble_eq_true rfl)) rfl ?_
    obtain ⟨x2_7, σ8, hq7, hF⟩ := bl1_e hF
    refine b_sub [2, 3, 1, 0] rfl (e_X12_mayMarry_L22 C Hh Rt bFU x1 (0 : Int32) (0 : Int32) _ _ hq7 (fun _ _ e  => ?_))
    cases e
    refine b_iload_n (pc := 57) C dX12_mayMarry_57 rfl 0 rfl ?_
    exact b_iret (pc := 58) C Rt dX12_mayMarry_58 hF
  · rw [if_pos hc6] at hF
    refine b_aload_n (pc := 12) C dX12_mayMarry_12 rfl 0 rfl ?_
    refine b_iconst (pc := 13) C dX12_mayMarry_13 ic_1 ?_
    obtain ⟨v11, σ10, hc9, hF⟩ := bbd_e hF
    refine b_cV1i (d' := (d + 1)) (pc := 14) C dX12_mayMarry_14 mm_X12_184 (Hh.1 _ _ sh_92) rfl (Nat.le_of_ble_eq_true rfl) (by omega) (Hh.2.2 _ _ _ _ _ _ _ _ _ (lvl_eq (by omega) (e_X12_no (d + 1) (1 : Int32) _ _ _ hc9))) ?_
    exact b_iret (pc := 17) C Rt dX12_mayMarry_17 hF
set_option maxHeartbeats 4000000 in
set_option maxRecDepth 20000 in
theorem e_X12_mayMarry {l : Launch} {G : bG} {ρ : Nat → Nat} {A : Nat → Prop} (d : Nat) (x1 : Int32) (σ : bSto) (r : Int32) (σ' : bSto) (hF : f_X12_mayMarry x1 σ = some (r, σ')) : bEv l G bSHf ρ A yX12_mayMarry cX12_mayMarry 4 (some .int) (d + 2) [.ref 92, .int x1] σ (some (.int r)) σ' := b_met (d := d + 2) (by decide +kernel) (Nat.le_of_ble_eq_true rfl) rfl (fun X C Rt h1 h2 h3 => e_X12_mayMarry_0 C ⟨fun o q h => by rw [h1]; exact h, fun i h => by rw [h2]; exact h, h3⟩ Rt _ _ hF)
/-! BenchColonyModel.whoEats -/
def f_X12_whoEats_J56_16 (k : Int32 → Int32 → Int32 → Int32 → bSto → Option (Int32 × Int32 × Int32 × bSto)) (x2 : Int32) (x3 : Int32) (x4 : Int32) (x5 : Int32) (s0 : Int32) (s1 : Int32) (σ : bSto) : Option (Int32 × Int32 × Int32 × bSto) := (if s0 = s1 then blet (x2 ||| ((1 : Int32) <<< (x5 &&& 31))) (fun x2_2 => blet (x3 + (-1 : Int32)) (fun x3_4 => blet (x5 + (1 : Int32)) (fun x5_6 => k x2_2 x3_4 x4 x5_6 σ))) else blet (x5 + (1 : Int32)) (fun x5_8 => k x2 x3 x4 x5_8 σ))
def f_X12_whoEats_J46_16 (k : Int32 → Int32 → Int32 → Int32 → bSto → Option (Int32 × Int32 × Int32 × bSto)) (x2 : Int32) (x3 : Int32) (x4 : Int32) (x5 : Int32) (s0 : Int32) (σ : bSto) : Option (Int32 × Int32 × Int32 × bSto) := (if x4 = 0 then f_X12_whoEats_J56_16 k x2 x3 x4 x5 s0 (1 : Int32) σ else f_X12_whoEats_J56_16 k x2 x3 x4 x5 s0 (0 : Int32) σ)
def f_X12_whoEats_L16 : Nat → Int32 → Int32 → Int32 → Int32 → bSto → Option (Int32 × Int32 × Int32 × bSto)
  | 0, _, _, _, _, _ => none
  | n + 1, x2, x3, x4, x5, σ => (if (σ.1 95 4) ≤ x5 then some (x2, x3, x4, σ) else (if x3 = 0 then blet (x5 + (1 : Int32)) (fun x5_3 => f_X12_whoEats_L16 n x2 x3 x4 x5_3 σ) else bbd (f_X12_kindOf x5 σ) (fun v7 σ6 => (if v7 = (3 : Int32) then f_X12_whoEats_J46_16 (f_X12_whoEats_L16 n) x2 x3 x4 x5 (1 : Int32) σ6 else f_X12_whoEats_J46_16 (f_X12_whoEats_L16 n) x2 x3 x4 x5 (0 : Int32) σ6))))
def f_X12_whoEats_L7 : Nat → Int32 → Int32 → Int32 → bSto → Option (Int32 × bSto)
  | 0, _, _, _, _ => none
  | n + 1, x2, x3, x4, σ => (if (2 : Int32) ≤ x4 then some (x2, σ) else bl3 (f_X12_whoEats_L16 bFU x2 x3 x4 (0 : Int32) σ) (fun x2_2 x3_2 x4_2 σ3 => blet (x4_2 + (1 : Int32)) (fun x4_4 => f_X12_whoEats_L7 n x2_2 x3_2 x4_4 σ3)))
def f_X12_whoEats (x1 : Int32) (σ : bSto) : Option (Int32 × bSto) := bl1 (f_X12_whoEats_L7 bFU (0 : Int32) x1 (0 : Int32) σ) (fun x2_1 σ2 => some (x2_1, σ2))
set_option maxHeartbeats 4000000 in
set_option maxRecDepth 20000 in
theorem e_X12_whoEats_J56_16 {X : bX} {l : Launch} {G : bG} {ρ : Nat → Nat} {A : Nat → Prop} {d : Nat} {r : Int32} {σ' : bSto} (C : bCX X cX12_whoEats RX12 (d + 1)) (Hh : bH X l G bSHf ρ A 6) (Rt : bRX X (some .int) (some (.int r)) σ') {k : Int32 → Int32 → Int32 → Int32 → bSto → Option (Int32 × Int32 × Int32 × bSto)} (ih : ∀ (x2 : Int32) (x3 : Int32) (x4 : Int32) (x5 : Int32) (σ : bSto) (q : (Int32 × Int32 × Int32 × bSto)), k x2 x3 x4 x5 σ = some q → (∀ (x2 : Int32) (x3 : Int32) (x4 : Int32) (s : bSto), q = (x2, x3, x4, s) → bAJ X 78 [(0, .ref 92), (2, .int x2), (3, .int x3), (4, .int x4)] [] s) → bAJ X 16 [(0, .ref 92), (2, .int x2), (3, .int x3), (4, .int x4), (5, .int x5)] [] σ) (x2 : Int32) (x3 : Int32) (x4 : Int32) (x5 : Int32) (s0 : Int32) (s1 : Int32) (σ : bSto) (q : (Int32 × Int32 × Int32 × bSto)) (hF : f_X12_whoEats_J56_16 k x2 x3 x4 x5 s0 s1 σ = some q) : (∀ (x2 : Int32) (x3 : Int32) (x4 : Int32) (s : bSto), q = (x2, x3, x4, s) → bAJ X 78 [(0, .ref 92), (2, .int x2), (3, .int x3), (4, .int x4)] [] s) → bAJ X 56 [(0, .ref 92), (2, .int x2), (3, .int x3), (4, .int x4), (5, .int x5)] [.int s1, .int s0] σ := by
  intro hx
  rw [f_X12_whoEats_J56_16] at hF
  refine b_icmp_eq (tgt := 62) (pc := 56) C dX12_whoEats_56 rfl (fun hc1 => ?_) (fun hc1 => ?_)
  · rw [if_pos hc1] at hF
    refine b_iload_n (pc := 62) C dX12_whoEats_62 rfl 1 rfl ?_
    refine b_iconst (pc := 63) C dX12_whoEats_63 ic_1 ?_
    refine b_iload (pc := 64) C dX12_whoEats_64 4 rfl ?_
    refine b_ishl (pc := 66) C dX12_whoEats_66 ?_
    refine b_ior (pc := 67) C dX12_whoEats_67 ?_
    obtain ⟨x2_2, e3, hF⟩ := blet_e hF
    refine b_istore_n (L' := [(2, .int x2_2), (0, .ref 92), (3, .int x3), (4, .int x4), (5, .int x5)]) (pc := 68) C dX12_whoEats_68 rfl e3 (Hh.2.1 _ (Nat.le_of_ble_eq_true rfl)) rfl ?_
    obtain ⟨x3_4, e5, hF⟩ := blet_e hF
    refine b_iinc (L' := [(3, .int x3_4), (2, .int x2_2), (0, .ref 92), (4, .int x4), (5, .int x5)]) (pc := 69) C dX12_whoEats_69 2 rfl ic_m1 e5 (Hh.2.1 _ (Nat.le_of_ble_eq_true rfl)) rfl ?_
    obtain ⟨x5_6, e7, hF⟩ := blet_e hF
    refine b_iinc (L' := [(5, .int x5_6), (3, .int x3_4), (2, .int x2_2), (0, .ref 92), (4, .int x4)]) (pc := 72) C dX12_whoEats_72 4 rfl ic_1 e7 (Hh.2.1 _ (Nat.le_of_ble_eq_true rfl)) rfl ?_
    refine b_goto (tgt := 16) (pc := 75) C dX12_whoEats_75 rfl ?_
    exact b_sub [3, 2, 1, 4, 0] rfl (ih x2_2 x3_4 x4 x5_6 _ _ hF hx)
  · rw [if_neg hc1] at hF
    refine b_goto (tgt := 72) (pc := 59) C dX12_whoEats_59 rfl ?_
    obtain ⟨x5_8, e9, hF⟩ := blet_e hF
    refine b_iinc (L' := [(5, .int x5_8), (0, .ref 92), (2, .int x2), (3, .int x3), (4, .int x4)]) (pc := 72) C dX12_whoEats_72 4 rfl ic_1 e9 (Hh.2.1 _ (Nat.le_of_ble_eq_true rfl)) rfl ?_
    refine b_goto (tgt := 16) (pc := 75) C dX12_whoEats_75 rfl ?_
    exact b_sub [1, 2, 3, 4, 0] rfl (ih x2 x3 x4 x5_8 _ _ hF hx)
set_option maxHeartbeats 4000000 in
set_option maxRecDepth 20000 in
theorem e_X12_whoEats_J46_16 {X : bX} {l : Launch} {G : bG} {ρ : Nat → Nat} {A : Nat → Prop} {d : Nat} {r : Int32} {σ' : bSto} (C : bCX X cX12_whoEats RX12 (d + 1)) (Hh : bH X l G bSHf ρ A 6) (Rt : bRX X (some .int) (some (.int r)) σ') {k : Int32 → Int32 → Int32 → Int32 → bSto → Option (Int32 × Int32 × Int32 × bSto)} (ih : ∀ (x2 : Int32) (x3 : Int32) (x4 : Int32) (x5 : Int32) (σ : bSto) (q : (Int32 × Int32 × Int32 × bSto)), k x2 x3 x4 x5 σ = some q → (∀ (x2 : Int32) (x3 : Int32) (x4 : Int32) (s : bSto), q = (x2, x3, x4, s) → bAJ X 78 [(0, .ref 92), (2, .int x2), (3, .int x3), (4, .int x4)] [] s) → bAJ X 16 [(0, .ref 92), (2, .int x2), (3, .int x3), (4, .int x4), (5, .int x5)] [] σ) (x2 : Int32) (x3 : Int32) (x4 : Int32) (x5 : Int32) (s0 : Int32) (σ : bSto) (q : (Int32 × Int32 × Int32 × bSto)) (hF : f_X12_whoEats_J46_16 k x2 x3 x4 x5 s0 σ = some q) : (∀ (x2 : Int32) (x3 : Int32) (x4 : Int32) (s : bSto), q = (x2, x3, x4, s) → bAJ X 78 [(0, .ref 92), (2, .int x2), (3, .int x3), (4, .int x4)] [] s) → bAJ X 46 [(0, .ref 92), (2, .int x2), (3, .int x3), (4, .int x4), (5, .int x5)] [.int s0] σ := by
  intro hx
  rw [f_X12_whoEats_J46_16] at hF
  refine b_iload (pc := 46) C dX12_whoEats_46 3 rfl ?_
  refine b_if_ne (tgt := 55) (pc := 48) C dX12_whoEats_48 rfl (fun hc1 => ?_) (fun hc1 => ?_)
  · rw [if_neg hc1] at hF
    refine b_iconst (pc := 55) C dX12_whoEats_55 ic_0 ?_
    exact b_sub [0, 1, 2, 3, 4] rfl (e_X12_whoEats_J56_16 C Hh Rt ih x2 x3 x4 x5 s0 (0 : Int32) _ _ hF hx)
  · rw [if_pos hc1] at hF
    refine b_iconst (pc := 51) C dX12_whoEats_51 ic_1 ?_
    refine b_goto (tgt := 56) (pc := 52) C dX12_whoEats_52 rfl ?_
    exact b_sub [0, 1, 2, 3, 4] rfl (e_X12_whoEats_J56_16 C Hh Rt ih x2 x3 x4 x5 s0 (1 : Int32) _ _ hF hx)
set_option maxHeartbeats 4000000 in
set_option maxRecDepth 20000 in
theorem e_X12_whoEats_L16 {X : bX} {l : Launch} {G : bG} {ρ : Nat → Nat} {A : Nat → Prop} {d : Nat} {r : Int32} {σ' : bSto} (C : bCX X cX12_whoEats RX12 (d + 1)) (Hh : bH X l G bSHf ρ A 6) (Rt : bRX X (some .int) (some (.int r)) σ') : ∀ (n : Nat) (x2 : Int32) (x3 : Int32) (x4 : Int32) (x5 : Int32) (σ : bSto) (q : (Int32 × Int32 × Int32 × bSto)), f_X12_whoEats_L16 n x2 x3 x4 x5 σ = some q → (∀ (x2 : Int32) (x3 : Int32) (x4 : Int32) (s : bSto), q = (x2, x3, x4, s) → bAJ X 78 [(0, .ref 92), (2, .int x2), (3, .int x3), (4, .int x4)] [] s) → bAJ X 16 [(0, .ref 92), (2, .int x2), (3, .int x3), (4, .int x4), (5, .int x5)] [] σ := by
  intro n
  induction n with
  | zero => intro x2 x3 x4 x5 σ q hF; rw [f_X12_whoEats_L16] at hF; cases hF
  | succ n ih =>
    intro x2 x3 x4 x5 σ q hF hx
    rw [f_X12_whoEats_L16] at hF
    refine b_iload (pc := 16) C dX12_whoEats_16 4 rfl ?_
    refine b_aload_n (pc := 18) C dX12_whoEats_18 rfl 0 rfl ?_
    refine b_getS (pc := 19) C dX12_whoEats_19 fl_X12_20 (Hh.1 _ _ sh_92) rfl ?_
    refine b_iconst (pc := 22) C dX12_whoEats_22 ic_4 ?_
    refine b_ialdK (pc := 23) C dX12_whoEats_23 (Hh.1 _ _ sh_95) tn_4 (by decide) ?_
    refine b_icmp_ge (tgt := 78) (pc := 24) C dX12_whoEats_24 rfl (fun hc1 => ?_) (fun hc1 => ?_)
    · rw [if_pos hc1] at hF
      exact b_sub [0, 1, 2, 3] rfl (hx _ _ _ _ (Option.some.inj hF).symm )
    · rw [if_neg hc1] at hF
      refine b_iload_n (pc := 27) C dX12_whoEats_27 rfl 2 rfl ?_
      refine b_if_eq (tgt := 72) (pc := 28) C dX12_whoEats_28 rfl (fun hc2 => ?_) (fun hc2 => ?_)
      · rw [if_pos hc2] at hF
        obtain ⟨x5_3, e4, hF⟩ := blet_e hF
        refine b_iinc (L' := [(5, .int x5_3), (0, .ref 92), (2, .int x2), (3, .int x3), (4, .int x4)]) (pc := 72) C dX12_whoEats_72 4 rfl ic_1 e4 (Hh.2.1 _ (Nat.le_of_ble_eq_true rfl)) rfl ?_
        refine b_goto (tgt := 16) (pc := 75) C dX12_whoEats_75 rfl ?_
        exact b_sub [1, 2, 3, 4, 0] rfl (ih x2 x3 x4 x5_3 _ _ hF hx)
      · rw [if_neg hc2] at hF
        refine b_aload_n (pc := 31) C dX12_whoEats_31 rfl 0 rfl ?_
        refine b_iload (pc := 32) C dX12_whoEats_32 4 rfl ?_
        obtain ⟨v7, σ6, hc5, hF⟩ := bbd_e hF
        refine b_cV1i (d' := (d + 0)) (pc := 34) C dX12_whoEats_34 mm_X12_302 (Hh.1 _ _ sh_92) rfl (Nat.le_of_ble_eq_true rfl) (by omega) (Hh.2.2 _ _ _ _ _ _ _ _ _ (lvl_eq (by omega) (e_X12_kindOf (d + 0) x5 _ _ _ hc5))) ?_
        refine b_iconst (pc := 37) C dX12_whoEats_37 ic_3 ?_
        refine b_icmp_ne (tgt := 45) (pc := 38) C dX12_whoEats_38 rfl (fun hc8 => ?_) (fun hc8 => ?_)
        · rw [if_neg hc8] at hF
          refine b_iconst (pc := 45) C dX12_whoEats_45 ic_0 ?_
          exact b_sub [0, 1, 2, 3, 4] rfl (e_X12_whoEats_J46_16 C Hh Rt ih x2 x3 x4 x5 (0 : Int32) _ _ hF hx)
        · rw [if_pos hc8] at hF
          refine b_iconst (pc := 41) C dX12_whoEats_41 ic_1 ?_
          refine b_goto (tgt := 46) (pc := 42) C dX12_whoEats_42 rfl ?_
          exact b_sub [0, 1, 2, 3, 4] rfl (e_X12_whoEats_J46_16 C Hh Rt ih x2 x3 x4 x5 (1 : Int32) _ _ hF hx)
set_option maxHeartbeats 4000000 in
set_option maxRecDepth 20000 in
theorem e_X12_whoEats_L7 {X : bX} {l : Launch} {G : bG} {ρ : Nat → Nat} {A : Nat → Prop} {d : Nat} {r : Int32} {σ' : bSto} (C : bCX X cX12_whoEats RX12 (d + 1)) (Hh : bH X l G bSHf ρ A 6) (Rt : bRX X (some .int) (some (.int r)) σ') : ∀ (n : Nat) (x2 : Int32) (x3 : Int32) (x4 : Int32) (σ : bSto) (q : (Int32 × bSto)), f_X12_whoEats_L7 n x2 x3 x4 σ = some q → (∀ (x2 : Int32) (s : bSto), q = (x2, s) → bAJ X 84 [(2, .int x2)] [] s) → bAJ X 7 [(0, .ref 92), (2, .int x2), (3, .int x3), (4, .int x4)] [] σ := by
  intro n
  induction n with
  | zero => intro x2 x3 x4 σ q hF; rw [f_X12_whoEats_L7] at hF; cases hF
  | succ n ih =>
    intro x2 x3 x4 σ q hF hx
    rw [f_X12_whoEats_L7] at hF
    refine b_iload (pc := 7) C dX12_whoEats_7 3 rfl ?_
    refine b_iconst (pc := 9) C dX12_whoEats_9 ic_2 ?_
    refine b_icmp_ge (tgt := 84) (pc := 10) C dX12_whoEats_10 rfl (fun hc1 => ?_) (fun hc1 => ?_)
    · rw [if_pos hc1] at hF
      exact b_sub [1] rfl (hx _ _ (Option.some.inj hF).symm )
    · rw [if_neg hc1] at hF
      refine b_iconst (pc := 13) C dX12_whoEats_13 ic_0 ?_
      refine b_istore (L' := [(5, .int (0 : Int32)), (0, .ref 92), (2, .int x2), (3, .int x3), (4, .int x4)]) (pc := 14) C dX12_whoEats_14 rfl (Hh.2.1 _ (Nat.le_of_ble_eq_true rfl)) rfl ?_
      obtain ⟨x2_2, x3_2, x4_2, σ3, hq2, hF⟩ := bl3_e hF
      refine b_sub [1, 2, 3, 4, 0] rfl (e_X12_whoEats_L16 C Hh Rt bFU x2 x3 x4 (0 : Int32) _ _ hq2 (fun _ _ _ _ e  => ?_))
      cases e
      obtain ⟨x4_4, e5, hF⟩ := blet_e hF
      refine b_iinc (L' := [(4, .int x4_4), (0, .ref 92), (2, .int x2_2), (3, .int x3_2)]) (pc := 78) C dX12_whoEats_78 3 rfl ic_1 e5 (Hh.2.1 _ (Nat.le_of_ble_eq_true rfl)) rfl ?_
      refine b_goto (tgt := 7) (pc := 81) C dX12_whoEats_81 rfl ?_
      exact b_sub [1, 2, 3, 0] rfl (ih x2_2 x3_2 x4_4 _ _ hF hx)
set_option maxHeartbeats 4000000 in
set_option maxRecDepth 20000 in
theorem e_X12_whoEats_0 {X : bX} {l : Launch} {G : bG} {ρ : Nat → Nat} {A : Nat → Prop} {d : Nat} {r : Int32} {σ' : bSto} (C : bCX X cX12_whoEats RX12 (d + 1)) (Hh : bH X l G bSHf ρ A 6) (Rt : bRX X (some .int) (some (.int r)) σ') (x1 : Int32) (σ : bSto) (hF : f_X12_whoEats x1 σ = some (r, σ')) : bAJ X 0 [(0, .ref 92), (1, .int x1)] [] σ := by
  rw [f_X12_whoEats] at hF
  refine b_iconst (pc := 0) C dX12_whoEats_0 ic_0 ?_
  refine b_istore_n (L' := [(2, .int (0 : Int32)), (0, .ref 92), (1, .int x1)]) (pc := 1) C dX12_whoEats_1 rfl rfl (Hh.2.1 _ (Nat.le_of_ble_eq_true rfl)) rfl ?_
  refine b_iload_n (pc := 2) C dX12_whoEats_2 rfl 2 rfl ?_
  refine b_istore_n (L' := [(3, .int x1), (2, .int (0 : Int32)), (0, .ref 92), (1, .int x1)]) (pc := 3) C dX12_whoEats_3 rfl rfl (Hh.2.1 _ (Nat.le_of_ble_eq_true rfl)) rfl ?_
  refine b_iconst (pc := 4) C dX12_whoEats_4 ic_0 ?_
  refine b_istore (L' := [(4, .int (0 : Int32)), (3, .int x1), (2, .int (0 : Int32)), (0, .ref 92), (1, .int x1)]) (pc := 5) C dX12_whoEats_5 rfl (Hh.2.1 _ (Nat.le_of_ble_eq_true rfl)) rfl ?_
  obtain ⟨x2_1, σ2, hq1, hF⟩ := bl1_e hF
  refine b_sub [3, 2, 1, 0] rfl (e_X12_whoEats_L7 C Hh Rt bFU (0 : Int32) x1 (0 : Int32) _ _ hq1 (fun _ _ e  => ?_))
  cases e
  refine b_iload_n (pc := 84) C dX12_whoEats_84 rfl 0 rfl ?_
  exact b_iret (pc := 85) C Rt dX12_whoEats_85 hF
set_option maxHeartbeats 4000000 in
set_option maxRecDepth 20000 in
theorem e_X12_whoEats {l : Launch} {G : bG} {ρ : Nat → Nat} {A : Nat → Prop} (d : Nat) (x1 : Int32) (σ : bSto) (r : Int32) (σ' : bSto) (hF : f_X12_whoEats x1 σ = some (r, σ')) : bEv l G bSHf ρ A yX12_whoEats cX12_whoEats 6 (some .int) (d + 1) [.ref 92, .int x1] σ (some (.int r)) σ' := b_met (d := d + 1) (by decide +kernel) (Nat.le_of_ble_eq_true rfl) rfl (fun X C Rt h1 h2 h3 => e_X12_whoEats_0 C ⟨fun o q h => by rw [h1]; exact h, fun i h => by rw [h2]; exact h, h3⟩ Rt _ _ hF)
/-! BenchColonyModel.fed -/
def f_X12_fed  (σ : bSto) : Option (Int32 × bSto) := bbv (f_X12_good  σ) (fun σ2 => (if (σ2.1 92 14) = 0 then bbd (f_X12_no (1 : Int32) σ2) (fun v8 σ7 => some (v8, σ7)) else (if (σ2.1 95 4) = 0 then some ((-2 : Int32), σ2) else if (σ2.1 95 4) = 0 then none else some (((σ2.1 97 14) / (σ2.1 95 4)), σ2))))
set_option maxHeartbeats 4000000 in
set_option maxRecDepth 20000 in
theorem e_X12_fed_0 {X : bX} {l : Launch} {G : bG} {ρ : Nat → Nat} {A : Nat → Prop} {d : Nat} {r : Int32} {σ' : bSto} (C : bCX X cX12_fed RX12 (d + 1)) (Hh : bH X l G bSHf ρ A 1) (Rt : bRX X (some .int) (some (.int r)) σ')  (σ : bSto) (hF : f_X12_fed  σ = some (r, σ')) : bAJ X 0 [(0, .ref 92)] [] σ := by
  rw [f_X12_fed] at hF
  refine b_aload_n (pc := 0) C dX12_fed_0 rfl 0 rfl ?_
  obtain ⟨σ2, hc1, hF⟩ := bbv_e hF
  refine b_cV0v (d' := (d + 0)) (pc := 1) C dX12_fed_1 mm_X12_181 (Hh.1 _ _ sh_92) rfl (Nat.le_of_ble_eq_true rfl) (by omega) (Hh.2.2 _ _ _ _ _ _ _ _ _ (lvl_eq (by omega) (e_X12_good (d + 0)  _ _ hc1))) ?_
  refine b_aload_n (pc := 4) C dX12_fed_4 rfl 0 rfl ?_
  refine b_getI (pc := 5) C dX12_fed_5 fl_X12_194 (Hh.1 _ _ sh_92) rfl ?_
  refine b_if_ne (tgt := 17) (pc := 8) C dX12_fed_8 rfl (fun hc3 => ?_) (fun hc3 => ?_)
  · rw [if_neg hc3] at hF
    refine b_aload_n (pc := 17) C dX12_fed_17 rfl 0 rfl ?_
    refine b_getS (pc := 18) C dX12_fed_18 fl_X12_20 (Hh.1 _ _ sh_92) rfl ?_
    refine b_iconst (pc := 21) C dX12_fed_21 ic_4 ?_
    refine b_ialdK (pc := 22) C dX12_fed_22 (Hh.1 _ _ sh_95) tn_4 (by decide) ?_
    refine b_if_ne (tgt := 31) (pc := 23) C dX12_fed_23 rfl (fun hc4 => ?_) (fun hc4 => ?_)
    · rw [if_neg hc4] at hF
      refine b_aload_n (pc := 31) C dX12_fed_31 rfl 0 rfl ?_
      refine b_getS (pc := 32) C dX12_fed_32 fl_X12_26 (Hh.1 _ _ sh_92) rfl ?_
      refine b_bipush (pc := 35) C dX12_fed_35 bp_14 ?_
      refine b_ialdK (pc := 37) C dX12_fed_37 (Hh.1 _ _ sh_97) tn_14 (by decide) ?_
      refine b_aload_n (pc := 38) C dX12_fed_38 rfl 0 rfl ?_
      refine b_getS (pc := 39) C dX12_fed_39 fl_X12_20 (Hh.1 _ _ sh_92) rfl ?_
      refine b_iconst (pc := 42) C dX12_fed_42 ic_4 ?_
      refine b_ialdK (pc := 43) C dX12_fed_43 (Hh.1 _ _ sh_95) tn_4 (by decide) ?_
      obtain ⟨hz5, hF⟩ := bif_n hF
      refine b_idiv (pc := 44) C dX12_fed_44 hz5 ?_
      exact b_iret (pc := 45) C Rt dX12_fed_45 hF
    · rw [if_pos hc4] at hF
      refine b_bipush (pc := 26) C dX12_fed_26 bp_m2 ?_
      refine b_goto (tgt := 45) (pc := 28) C dX12_fed_28 rfl ?_
      exact b_iret (pc := 45) C Rt dX12_fed_45 hF
  · rw [if_pos hc3] at hF
    refine b_aload_n (pc := 11) C dX12_fed_11 rfl 0 rfl ?_
    refine b_iconst (pc := 12) C dX12_fed_12 ic_1 ?_
    obtain ⟨v8, σ7, hc6, hF⟩ := bbd_e hF
    refine b_cV1i (d' := (d + 0)) (pc := 13) C dX12_fed_13 mm_X12_184 (Hh.1 _ _ sh_92) rfl (Nat.le_of_ble_eq_true rfl) (by omega) (Hh.2.2 _ _ _ _ _ _ _ _ _ (lvl_eq (by omega) (e_X12_no (d + 0) (1 : Int32) _ _ _ hc6))) ?_
    exact b_iret (pc := 16) C Rt dX12_fed_16 hF
set_option maxHeartbeats 4000000 in
set_option maxRecDepth 20000 in
theorem e_X12_fed {l : Launch} {G : bG} {ρ : Nat → Nat} {A : Nat → Prop} (d : Nat)  (σ : bSto) (r : Int32) (σ' : bSto) (hF : f_X12_fed  σ = some (r, σ')) : bEv l G bSHf ρ A yX12_fed cX12_fed 1 (some .int) (d + 1) [.ref 92] σ (some (.int r)) σ' := b_met (d := d + 1) (by decide +kernel) (Nat.le_of_ble_eq_true rfl) rfl (fun X C Rt h1 h2 h3 => e_X12_fed_0 C ⟨fun o q h => by rw [h1]; exact h, fun i h => by rw [h2]; exact h, h3⟩ Rt  _ hF)
/-! BenchColonyModel.eats -/
def f_X12_eats_J77_48 (k : Int32 → Int32 → Int32 → Int32 → Int32 → bSto → Option (Int32 × bSto)) (x1 : Int32) (x2 : Int32) (x3 : Int32) (x5 : Int32) (x6 : Int32) (s0 : Int32) (s1 : Int32) (σ : bSto) : Option (Int32 × bSto) := blet (s0 + s1) (fun x4_1 => bbd (f_X12_ones x6 σ) (fun v5 σ4 => blet (x3 - v5) (fun x3_6 => blet (x5 + (1 : Int32)) (fun x5_8 => k x1 x2 x3_6 x4_1 x5_8 σ4))))
def f_X12_eats_L48 : Nat → Int32 → Int32 → Int32 → Int32 → Int32 → bSto → Option (Int32 × bSto)
  | 0, _, _, _, _, _, _ => none
  | n + 1, x1, x2, x3, x4, x5, σ => (if x2 ≤ x5 then some (x4, σ) else bbd (f_X12_whoEats x3 σ) (fun v4 σ3 => bbd (f_X12_hasBit v4 x1 σ3) (fun v7 σ6 => (if v7 = 0 then f_X12_eats_J77_48 (f_X12_eats_L48 n) x1 x2 x3 x5 v4 x4 (0 : Int32) σ6 else f_X12_eats_J77_48 (f_X12_eats_L48 n) x1 x2 x3 x5 v4 x4 (1 : Int32) σ6))))
def f_X12_eats (x1 : Int32) (x2 : Int32) (σ : bSto) : Option (Int32 × bSto) := bbv (f_X12_good  σ) (fun σ2 => bbd (f_X12_isPerson x1 σ2) (fun v5 σ4 => (if v5 = 0 then bbd (f_X12_no (1 : Int32) σ4) (fun v20 σ19 => some (v20, σ19)) else bbd (f_X12_in x2 (0 : Int32) (99 : Int32) σ4) (fun v9 σ8 => (if v9 = 0 then bbd (f_X12_no (2 : Int32) σ8) (fun v17 σ16 => some (v17, σ16)) else blet (σ8.1 97 14) (fun x3_11 => bl1 (f_X12_eats_L48 bFU x1 x2 x3_11 (0 : Int32) (0 : Int32) σ8) (fun x4_13 σ14 => some (x4_13, σ14))))))))
set_option maxHeartbeats 4000000 in
set_option maxRecDepth 20000 in
theorem e_X12_eats_J77_48 {X : bX} {l : Launch} {G : bG} {ρ : Nat → Nat} {A : Nat → Prop} {d : Nat} {r : Int32} {σ' : bSto} (C : bCX X cX12_eats RX12 (d + 2)) (Hh : bH X l G bSHf ρ A 7) (Rt : bRX X (some .int) (some (.int r)) σ') {k : Int32 → Int32 → Int32 → Int32 → Int32 → bSto → Option (Int32 × bSto)} (ih : ∀ (x1 : Int32) (x2 : Int32) (x3 : Int32) (x4 : Int32) (x5 : Int32) (σ : bSto) (q : (Int32 × bSto)), k x1 x2 x3 x4 x5 σ = some q → (∀ (x4 : Int32) (s : bSto), q = (x4, s) → bAJ X 94 [(4, .int x4)] [] s) → bAJ X 48 [(0, .ref 92), (1, .int x1), (2, .int x2), (3, .int x3), (4, .int x4), (5, .int x5)] [] σ) (x1 : Int32) (x2 : Int32) (x3 : Int32) (x5 : Int32) (x6 : Int32) (s0 : Int32) (s1 : Int32) (σ : bSto) (q : (Int32 × bSto)) (hF : f_X12_eats_J77_48 k x1 x2 x3 x5 x6 s0 s1 σ = some q) : (∀ (x4 : Int32) (s : bSto), q = (x4, s) → bAJ X 94 [(4, .int x4)] [] s) → bAJ X 77 [(0, .ref 92), (1, .int x1), (2, .int x2), (3, .int x3), (5, .int x5), (6, .int x6)] [.int s1, .int s0] σ := by
  intro hx
  rw [f_X12_eats_J77_48] at hF
  refine b_iadd (pc := 77) C dX12_eats_77 ?_
  obtain ⟨x4_1, e2, hF⟩ := blet_e hF
  refine b_istore (L' := [(4, .int x4_1), (0, .ref 92), (1, .int x1), (2, .int x2), (3, .int x3), (5, .int x5), (6, .int x6)]) (pc := 78) C dX12_eats_78 e2 (Hh.2.1 _ (Nat.le_of_ble_eq_true rfl)) rfl ?_
  refine b_iload_n (pc := 80) C dX12_eats_80 rfl 4 rfl ?_
  refine b_iload (pc := 81) C dX12_eats_81 6 rfl ?_
  obtain ⟨v5, σ4, hc3, hF⟩ := bbd_e hF
  refine b_cS1i (d' := (d + 1)) (pc := 83) C dX12_eats_83 mm_X12_299 (Nat.le_of_ble_eq_true rfl) (by omega) (Hh.2.2 _ _ _ _ _ _ _ _ _ (lvl_eq (by omega) (e_X12_ones (d + 1) x6 _ _ _ hc3))) ?_
  refine b_isub (pc := 86) C dX12_eats_86 ?_
  obtain ⟨x3_6, e7, hF⟩ := blet_e hF
  refine b_istore_n (L' := [(3, .int x3_6), (4, .int x4_1), (0, .ref 92), (1, .int x1), (2, .int x2), (5, .int x5), (6, .int x6)]) (pc := 87) C dX12_eats_87 rfl e7 (Hh.2.1 _ (Nat.le_of_ble_eq_true rfl)) rfl ?_
  obtain ⟨x5_8, e9, hF⟩ := blet_e hF
  refine b_iinc (L' := [(5, .int x5_8), (3, .int x3_6), (4, .int x4_1), (0, .ref 92), (1, .int x1), (2, .int x2), (6, .int x6)]) (pc := 88) C dX12_eats_88 5 rfl ic_1 e9 (Hh.2.1 _ (Nat.le_of_ble_eq_true rfl)) rfl ?_
  refine b_goto (tgt := 48) (pc := 91) C dX12_eats_91 rfl ?_
  exact b_sub [3, 4, 5, 1, 2, 0] rfl (ih x1 x2 x3_6 x4_1 x5_8 _ _ hF hx)
set_option maxHeartbeats 4000000 in
set_option maxRecDepth 20000 in
theorem e_X12_eats_L48 {X : bX} {l : Launch} {G : bG} {ρ : Nat → Nat} {A : Nat → Prop} {d : Nat} {r : Int32} {σ' : bSto} (C : bCX X cX12_eats RX12 (d + 2)) (Hh : bH X l G bSHf ρ A 7) (Rt : bRX X (some .int) (some (.int r)) σ') : ∀ (n : Nat) (x1 : Int32) (x2 : Int32) (x3 : Int32) (x4 : Int32) (x5 : Int32) (σ : bSto) (q : (Int32 × bSto)), f_X12_eats_L48 n x1 x2 x3 x4 x5 σ = some q → (∀ (x4 : Int32) (s : bSto), q = (x4, s) → bAJ X 94 [(4, .int x4)] [] s) → bAJ X 48 [(0, .ref 92), (1, .int x1), (2, .int x2), (3, .int x3), (4, .int x4), (5, .int x5)] [] σ := by
  intro n
  induction n with
  | zero => intro x1 x2 x3 x4 x5 σ q hF; rw [f_X12_eats_L48] at hF; cases hF
  | succ n ih =>
    intro x1 x2 x3 x4 x5 σ q hF hx
    rw [f_X12_eats_L48] at hF
    refine b_iload (pc := 48) C dX12_eats_48 5 rfl ?_
    refine b_iload_n (pc := 50) C dX12_eats_50 rfl 2 rfl ?_
    refine b_icmp_ge (tgt := 94) (pc := 51) C dX12_eats_51 rfl (fun hc1 => ?_) (fun hc1 => ?_)
    · rw [if_pos hc1] at hF
      exact b_sub [4] rfl (hx _ _ (Option.some.inj hF).symm )
    · rw [if_neg hc1] at hF
      refine b_aload_n (pc := 54) C dX12_eats_54 rfl 0 rfl ?_
      refine b_iload_n (pc := 55) C dX12_eats_55 rfl 3 rfl ?_
      obtain ⟨v4, σ3, hc2, hF⟩ := bbd_e hF
      refine b_cV1i (d' := (d + 1)) (pc := 56) C dX12_eats_56 mm_X12_373 (Hh.1 _ _ sh_92) rfl (Nat.le_of_ble_eq_true rfl) (by omega) (Hh.2.2 _ _ _ _ _ _ _ _ _ (lvl_eq (by omega) (e_X12_whoEats (d + 0) x3 _ _ _ hc2))) ?_
      refine b_istore (L' := [(6, .int v4), (0, .ref 92), (1, .int x1), (2, .int x2), (3, .int x3), (4, .int x4), (5, .int x5)]) (pc := 59) C dX12_eats_59 rfl (Hh.2.1 _ (Nat.le_of_ble_eq_true rfl)) rfl ?_
      refine b_iload (pc := 61) C dX12_eats_61 5 rfl ?_
      refine b_iload (pc := 63) C dX12_eats_63 0 rfl ?_
      refine b_iload_n (pc := 65) C dX12_eats_65 rfl 2 rfl ?_
      obtain ⟨v7, σ6, hc5, hF⟩ := bbd_e hF
      refine b_cS2i (d' := (d + 1)) (pc := 66) C dX12_eats_66 mm_X12_281 (Nat.le_of_ble_eq_true rfl) (by omega) (Hh.2.2 _ _ _ _ _ _ _ _ _ (lvl_eq (by omega) (e_X12_hasBit (d + 1) v4 x1 _ _ _ hc5))) ?_
      refine b_if_eq (tgt := 76) (pc := 69) C dX12_eats_69 rfl (fun hc8 => ?_) (fun hc8 => ?_)
      · rw [if_pos hc8] at hF
        refine b_iconst (pc := 76) C dX12_eats_76 ic_0 ?_
        exact b_sub [1, 2, 3, 4, 6, 0] rfl (e_X12_eats_J77_48 C Hh Rt ih x1 x2 x3 x5 v4 x4 (0 : Int32) _ _ hF hx)
      · rw [if_neg hc8] at hF
        refine b_iconst (pc := 72) C dX12_eats_72 ic_1 ?_
        refine b_goto (tgt := 77) (pc := 73) C dX12_eats_73 rfl ?_
        exact b_sub [1, 2, 3, 4, 6, 0] rfl (e_X12_eats_J77_48 C Hh Rt ih x1 x2 x3 x5 v4 x4 (1 : Int32) _ _ hF hx)
set_option maxHeartbeats 4000000 in
set_option maxRecDepth 20000 in
theorem e_X12_eats_0 {X : bX} {l : Launch} {G : bG} {ρ : Nat → Nat} {A : Nat → Prop} {d : Nat} {r : Int32} {σ' : bSto} (C : bCX X cX12_eats RX12 (d + 2)) (Hh : bH X l G bSHf ρ A 7) (Rt : bRX X (some .int) (some (.int r)) σ') (x1 : Int32) (x2 : Int32) (σ : bSto) (hF : f_X12_eats x1 x2 σ = some (r, σ')) : bAJ X 0 [(0, .ref 92), (1, .int x1), (2, .int x2)] [] σ := by
  rw [f_X12_eats] at hF
  refine b_aload_n (pc := 0) C dX12_eats_0 rfl 0 rfl ?_
  obtain ⟨σ2, hc1, hF⟩ := bbv_e hF
  refine b_cV0v (d' := (d + 1)) (pc := 1) C dX12_eats_1 mm_X12_181 (Hh.1 _ _ sh_92) rfl (Nat.le_of_ble_eq_true rfl) (by omega) (Hh.2.2 _ _ _ _ _ _ _ _ _ (lvl_eq (by omega) (e_X12_good (d + 1)  _ _ hc1))) ?_
  refine b_aload_n (pc := 4) C dX12_eats_4 rfl 0 rfl ?_
  refine b_iload_n (pc := 5) C dX12_eats_5 rfl 1 rfl ?_
  obtain ⟨v5, σ4, hc3, hF⟩ := bbd_e hF
  refine b_cV1i (d' := (d + 1)) (pc := 6) C dX12_eats_6 mm_X12_318 (Hh.1 _ _ sh_92) rfl (Nat.le_of_ble_eq_true rfl) (by omega) (Hh.2.2 _ _ _ _ _ _ _ _ _ (lvl_eq (by omega) (e_X12_isPerson (d + 0) x1 _ _ _ hc3))) ?_
  refine b_if_ne (tgt := 18) (pc := 9) C dX12_eats_9 rfl (fun hc6 => ?_) (fun hc6 => ?_)
  · rw [if_neg hc6] at hF
    refine b_iload_n (pc := 18) C dX12_eats_18 rfl 2 rfl ?_
    refine b_iconst (pc := 19) C dX12_eats_19 ic_0 ?_
    refine b_bipush (pc := 20) C dX12_eats_20 bp_99 ?_
    obtain ⟨v9, σ8, hc7, hF⟩ := bbd_e hF
    refine b_cS3i (d' := (d + 1)) (pc := 22) C dX12_eats_22 mm_X12_160 (Nat.le_of_ble_eq_true rfl) (by omega) (Hh.2.2 _ _ _ _ _ _ _ _ _ (lvl_eq (by omega) (e_X12_in (d + 1) x2 (0 : Int32) (99 : Int32) _ _ _ hc7))) ?_
    refine b_if_ne (tgt := 34) (pc := 25) C dX12_eats_25 rfl (fun hc10 => ?_) (fun hc10 => ?_)
    · rw [if_neg hc10] at hF
      refine b_aload_n (pc := 34) C dX12_eats_34 rfl 0 rfl ?_
      refine b_getS (pc := 35) C dX12_eats_35 fl_X12_26 (Hh.1 _ _ sh_92) rfl ?_
      refine b_bipush (pc := 38) C dX12_eats_38 bp_14 ?_
      refine b_ialdK (pc := 40) C dX12_eats_40 (Hh.1 _ _ sh_97) tn_14 (by decide) ?_
      obtain ⟨x3_11, e12, hF⟩ := blet_e hF
      refine b_istore_n (L' := [(3, .int x3_11), (0, .ref 92), (1, .int x1), (2, .int x2)]) (pc := 41) C dX12_eats_41 rfl e12 (Hh.2.1 _ (Nat.le_of_ble_eq_true rfl)) rfl ?_
      refine b_iconst (pc := 42) C dX12_eats_42 ic_0 ?_
      refine b_istore (L' := [(4, .int (0 : Int32)), (3, .int x3_11), (0, .ref 92), (1, .int x1), (2, .int x2)]) (pc := 43) C dX12_eats_43 rfl (Hh.2.1 _ (Nat.le_of_ble_eq_true rfl)) rfl ?_
      refine b_iconst (pc := 45) C dX12_eats_45 ic_0 ?_
      refine b_istore (L' := [(5, .int (0 : Int32)), (4, .int (0 : Int32)), (3, .int x3_11), (0, .ref 92), (1, .int x1), (2, .int x2)]) (pc := 46) C dX12_eats_46 rfl (Hh.2.1 _ (Nat.le_of_ble_eq_true rfl)) rfl ?_
      obtain ⟨x4_13, σ14, hq13, hF⟩ := bl1_e hF
      refine b_sub [3, 4, 5, 2, 1, 0] rfl (e_X12_eats_L48 C Hh Rt bFU x1 x2 x3_11 (0 : Int32) (0 : Int32) _ _ hq13 (fun _ _ e  => ?_))
      cases e
      refine b_iload (pc := 94) C dX12_eats_94 0 rfl ?_
      exact b_iret (pc := 96) C Rt dX12_eats_96 hF
    · rw [if_pos hc10] at hF
      refine b_aload_n (pc := 28) C dX12_eats_28 rfl 0 rfl ?_
      refine b_iconst (pc := 29) C dX12_eats_29 ic_2 ?_
      obtain ⟨v17, σ16, hc15, hF⟩ := bbd_e hF
      refine b_cV1i (d' := (d + 1)) (pc := 30) C dX12_eats_30 mm_X12_184 (Hh.1 _ _ sh_92) rfl (Nat.le_of_ble_eq_true rfl) (by omega) (Hh.2.2 _ _ _ _ _ _ _ _ _ (lvl_eq (by omega) (e_X12_no (d + 1) (2 : Int32) _ _ _ hc15))) ?_
      exact b_iret (pc := 33) C Rt dX12_eats_33 hF
  · rw [if_pos hc6] at hF
    refine b_aload_n (pc := 12) C dX12_eats_12 rfl 0 rfl ?_
    refine b_iconst (pc := 13) C dX12_eats_13 ic_1 ?_
    obtain ⟨v20, σ19, hc18, hF⟩ := bbd_e hF
    refine b_cV1i (d' := (d + 1)) (pc := 14) C dX12_eats_14 mm_X12_184 (Hh.1 _ _ sh_92) rfl (Nat.le_of_ble_eq_true rfl) (by omega) (Hh.2.2 _ _ _ _ _ _ _ _ _ (lvl_eq (by omega) (e_X12_no (d + 1) (1 : Int32) _ _ _ hc18))) ?_
    exact b_iret (pc := 17) C Rt dX12_eats_17 hF
set_option maxHeartbeats 4000000 in
set_option maxRecDepth 20000 in
theorem e_X12_eats {l : Launch} {G : bG} {ρ : Nat → Nat} {A : Nat → Prop} (d : Nat) (x1 : Int32) (x2 : Int32) (σ : bSto) (r : Int32) (σ' : bSto) (hF : f_X12_eats x1 x2 σ = some (r, σ')) : bEv l G bSHf ρ A yX12_eats cX12_eats 7 (some .int) (d + 2) [.ref 92, .int x1, .int x2] σ (some (.int r)) σ' := b_met (d := d + 2) (by decide +kernel) (Nat.le_of_ble_eq_true rfl) rfl (fun X C Rt h1 h2 h3 => e_X12_eats_0 C ⟨fun o q h => by rw [h1]; exact h, fun i h => by rw [h2]; exact h, h3⟩ Rt _ _ _ hF)
/-! BenchColonyModel.left -/
def f_X12_left (x1 : Int32) (σ : bSto) : Option (Int32 × bSto) := bbv (f_X12_good  σ) (fun σ2 => (if (σ2.1 92 14) = 0 then bbd (f_X12_no (1 : Int32) σ2) (fun v16 σ15 => some (v16, σ15)) else bbd (f_X12_in x1 (0 : Int32) (99 : Int32) σ2) (fun v6 σ5 => (if v6 = 0 then bbd (f_X12_no (2 : Int32) σ5) (fun v13 σ12 => some (v13, σ12)) else blet ((σ5.1 97 14) - (x1 * (σ5.1 95 4))) (fun x2_8 => (if 0 ≤ x2_8 then some (x2_8, σ5) else some ((0 : Int32), σ5)))))))
set_option maxHeartbeats 4000000 in
set_option maxRecDepth 20000 in
theorem e_X12_left_0 {X : bX} {l : Launch} {G : bG} {ρ : Nat → Nat} {A : Nat → Prop} {d : Nat} {r : Int32} {σ' : bSto} (C : bCX X cX12_left RX12 (d + 1)) (Hh : bH X l G bSHf ρ A 3) (Rt : bRX X (some .int) (some (.int r)) σ') (x1 : Int32) (σ : bSto) (hF : f_X12_left x1 σ = some (r, σ')) : bAJ X 0 [(0, .ref 92), (1, .int x1)] [] σ := by
  rw [f_X12_left] at hF
  refine b_aload_n (pc := 0) C dX12_left_0 rfl 0 rfl ?_
  obtain ⟨σ2, hc1, hF⟩ := bbv_e hF
  refine b_cV0v (d' := (d + 0)) (pc := 1) C dX12_left_1 mm_X12_181 (Hh.1 _ _ sh_92) rfl (Nat.le_of_ble_eq_true rfl) (by omega) (Hh.2.2 _ _ _ _ _ _ _ _ _ (lvl_eq (by omega) (e_X12_good (d + 0)  _ _ hc1))) ?_
  refine b_aload_n (pc := 4) C dX12_left_4 rfl 0 rfl ?_
  refine b_getI (pc := 5) C dX12_left_5 fl_X12_194 (Hh.1 _ _ sh_92) rfl ?_
  refine b_if_ne (tgt := 17) (pc := 8) C dX12_left_8 rfl (fun hc3 => ?_) (fun hc3 => ?_)
  · rw [if_neg hc3] at hF
    refine b_iload_n (pc := 17) C dX12_left_17 rfl 1 rfl ?_
    refine b_iconst (pc := 18) C dX12_left_18 ic_0 ?_
    refine b_bipush (pc := 19) C dX12_left_19 bp_99 ?_
    obtain ⟨v6, σ5, hc4, hF⟩ := bbd_e hF
    refine b_cS3i (d' := (d + 0)) (pc := 21) C dX12_left_21 mm_X12_160 (Nat.le_of_ble_eq_true rfl) (by omega) (Hh.2.2 _ _ _ _ _ _ _ _ _ (lvl_eq (by omega) (e_X12_in (d + 0) x1 (0 : Int32) (99 : Int32) _ _ _ hc4))) ?_
    refine b_if_ne (tgt := 33) (pc := 24) C dX12_left_24 rfl (fun hc7 => ?_) (fun hc7 => ?_)
    · rw [if_neg hc7] at hF
      refine b_aload_n (pc := 33) C dX12_left_33 rfl 0 rfl ?_
      refine b_getS (pc := 34) C dX12_left_34 fl_X12_26 (Hh.1 _ _ sh_92) rfl ?_
      refine b_bipush (pc := 37) C dX12_left_37 bp_14 ?_
      refine b_ialdK (pc := 39) C dX12_left_39 (Hh.1 _ _ sh_97) tn_14 (by decide) ?_
      refine b_iload_n (pc := 40) C dX12_left_40 rfl 1 rfl ?_
      refine b_aload_n (pc := 41) C dX12_left_41 rfl 0 rfl ?_
      refine b_getS (pc := 42) C dX12_left_42 fl_X12_20 (Hh.1 _ _ sh_92) rfl ?_
      refine b_iconst (pc := 45) C dX12_left_45 ic_4 ?_
      refine b_ialdK (pc := 46) C dX12_left_46 (Hh.1 _ _ sh_95) tn_4 (by decide) ?_
      refine b_imul (pc := 47) C dX12_left_47 ?_
      refine b_isub (pc := 48) C dX12_left_48 ?_
      obtain ⟨x2_8, e9, hF⟩ := blet_e hF
      refine b_istore_n (L' := [(2, .int x2_8), (0, .ref 92), (1, .int x1)]) (pc := 49) C dX12_left_49 rfl e9 (Hh.2.1 _ (Nat.le_of_ble_eq_true rfl)) rfl ?_
      refine b_iload_n (pc := 50) C dX12_left_50 rfl 0 rfl ?_
      refine b_if_ge (tgt := 58) (pc := 51) C dX12_left_51 rfl (fun hc10 => ?_) (fun hc10 => ?_)
      · rw [if_pos hc10] at hF
        refine b_iload_n (pc := 58) C dX12_left_58 rfl 0 rfl ?_
        exact b_iret (pc := 59) C Rt dX12_left_59 hF
      · rw [if_neg hc10] at hF
        refine b_iconst (pc := 54) C dX12_left_54 ic_0 ?_
        refine b_goto (tgt := 59) (pc := 55) C dX12_left_55 rfl ?_
        exact b_iret (pc := 59) C Rt dX12_left_59 hF
    · rw [if_pos hc7] at hF
      refine b_aload_n (pc := 27) C dX12_left_27 rfl 0 rfl ?_
      refine b_iconst (pc := 28) C dX12_left_28 ic_2 ?_
      obtain ⟨v13, σ12, hc11, hF⟩ := bbd_e hF
      refine b_cV1i (d' := (d + 0)) (pc := 29) C dX12_left_29 mm_X12_184 (Hh.1 _ _ sh_92) rfl (Nat.le_of_ble_eq_true rfl) (by omega) (Hh.2.2 _ _ _ _ _ _ _ _ _ (lvl_eq (by omega) (e_X12_no (d + 0) (2 : Int32) _ _ _ hc11))) ?_
      exact b_iret (pc := 32) C Rt dX12_left_32 hF
  · rw [if_pos hc3] at hF
    refine b_aload_n (pc := 11) C dX12_left_11 rfl 0 rfl ?_
    refine b_iconst (pc := 12) C dX12_left_12 ic_1 ?_
    obtain ⟨v16, σ15, hc14, hF⟩ := bbd_e hF
    refine b_cV1i (d' := (d + 0)) (pc := 13) C dX12_left_13 mm_X12_184 (Hh.1 _ _ sh_92) rfl (Nat.le_of_ble_eq_true rfl) (by omega) (Hh.2.2 _ _ _ _ _ _ _ _ _ (lvl_eq (by omega) (e_X12_no (d + 0) (1 : Int32) _ _ _ hc14))) ?_
    exact b_iret (pc := 16) C Rt dX12_left_16 hF
set_option maxHeartbeats 4000000 in
set_option maxRecDepth 20000 in
theorem e_X12_left {l : Launch} {G : bG} {ρ : Nat → Nat} {A : Nat → Prop} (d : Nat) (x1 : Int32) (σ : bSto) (r : Int32) (σ' : bSto) (hF : f_X12_left x1 σ = some (r, σ')) : bEv l G bSHf ρ A yX12_left cX12_left 3 (some .int) (d + 1) [.ref 92, .int x1] σ (some (.int r)) σ' := b_met (d := d + 1) (by decide +kernel) (Nat.le_of_ble_eq_true rfl) rfl (fun X C Rt h1 h2 h3 => e_X12_left_0 C ⟨fun o q h => by rw [h1]; exact h, fun i h => by rw [h2]; exact h, h3⟩ Rt _ _ hF)
/-! BenchColonyModel.comesAt -/
def f_X12_comesAt (x0 : Int32) (x1 : Int32) (x2 : Int32) (σ : bSto) : Option (Int32 × bSto) := if x0 = 0 then none else (if (x2 - x2 / x0 * x0) = x1 then some ((1 : Int32), σ) else some ((0 : Int32), σ))
set_option maxHeartbeats 4000000 in
set_option maxRecDepth 20000 in
theorem e_X12_comesAt_0 {X : bX} {l : Launch} {G : bG} {ρ : Nat → Nat} {A : Nat → Prop} {d : Nat} {r : Int32} {σ' : bSto} (C : bCX X cX12_comesAt RX12 (d + 0)) (Hh : bH X l G bSHf ρ A 3) (Rt : bRX X (some .boolean) (some (.int r)) σ') (x0 : Int32) (x1 : Int32) (x2 : Int32) (σ : bSto) (hF : f_X12_comesAt x0 x1 x2 σ = some (r, σ')) : bAJ X 0 [(0, .int x0), (1, .int x1), (2, .int x2)] [] σ := by
  rw [f_X12_comesAt] at hF
  refine b_iload_n (pc := 0) C dX12_comesAt_0 rfl 2 rfl ?_
  refine b_iload_n (pc := 1) C dX12_comesAt_1 rfl 0 rfl ?_
  obtain ⟨hz1, hF⟩ := bif_n hF
  refine b_irem (pc := 2) C dX12_comesAt_2 hz1 ?_
  refine b_iload_n (pc := 3) C dX12_comesAt_3 rfl 1 rfl ?_
  refine b_icmp_ne (tgt := 11) (pc := 4) C dX12_comesAt_4 rfl (fun hc2 => ?_) (fun hc2 => ?_)
  · rw [if_neg hc2] at hF
    refine b_iconst (pc := 11) C dX12_comesAt_11 ic_0 ?_
    exact b_zret (pc := 12) C Rt dX12_comesAt_12 rfl hF
  · rw [if_pos hc2] at hF
    refine b_iconst (pc := 7) C dX12_comesAt_7 ic_1 ?_
    refine b_goto (tgt := 12) (pc := 8) C dX12_comesAt_8 rfl ?_
    exact b_zret (pc := 12) C Rt dX12_comesAt_12 rfl hF
set_option maxHeartbeats 4000000 in
set_option maxRecDepth 20000 in
theorem e_X12_comesAt {l : Launch} {G : bG} {ρ : Nat → Nat} {A : Nat → Prop} (d : Nat) (x0 : Int32) (x1 : Int32) (x2 : Int32) (σ : bSto) (r : Int32) (σ' : bSto) (hF : f_X12_comesAt x0 x1 x2 σ = some (r, σ')) : bEv l G bSHf ρ A yX12_comesAt cX12_comesAt 3 (some .boolean) (d + 0) [.int x0, .int x1, .int x2] σ (some (.int r)) σ' := b_met (d := d + 0) (by decide +kernel) (Nat.le_of_ble_eq_true rfl) rfl (fun X C Rt h1 h2 h3 => e_X12_comesAt_0 C ⟨fun o q h => by rw [h1]; exact h, fun i h => by rw [h2]; exact h, h3⟩ Rt _ _ _ _ hF)
/-! BenchColonyModel.doesFit -/
def f_X12_doesFit_J68_5 (k : Int32 → Int32 → Int32 → Int32 → bSto → Option (Int32 × bSto)) (x1 : Int32) (x2 : Int32) (x4 : Int32) (σ : bSto) : Option (Int32 × bSto) := blet (x4 + (1 : Int32)) (fun x4_1 => k x1 x2 (0 : Int32) x4_1 σ)
def f_X12_doesFit_J40_5 (k : Int32 → Int32 → Int32 → Int32 → bSto → Option (Int32 × bSto)) (x1 : Int32) (x2 : Int32) (x4 : Int32) (σ : bSto) : Option (Int32 × bSto) := if ((126 : Int32) + x4) < 0 ∨ 406 ≤ ((126 : Int32) + x4).toNatClampNeg then none else (if (σ.1 95 ((126 : Int32) + x4).toNatClampNeg) = (2 : Int32) then bbd (f_X12_comesAt x1 x2 x4 σ) (fun v7 σ6 => (if v7 = 0 then blet (x4 + (1 : Int32)) (fun x4_9 => k x1 x2 (1 : Int32) x4_9 σ6) else f_X12_doesFit_J68_5 k x1 x2 x4 σ6)) else blet (x4 + (1 : Int32)) (fun x4_3 => k x1 x2 (1 : Int32) x4_3 σ))
def f_X12_doesFit_L5 : Nat → Int32 → Int32 → Int32 → Int32 → bSto → Option (Int32 × bSto)
  | 0, _, _, _, _, _ => none
  | n + 1, x1, x2, x3, x4, σ => (if (100 : Int32) ≤ x4 then some (x3, σ) else (if x3 = 0 then f_X12_doesFit_J68_5 (f_X12_doesFit_L5 n) x1 x2 x4 σ else if ((126 : Int32) + x4) < 0 ∨ 406 ≤ ((126 : Int32) + x4).toNatClampNeg then none else (if (σ.1 95 ((126 : Int32) + x4).toNatClampNeg) = (1 : Int32) then bbd (f_X12_comesAt x1 x2 x4 σ) (fun v7 σ6 => (if v7 = 0 then f_X12_doesFit_J68_5 (f_X12_doesFit_L5 n) x1 x2 x4 σ6 else f_X12_doesFit_J40_5 (f_X12_doesFit_L5 n) x1 x2 x4 σ6)) else f_X12_doesFit_J40_5 (f_X12_doesFit_L5 n) x1 x2 x4 σ)))
def f_X12_doesFit (x1 : Int32) (x2 : Int32) (σ : bSto) : Option (Int32 × bSto) := bl1 (f_X12_doesFit_L5 bFU x1 x2 (1 : Int32) (0 : Int32) σ) (fun x3_1 σ2 => if x3_1 = 0 ∨ x3_1 = 1 then some (x3_1, σ2) else none)
set_option maxHeartbeats 4000000 in
set_option maxRecDepth 20000 in
theorem e_X12_doesFit_J68_5 {X : bX} {l : Launch} {G : bG} {ρ : Nat → Nat} {A : Nat → Prop} {d : Nat} {r : Int32} {σ' : bSto} (C : bCX X cX12_doesFit RX12 (d + 1)) (Hh : bH X l G bSHf ρ A 5) (Rt : bRX X (some .boolean) (some (.int r)) σ') {k : Int32 → Int32 → Int32 → Int32 → bSto → Option (Int32 × bSto)} (ih : ∀ (x1 : Int32) (x2 : Int32) (x3 : Int32) (x4 : Int32) (σ : bSto) (q : (Int32 × bSto)), k x1 x2 x3 x4 σ = some q → (∀ (x3 : Int32) (s : bSto), q = (x3, s) → bAJ X 76 [(3, .int x3)] [] s) → bAJ X 5 [(0, .ref 92), (1, .int x1), (2, .int x2), (3, .int x3), (4, .int x4)] [] σ) (x1 : Int32) (x2 : Int32) (x4 : Int32) (σ : bSto) (q : (Int32 × bSto)) (hF : f_X12_doesFit_J68_5 k x1 x2 x4 σ = some q) : (∀ (x3 : Int32) (s : bSto), q = (x3, s) → bAJ X 76 [(3, .int x3)] [] s) → bAJ X 68 [(0, .ref 92), (1, .int x1), (2, .int x2), (4, .int x4)] [] σ := by
  intro hx
  rw [f_X12_doesFit_J68_5] at hF
  refine b_iconst (pc := 68) C dX12_doesFit_68 ic_0 ?_
  refine b_istore_n (L' := [(3, .int (0 : Int32)), (0, .ref 92), (1, .int x1), (2, .int x2), (4, .int x4)]) (pc := 69) C dX12_doesFit_69 rfl rfl (Hh.2.1 _ (Nat.le_of_ble_eq_true rfl)) rfl ?_
  obtain ⟨x4_1, e2, hF⟩ := blet_e hF
  refine b_iinc (L' := [(4, .int x4_1), (3, .int (0 : Int32)), (0, .ref 92), (1, .int x1), (2, .int x2)]) (pc := 70) C dX12_doesFit_70 4 rfl ic_1 e2 (Hh.2.1 _ (Nat.le_of_ble_eq_true rfl)) rfl ?_
  refine b_goto (tgt := 5) (pc := 73) C dX12_doesFit_73 rfl ?_
  exact b_sub [2, 3, 4, 1, 0] rfl (ih x1 x2 (0 : Int32) x4_1 _ _ hF hx)
set_option maxHeartbeats 4000000 in
set_option maxRecDepth 20000 in
theorem e_X12_doesFit_J40_5 {X : bX} {l : Launch} {G : bG} {ρ : Nat → Nat} {A : Nat → Prop} {d : Nat} {r : Int32} {σ' : bSto} (C : bCX X cX12_doesFit RX12 (d + 1)) (Hh : bH X l G bSHf ρ A 5) (Rt : bRX X (some .boolean) (some (.int r)) σ') {k : Int32 → Int32 → Int32 → Int32 → bSto → Option (Int32 × bSto)} (ih : ∀ (x1 : Int32) (x2 : Int32) (x3 : Int32) (x4 : Int32) (σ : bSto) (q : (Int32 × bSto)), k x1 x2 x3 x4 σ = some q → (∀ (x3 : Int32) (s : bSto), q = (x3, s) → bAJ X 76 [(3, .int x3)] [] s) → bAJ X 5 [(0, .ref 92), (1, .int x1), (2, .int x2), (3, .int x3), (4, .int x4)] [] σ) (x1 : Int32) (x2 : Int32) (x4 : Int32) (σ : bSto) (q : (Int32 × bSto)) (hF : f_X12_doesFit_J40_5 k x1 x2 x4 σ = some q) : (∀ (x3 : Int32) (s : bSto), q = (x3, s) → bAJ X 76 [(3, .int x3)] [] s) → bAJ X 40 [(0, .ref 92), (1, .int x1), (2, .int x2), (4, .int x4)] [] σ := by
  intro hx
  rw [f_X12_doesFit_J40_5] at hF
  refine b_aload_n (pc := 40) C dX12_doesFit_40 rfl 0 rfl ?_
  refine b_getS (pc := 41) C dX12_doesFit_41 fl_X12_20 (Hh.1 _ _ sh_92) rfl ?_
  refine b_bipush (pc := 44) C dX12_doesFit_44 bp_126 ?_
  refine b_iload (pc := 46) C dX12_doesFit_46 3 rfl ?_
  refine b_iadd (pc := 48) C dX12_doesFit_48 ?_
  obtain ⟨hb1, hF⟩ := bif_n hF
  refine b_iald (pc := 49) C dX12_doesFit_49 (Hh.1 _ _ sh_95) hb1 ?_
  refine b_iconst (pc := 50) C dX12_doesFit_50 ic_2 ?_
  refine b_icmp_ne (tgt := 64) (pc := 51) C dX12_doesFit_51 rfl (fun hc2 => ?_) (fun hc2 => ?_)
  · rw [if_neg hc2] at hF
    refine b_iconst (pc := 64) C dX12_doesFit_64 ic_1 ?_
    refine b_goto (tgt := 69) (pc := 65) C dX12_doesFit_65 rfl ?_
    refine b_istore_n (L' := [(3, .int (1 : Int32)), (0, .ref 92), (1, .int x1), (2, .int x2), (4, .int x4)]) (pc := 69) C dX12_doesFit_69 rfl rfl (Hh.2.1 _ (Nat.le_of_ble_eq_true rfl)) rfl ?_
    obtain ⟨x4_3, e4, hF⟩ := blet_e hF
    refine b_iinc (L' := [(4, .int x4_3), (3, .int (1 : Int32)), (0, .ref 92), (1, .int x1), (2, .int x2)]) (pc := 70) C dX12_doesFit_70 4 rfl ic_1 e4 (Hh.2.1 _ (Nat.le_of_ble_eq_true rfl)) rfl ?_
    refine b_goto (tgt := 5) (pc := 73) C dX12_doesFit_73 rfl ?_
    exact b_sub [2, 3, 4, 1, 0] rfl (ih x1 x2 (1 : Int32) x4_3 _ _ hF hx)
  · rw [if_pos hc2] at hF
    refine b_iload_n (pc := 54) C dX12_doesFit_54 rfl 1 rfl ?_
    refine b_iload_n (pc := 55) C dX12_doesFit_55 rfl 2 rfl ?_
    refine b_iload (pc := 56) C dX12_doesFit_56 3 rfl ?_
    obtain ⟨v7, σ6, hc5, hF⟩ := bbd_e hF
    refine b_cS3i (d' := (d + 0)) (pc := 58) C dX12_doesFit_58 mm_X12_376 (Nat.le_of_ble_eq_true rfl) (by omega) (Hh.2.2 _ _ _ _ _ _ _ _ _ (lvl_eq (by omega) (e_X12_comesAt (d + 0) x1 x2 x4 _ _ _ hc5))) ?_
    refine b_if_ne (tgt := 68) (pc := 61) C dX12_doesFit_61 rfl (fun hc8 => ?_) (fun hc8 => ?_)
    · rw [if_neg hc8] at hF
      exact b_sub [0, 1, 2, 3] rfl (e_X12_doesFit_J68_5 C Hh Rt ih x1 x2 x4 _ _ hF hx)
    · rw [if_pos hc8] at hF
      refine b_iconst (pc := 64) C dX12_doesFit_64 ic_1 ?_
      refine b_goto (tgt := 69) (pc := 65) C dX12_doesFit_65 rfl ?_
      refine b_istore_n (L' := [(3, .int (1 : Int32)), (0, .ref 92), (1, .int x1), (2, .int x2), (4, .int x4)]) (pc := 69) C dX12_doesFit_69 rfl rfl (Hh.2.1 _ (Nat.le_of_ble_eq_true rfl)) rfl ?_
      obtain ⟨x4_9, e10, hF⟩ := blet_e hF
      refine b_iinc (L' := [(4, .int x4_9), (3, .int (1 : Int32)), (0, .ref 92), (1, .int x1), (2, .int x2)]) (pc := 70) C dX12_doesFit_70 4 rfl ic_1 e10 (Hh.2.1 _ (Nat.le_of_ble_eq_true rfl)) rfl ?_
      refine b_goto (tgt := 5) (pc := 73) C dX12_doesFit_73 rfl ?_
      exact b_sub [2, 3, 4, 1, 0] rfl (ih x1 x2 (1 : Int32) x4_9 _ _ hF hx)
set_option maxHeartbeats 4000000 in
set_option maxRecDepth 20000 in
theorem e_X12_doesFit_L5 {X : bX} {l : Launch} {G : bG} {ρ : Nat → Nat} {A : Nat → Prop} {d : Nat} {r : Int32} {σ' : bSto} (C : bCX X cX12_doesFit RX12 (d + 1)) (Hh : bH X l G bSHf ρ A 5) (Rt : bRX X (some .boolean) (some (.int r)) σ') : ∀ (n : Nat) (x1 : Int32) (x2 : Int32) (x3 : Int32) (x4 : Int32) (σ : bSto) (q : (Int32 × bSto)), f_X12_doesFit_L5 n x1 x2 x3 x4 σ = some q → (∀ (x3 : Int32) (s : bSto), q = (x3, s) → bAJ X 76 [(3, .int x3)] [] s) → bAJ X 5 [(0, .ref 92), (1, .int x1), (2, .int x2), (3, .int x3), (4, .int x4)] [] σ := by
  intro n
  induction n with
  | zero => intro x1 x2 x3 x4 σ q hF; rw [f_X12_doesFit_L5] at hF; cases hF
  | succ n ih =>
    intro x1 x2 x3 x4 σ q hF hx
    rw [f_X12_doesFit_L5] at hF
    refine b_iload (pc := 5) C dX12_doesFit_5 4 rfl ?_
    refine b_bipush (pc := 7) C dX12_doesFit_7 bp_100 ?_
    refine b_icmp_ge (tgt := 76) (pc := 9) C dX12_doesFit_9 rfl (fun hc1 => ?_) (fun hc1 => ?_)
    · rw [if_pos hc1] at hF
      exact b_sub [3] rfl (hx _ _ (Option.some.inj hF).symm )
    · rw [if_neg hc1] at hF
      refine b_iload_n (pc := 12) C dX12_doesFit_12 rfl 3 rfl ?_
      refine b_if_eq (tgt := 68) (pc := 13) C dX12_doesFit_13 rfl (fun hc2 => ?_) (fun hc2 => ?_)
      · rw [if_pos hc2] at hF
        exact b_sub [0, 1, 2, 4] rfl (e_X12_doesFit_J68_5 C Hh Rt ih x1 x2 x4 _ _ hF hx)
      · rw [if_neg hc2] at hF
        refine b_aload_n (pc := 16) C dX12_doesFit_16 rfl 0 rfl ?_
        refine b_getS (pc := 17) C dX12_doesFit_17 fl_X12_20 (Hh.1 _ _ sh_92) rfl ?_
        refine b_bipush (pc := 20) C dX12_doesFit_20 bp_126 ?_
        refine b_iload (pc := 22) C dX12_doesFit_22 4 rfl ?_
        refine b_iadd (pc := 24) C dX12_doesFit_24 ?_
        obtain ⟨hb3, hF⟩ := bif_n hF
        refine b_iald (pc := 25) C dX12_doesFit_25 (Hh.1 _ _ sh_95) hb3 ?_
        refine b_iconst (pc := 26) C dX12_doesFit_26 ic_1 ?_
        refine b_icmp_ne (tgt := 40) (pc := 27) C dX12_doesFit_27 rfl (fun hc4 => ?_) (fun hc4 => ?_)
        · rw [if_neg hc4] at hF
          exact b_sub [0, 1, 2, 4] rfl (e_X12_doesFit_J40_5 C Hh Rt ih x1 x2 x4 _ _ hF hx)
        · rw [if_pos hc4] at hF
          refine b_iload_n (pc := 30) C dX12_doesFit_30 rfl 1 rfl ?_
          refine b_iload_n (pc := 31) C dX12_doesFit_31 rfl 2 rfl ?_
          refine b_iload (pc := 32) C dX12_doesFit_32 4 rfl ?_
          obtain ⟨v7, σ6, hc5, hF⟩ := bbd_e hF
          refine b_cS3i (d' := (d + 0)) (pc := 34) C dX12_doesFit_34 mm_X12_376 (Nat.le_of_ble_eq_true rfl) (by omega) (Hh.2.2 _ _ _ _ _ _ _ _ _ (lvl_eq (by omega) (e_X12_comesAt (d + 0) x1 x2 x4 _ _ _ hc5))) ?_
          refine b_if_eq (tgt := 68) (pc := 37) C dX12_doesFit_37 rfl (fun hc8 => ?_) (fun hc8 => ?_)
          · rw [if_pos hc8] at hF
            exact b_sub [0, 1, 2, 4] rfl (e_X12_doesFit_J68_5 C Hh Rt ih x1 x2 x4 _ _ hF hx)
          · rw [if_neg hc8] at hF
            exact b_sub [0, 1, 2, 4] rfl (e_X12_doesFit_J40_5 C Hh Rt ih x1 x2 x4 _ _ hF hx)
set_option maxHeartbeats 4000000 in
set_option maxRecDepth 20000 in
theorem e_X12_doesFit_0 {X : bX} {l : Launch} {G : bG} {ρ : Nat → Nat} {A : Nat → Prop} {d : Nat} {r : Int32} {σ' : bSto} (C : bCX X cX12_doesFit RX12 (d + 1)) (Hh : bH X l G bSHf ρ A 5) (Rt : bRX X (some .boolean) (some (.int r)) σ') (x1 : Int32) (x2 : Int32) (σ : bSto) (hF : f_X12_doesFit x1 x2 σ = some (r, σ')) : bAJ X 0 [(0, .ref 92), (1, .int x1), (2, .int x2)] [] σ := by
  rw [f_X12_doesFit] at hF
  refine b_iconst (pc := 0) C dX12_doesFit_0 ic_1 ?_
  refine b_istore_n (L' := [(3, .int (1 : Int32)), (0, .ref 92), (1, .int x1), (2, .int x2)]) (pc := 1) C dX12_doesFit_1 rfl rfl (Hh.2.1 _ (Nat.le_of_ble_eq_true rfl)) rfl ?_
  refine b_iconst (pc := 2) C dX12_doesFit_2 ic_0 ?_
  refine b_istore (L' := [(4, .int (0 : Int32)), (3, .int (1 : Int32)), (0, .ref 92), (1, .int x1), (2, .int x2)]) (pc := 3) C dX12_doesFit_3 rfl (Hh.2.1 _ (Nat.le_of_ble_eq_true rfl)) rfl ?_
  obtain ⟨x3_1, σ2, hq1, hF⟩ := bl1_e hF
  refine b_sub [2, 3, 4, 1, 0] rfl (e_X12_doesFit_L5 C Hh Rt bFU x1 x2 (1 : Int32) (0 : Int32) _ _ hq1 (fun _ _ e  => ?_))
  cases e
  refine b_iload_n (pc := 76) C dX12_doesFit_76 rfl 0 rfl ?_
  obtain ⟨hz3, hF⟩ := bif_y hF
  exact b_zret (pc := 77) C Rt dX12_doesFit_77 (bz_n hz3) hF
set_option maxHeartbeats 4000000 in
set_option maxRecDepth 20000 in
theorem e_X12_doesFit {l : Launch} {G : bG} {ρ : Nat → Nat} {A : Nat → Prop} (d : Nat) (x1 : Int32) (x2 : Int32) (σ : bSto) (r : Int32) (σ' : bSto) (hF : f_X12_doesFit x1 x2 σ = some (r, σ')) : bEv l G bSHf ρ A yX12_doesFit cX12_doesFit 5 (some .boolean) (d + 1) [.ref 92, .int x1, .int x2] σ (some (.int r)) σ' := b_met (d := d + 1) (by decide +kernel) (Nat.le_of_ble_eq_true rfl) rfl (fun X C Rt h1 h2 h3 => e_X12_doesFit_0 C ⟨fun o q h => by rw [h1]; exact h, fun i h => by rw [h2]; exact h, h3⟩ Rt _ _ _ hF)
