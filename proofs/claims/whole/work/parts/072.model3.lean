/-! BenchColonyModel.fitting -/
def f_X12_fitting_J54_15 (k : Int32 → Int32 → Int32 → Int32 → Int32 → bSto → Option (Int32 × Int32 × Int32 × Int32 × bSto)) (x1 : Int32) (x2 : Int32) (x4 : Int32) (x5 : Int32) (s0 : Int32) (s1 : Int32) (σ : bSto) : Option (Int32 × Int32 × Int32 × Int32 × bSto) := blet (s0 + s1) (fun x3_1 => blet (x5 + (1 : Int32)) (fun x5_3 => k x1 x2 x3_1 x4 x5_3 σ))
def f_X12_fitting_J53_15 (k : Int32 → Int32 → Int32 → Int32 → Int32 → bSto → Option (Int32 × Int32 × Int32 × Int32 × bSto)) (x1 : Int32) (x2 : Int32) (x4 : Int32) (x5 : Int32) (s0 : Int32) (σ : bSto) : Option (Int32 × Int32 × Int32 × Int32 × bSto) := f_X12_fitting_J54_15 k x1 x2 x4 x5 s0 (0 : Int32) σ
def f_X12_fitting_L15 : Nat → Int32 → Int32 → Int32 → Int32 → Int32 → bSto → Option (Int32 × Int32 × Int32 × Int32 × bSto)
  | 0, _, _, _, _, _, _ => none
  | n + 1, x1, x2, x3, x4, x5, σ => (if x4 ≤ x5 then some (x1, x2, x3, x4, σ) else bbd (f_X12_doesFit x4 x5 σ) (fun v4 σ3 => (if v4 = 0 then f_X12_fitting_J53_15 (f_X12_fitting_L15 n) x1 x2 x4 x5 x3 σ3 else (if x2 = 0 then bbd (f_X12_comesAt x4 x5 x1 σ3) (fun v9 σ8 => (if v9 = 0 then f_X12_fitting_J53_15 (f_X12_fitting_L15 n) x1 x2 x4 x5 x3 σ8 else f_X12_fitting_J54_15 (f_X12_fitting_L15 n) x1 x2 x4 x5 x3 (1 : Int32) σ8)) else f_X12_fitting_J54_15 (f_X12_fitting_L15 n) x1 x2 x4 x5 x3 (1 : Int32) σ3))))
def f_X12_fitting_L5 : Nat → Int32 → Int32 → Int32 → Int32 → bSto → Option (Int32 × bSto)
  | 0, _, _, _, _, _ => none
  | n + 1, x1, x2, x3, x4, σ => (if (12 : Int32) < x4 then some (x3, σ) else bl4 (f_X12_fitting_L15 bFU x1 x2 x3 x4 (0 : Int32) σ) (fun x1_2 x2_2 x3_2 x4_2 σ3 => blet (x4_2 + (1 : Int32)) (fun x4_4 => f_X12_fitting_L5 n x1_2 x2_2 x3_2 x4_4 σ3)))
def f_X12_fitting (x1 : Int32) (x2 : Int32) (σ : bSto) : Option (Int32 × bSto) := bl1 (f_X12_fitting_L5 bFU x1 x2 (0 : Int32) (2 : Int32) σ) (fun x3_1 σ2 => some (x3_1, σ2))
set_option maxHeartbeats 4000000 in
set_option maxRecDepth 20000 in
theorem e_X12_fitting_J54_15 {X : bX} {l : Launch} {G : bG} {ρ : Nat → Nat} {A : Nat → Prop} {d : Nat} {r : Int32} {σ' : bSto} (C : bCX X cX12_fitting RX12 (d + 2)) (Hh : bH X l G bSHf ρ A 6) (Rt : bRX X (some .int) (some (.int r)) σ') {k : Int32 → Int32 → Int32 → Int32 → Int32 → bSto → Option (Int32 × Int32 × Int32 × Int32 × bSto)} (ih : ∀ (x1 : Int32) (x2 : Int32) (x3 : Int32) (x4 : Int32) (x5 : Int32) (σ : bSto) (q : (Int32 × Int32 × Int32 × Int32 × bSto)), k x1 x2 x3 x4 x5 σ = some q → (∀ (x1 : Int32) (x2 : Int32) (x3 : Int32) (x4 : Int32) (s : bSto), q = (x1, x2, x3, x4, s) → bAJ X 62 [(0, .ref 92), (1, .int x1), (2, .int x2), (3, .int x3), (4, .int x4)] [] s) → bAJ X 15 [(0, .ref 92), (1, .int x1), (2, .int x2), (3, .int x3), (4, .int x4), (5, .int x5)] [] σ) (x1 : Int32) (x2 : Int32) (x4 : Int32) (x5 : Int32) (s0 : Int32) (s1 : Int32) (σ : bSto) (q : (Int32 × Int32 × Int32 × Int32 × bSto)) (hF : f_X12_fitting_J54_15 k x1 x2 x4 x5 s0 s1 σ = some q) : (∀ (x1 : Int32) (x2 : Int32) (x3 : Int32) (x4 : Int32) (s : bSto), q = (x1, x2, x3, x4, s) → bAJ X 62 [(0, .ref 92), (1, .int x1), (2, .int x2), (3, .int x3), (4, .int x4)] [] s) → bAJ X 54 [(0, .ref 92), (1, .int x1), (2, .int x2), (4, .int x4), (5, .int x5)] [.int s1, .int s0] σ := by
  intro hx
  rw [f_X12_fitting_J54_15] at hF
  refine b_iadd (pc := 54) C dX12_fitting_54 ?_
  obtain ⟨x3_1, e2, hF⟩ := blet_e hF
  refine b_istore_n (L' := [(3, .int x3_1), (0, .ref 92), (1, .int x1), (2, .int x2), (4, .int x4), (5, .int x5)]) (pc := 55) C dX12_fitting_55 rfl e2 (Hh.2.1 _ (Nat.le_of_ble_eq_true rfl)) rfl ?_
  obtain ⟨x5_3, e4, hF⟩ := blet_e hF
  refine b_iinc (L' := [(5, .int x5_3), (3, .int x3_1), (0, .ref 92), (1, .int x1), (2, .int x2), (4, .int x4)]) (pc := 56) C dX12_fitting_56 5 rfl ic_1 e4 (Hh.2.1 _ (Nat.le_of_ble_eq_true rfl)) rfl ?_
  refine b_goto (tgt := 15) (pc := 59) C dX12_fitting_59 rfl ?_
  exact b_sub [2, 3, 4, 1, 5, 0] rfl (ih x1 x2 x3_1 x4 x5_3 _ _ hF hx)
set_option maxHeartbeats 4000000 in
set_option maxRecDepth 20000 in
theorem e_X12_fitting_J53_15 {X : bX} {l : Launch} {G : bG} {ρ : Nat → Nat} {A : Nat → Prop} {d : Nat} {r : Int32} {σ' : bSto} (C : bCX X cX12_fitting RX12 (d + 2)) (Hh : bH X l G bSHf ρ A 6) (Rt : bRX X (some .int) (some (.int r)) σ') {k : Int32 → Int32 → Int32 → Int32 → Int32 → bSto → Option (Int32 × Int32 × Int32 × Int32 × bSto)} (ih : ∀ (x1 : Int32) (x2 : Int32) (x3 : Int32) (x4 : Int32) (x5 : Int32) (σ : bSto) (q : (Int32 × Int32 × Int32 × Int32 × bSto)), k x1 x2 x3 x4 x5 σ = some q → (∀ (x1 : Int32) (x2 : Int32) (x3 : Int32) (x4 : Int32) (s : bSto), q = (x1, x2, x3, x4, s) → bAJ X 62 [(0, .ref 92), (1, .int x1), (2, .int x2), (3, .int x3), (4, .int x4)] [] s) → bAJ X 15 [(0, .ref 92), (1, .int x1), (2, .int x2), (3, .int x3), (4, .int x4), (5, .int x5)] [] σ) (x1 : Int32) (x2 : Int32) (x4 : Int32) (x5 : Int32) (s0 : Int32) (σ : bSto) (q : (Int32 × Int32 × Int32 × Int32 × bSto)) (hF : f_X12_fitting_J53_15 k x1 x2 x4 x5 s0 σ = some q) : (∀ (x1 : Int32) (x2 : Int32) (x3 : Int32) (x4 : Int32) (s : bSto), q = (x1, x2, x3, x4, s) → bAJ X 62 [(0, .ref 92), (1, .int x1), (2, .int x2), (3, .int x3), (4, .int x4)] [] s) → bAJ X 53 [(0, .ref 92), (1, .int x1), (2, .int x2), (4, .int x4), (5, .int x5)] [.int s0] σ := by
  intro hx
  rw [f_X12_fitting_J53_15] at hF
  refine b_iconst (pc := 53) C dX12_fitting_53 ic_0 ?_
  exact b_sub [0, 1, 2, 3, 4] rfl (e_X12_fitting_J54_15 C Hh Rt ih x1 x2 x4 x5 s0 (0 : Int32) _ _ hF hx)
set_option maxHeartbeats 4000000 in
set_option maxRecDepth 20000 in
theorem e_X12_fitting_L15 {X : bX} {l : Launch} {G : bG} {ρ : Nat → Nat} {A : Nat → Prop} {d : Nat} {r : Int32} {σ' : bSto} (C : bCX X cX12_fitting RX12 (d + 2)) (Hh : bH X l G bSHf ρ A 6) (Rt : bRX X (some .int) (some (.int r)) σ') : ∀ (n : Nat) (x1 : Int32) (x2 : Int32) (x3 : Int32) (x4 : Int32) (x5 : Int32) (σ : bSto) (q : (Int32 × Int32 × Int32 × Int32 × bSto)), f_X12_fitting_L15 n x1 x2 x3 x4 x5 σ = some q → (∀ (x1 : Int32) (x2 : Int32) (x3 : Int32) (x4 : Int32) (s : bSto), q = (x1, x2, x3, x4, s) → bAJ X 62 [(0, .ref 92), (1, .int x1), (2, .int x2), (3, .int x3), (4, .int x4)] [] s) → bAJ X 15 [(0, .ref 92), (1, .int x1), (2, .int x2), (3, .int x3), (4, .int x4), (5, .int x5)] [] σ := by
  intro n
  induction n with
  | zero => intro x1 x2 x3 x4 x5 σ q hF; rw [f_X12_fitting_L15] at hF; cases hF
  | succ n ih =>
    intro x1 x2 x3 x4 x5 σ q hF hx
    rw [f_X12_fitting_L15] at hF
    refine b_iload (pc := 15) C dX12_fitting_15 5 rfl ?_
    refine b_iload (pc := 17) C dX12_fitting_17 4 rfl ?_
    refine b_icmp_ge (tgt := 62) (pc := 19) C dX12_fitting_19 rfl (fun hc1 => ?_) (fun hc1 => ?_)
    · rw [if_pos hc1] at hF
      exact b_sub [0, 1, 2, 3, 4] rfl (hx _ _ _ _ _ (Option.some.inj hF).symm )
    · rw [if_neg hc1] at hF
      refine b_iload_n (pc := 22) C dX12_fitting_22 rfl 3 rfl ?_
      refine b_aload_n (pc := 23) C dX12_fitting_23 rfl 0 rfl ?_
      refine b_iload (pc := 24) C dX12_fitting_24 4 rfl ?_
      refine b_iload (pc := 26) C dX12_fitting_26 5 rfl ?_
      obtain ⟨v4, σ3, hc2, hF⟩ := bbd_e hF
      refine b_cV2i (d' := (d + 1)) (pc := 28) C dX12_fitting_28 mm_X12_379 (Hh.1 _ _ sh_92) rfl (Nat.le_of_ble_eq_true rfl) (by omega) (Hh.2.2 _ _ _ _ _ _ _ _ _ (lvl_eq (by omega) (e_X12_doesFit (d + 0) x4 x5 _ _ _ hc2))) ?_
      refine b_if_eq (tgt := 53) (pc := 31) C dX12_fitting_31 rfl (fun hc5 => ?_) (fun hc5 => ?_)
      · rw [if_pos hc5] at hF
        exact b_sub [0, 1, 2, 4, 5] rfl (e_X12_fitting_J53_15 C Hh Rt ih x1 x2 x4 x5 x3 _ _ hF hx)
      · rw [if_neg hc5] at hF
        refine b_iload_n (pc := 34) C dX12_fitting_34 rfl 2 rfl ?_
        refine b_if_ne (tgt := 49) (pc := 35) C dX12_fitting_35 rfl (fun hc6 => ?_) (fun hc6 => ?_)
        · rw [if_neg hc6] at hF
          refine b_iconst (pc := 49) C dX12_fitting_49 ic_1 ?_
          refine b_goto (tgt := 54) (pc := 50) C dX12_fitting_50 rfl ?_
          exact b_sub [0, 1, 2, 4, 5] rfl (e_X12_fitting_J54_15 C Hh Rt ih x1 x2 x4 x5 x3 (1 : Int32) _ _ hF hx)
        · rw [if_pos hc6] at hF
          refine b_iload (pc := 38) C dX12_fitting_38 4 rfl ?_
          refine b_iload (pc := 40) C dX12_fitting_40 5 rfl ?_
          refine b_iload_n (pc := 42) C dX12_fitting_42 rfl 1 rfl ?_
          obtain ⟨v9, σ8, hc7, hF⟩ := bbd_e hF
          refine b_cS3i (d' := (d + 1)) (pc := 43) C dX12_fitting_43 mm_X12_376 (Nat.le_of_ble_eq_true rfl) (by omega) (Hh.2.2 _ _ _ _ _ _ _ _ _ (lvl_eq (by omega) (e_X12_comesAt (d + 1) x4 x5 x1 _ _ _ hc7))) ?_
          refine b_if_eq (tgt := 53) (pc := 46) C dX12_fitting_46 rfl (fun hc10 => ?_) (fun hc10 => ?_)
          · rw [if_pos hc10] at hF
            exact b_sub [0, 1, 2, 4, 5] rfl (e_X12_fitting_J53_15 C Hh Rt ih x1 x2 x4 x5 x3 _ _ hF hx)
          · rw [if_neg hc10] at hF
            refine b_iconst (pc := 49) C dX12_fitting_49 ic_1 ?_
            refine b_goto (tgt := 54) (pc := 50) C dX12_fitting_50 rfl ?_
            exact b_sub [0, 1, 2, 4, 5] rfl (e_X12_fitting_J54_15 C Hh Rt ih x1 x2 x4 x5 x3 (1 : Int32) _ _ hF hx)
set_option maxHeartbeats 4000000 in
set_option maxRecDepth 20000 in
theorem e_X12_fitting_L5 {X : bX} {l : Launch} {G : bG} {ρ : Nat → Nat} {A : Nat → Prop} {d : Nat} {r : Int32} {σ' : bSto} (C : bCX X cX12_fitting RX12 (d + 2)) (Hh : bH X l G bSHf ρ A 6) (Rt : bRX X (some .int) (some (.int r)) σ') : ∀ (n : Nat) (x1 : Int32) (x2 : Int32) (x3 : Int32) (x4 : Int32) (σ : bSto) (q : (Int32 × bSto)), f_X12_fitting_L5 n x1 x2 x3 x4 σ = some q → (∀ (x3 : Int32) (s : bSto), q = (x3, s) → bAJ X 68 [(3, .int x3)] [] s) → bAJ X 5 [(0, .ref 92), (1, .int x1), (2, .int x2), (3, .int x3), (4, .int x4)] [] σ := by
  intro n
  induction n with
  | zero => intro x1 x2 x3 x4 σ q hF; rw [f_X12_fitting_L5] at hF; cases hF
  | succ n ih =>
    intro x1 x2 x3 x4 σ q hF hx
    rw [f_X12_fitting_L5] at hF
    refine b_iload (pc := 5) C dX12_fitting_5 4 rfl ?_
    refine b_bipush (pc := 7) C dX12_fitting_7 bp_12 ?_
    refine b_icmp_gt (tgt := 68) (pc := 9) C dX12_fitting_9 rfl (fun hc1 => ?_) (fun hc1 => ?_)
    · rw [if_pos hc1] at hF
      exact b_sub [3] rfl (hx _ _ (Option.some.inj hF).symm )
    · rw [if_neg hc1] at hF
      refine b_iconst (pc := 12) C dX12_fitting_12 ic_0 ?_
      refine b_istore (L' := [(5, .int (0 : Int32)), (0, .ref 92), (1, .int x1), (2, .int x2), (3, .int x3), (4, .int x4)]) (pc := 13) C dX12_fitting_13 rfl (Hh.2.1 _ (Nat.le_of_ble_eq_true rfl)) rfl ?_
      obtain ⟨x1_2, x2_2, x3_2, x4_2, σ3, hq2, hF⟩ := bl4_e hF
      refine b_sub [1, 2, 3, 4, 5, 0] rfl (e_X12_fitting_L15 C Hh Rt bFU x1 x2 x3 x4 (0 : Int32) _ _ hq2 (fun _ _ _ _ _ e  => ?_))
      cases e
      obtain ⟨x4_4, e5, hF⟩ := blet_e hF
      refine b_iinc (L' := [(4, .int x4_4), (0, .ref 92), (1, .int x1_2), (2, .int x2_2), (3, .int x3_2)]) (pc := 62) C dX12_fitting_62 4 rfl ic_1 e5 (Hh.2.1 _ (Nat.le_of_ble_eq_true rfl)) rfl ?_
      refine b_goto (tgt := 5) (pc := 65) C dX12_fitting_65 rfl ?_
      exact b_sub [1, 2, 3, 4, 0] rfl (ih x1_2 x2_2 x3_2 x4_4 _ _ hF hx)
set_option maxHeartbeats 4000000 in
set_option maxRecDepth 20000 in
theorem e_X12_fitting_0 {X : bX} {l : Launch} {G : bG} {ρ : Nat → Nat} {A : Nat → Prop} {d : Nat} {r : Int32} {σ' : bSto} (C : bCX X cX12_fitting RX12 (d + 2)) (Hh : bH X l G bSHf ρ A 6) (Rt : bRX X (some .int) (some (.int r)) σ') (x1 : Int32) (x2 : Int32) (σ : bSto) (hF : f_X12_fitting x1 x2 σ = some (r, σ')) : bAJ X 0 [(0, .ref 92), (1, .int x1), (2, .int x2)] [] σ := by
  rw [f_X12_fitting] at hF
  refine b_iconst (pc := 0) C dX12_fitting_0 ic_0 ?_
  refine b_istore_n (L' := [(3, .int (0 : Int32)), (0, .ref 92), (1, .int x1), (2, .int x2)]) (pc := 1) C dX12_fitting_1 rfl rfl (Hh.2.1 _ (Nat.le_of_ble_eq_true rfl)) rfl ?_
  refine b_iconst (pc := 2) C dX12_fitting_2 ic_2 ?_
  refine b_istore (L' := [(4, .int (2 : Int32)), (3, .int (0 : Int32)), (0, .ref 92), (1, .int x1), (2, .int x2)]) (pc := 3) C dX12_fitting_3 rfl (Hh.2.1 _ (Nat.le_of_ble_eq_true rfl)) rfl ?_
  obtain ⟨x3_1, σ2, hq1, hF⟩ := bl1_e hF
  refine b_sub [2, 3, 4, 1, 0] rfl (e_X12_fitting_L5 C Hh Rt bFU x1 x2 (0 : Int32) (2 : Int32) _ _ hq1 (fun _ _ e  => ?_))
  cases e
  refine b_iload_n (pc := 68) C dX12_fitting_68 rfl 0 rfl ?_
  exact b_iret (pc := 69) C Rt dX12_fitting_69 hF
set_option maxHeartbeats 4000000 in
set_option maxRecDepth 20000 in
theorem e_X12_fitting {l : Launch} {G : bG} {ρ : Nat → Nat} {A : Nat → Prop} (d : Nat) (x1 : Int32) (x2 : Int32) (σ : bSto) (r : Int32) (σ' : bSto) (hF : f_X12_fitting x1 x2 σ = some (r, σ')) : bEv l G bSHf ρ A yX12_fitting cX12_fitting 6 (some .int) (d + 2) [.ref 92, .int x1, .int x2] σ (some (.int r)) σ' := b_met (d := d + 2) (by decide +kernel) (Nat.le_of_ble_eq_true rfl) rfl (fun X C Rt h1 h2 h3 => e_X12_fitting_0 C ⟨fun o q h => by rw [h1]; exact h, fun i h => by rw [h2]; exact h, h3⟩ Rt _ _ _ hF)
/-! BenchColonyModel.trains -/
def f_X12_trains  (σ : bSto) : Option (Int32 × bSto) := bbv (f_X12_good  σ) (fun σ2 => (if (σ2.1 92 14) = 0 then bbd (f_X12_no (1 : Int32) σ2) (fun v6 σ5 => some (v6, σ5)) else bbd (f_X12_fitting (0 : Int32) (1 : Int32) σ2) (fun v9 σ8 => some (v9, σ8))))
set_option maxHeartbeats 4000000 in
set_option maxRecDepth 20000 in
theorem e_X12_trains_0 {X : bX} {l : Launch} {G : bG} {ρ : Nat → Nat} {A : Nat → Prop} {d : Nat} {r : Int32} {σ' : bSto} (C : bCX X cX12_trains RX12 (d + 3)) (Hh : bH X l G bSHf ρ A 1) (Rt : bRX X (some .int) (some (.int r)) σ')  (σ : bSto) (hF : f_X12_trains  σ = some (r, σ')) : bAJ X 0 [(0, .ref 92)] [] σ := by
  rw [f_X12_trains] at hF
  refine b_aload_n (pc := 0) C dX12_trains_0 rfl 0 rfl ?_
  obtain ⟨σ2, hc1, hF⟩ := bbv_e hF
  refine b_cV0v (d' := (d + 2)) (pc := 1) C dX12_trains_1 mm_X12_181 (Hh.1 _ _ sh_92) rfl (Nat.le_of_ble_eq_true rfl) (by omega) (Hh.2.2 _ _ _ _ _ _ _ _ _ (lvl_eq (by omega) (e_X12_good (d + 2)  _ _ hc1))) ?_
  refine b_aload_n (pc := 4) C dX12_trains_4 rfl 0 rfl ?_
  refine b_getI (pc := 5) C dX12_trains_5 fl_X12_194 (Hh.1 _ _ sh_92) rfl ?_
  refine b_if_eq (tgt := 20) (pc := 8) C dX12_trains_8 rfl (fun hc3 => ?_) (fun hc3 => ?_)
  · rw [if_pos hc3] at hF
    refine b_aload_n (pc := 20) C dX12_trains_20 rfl 0 rfl ?_
    refine b_iconst (pc := 21) C dX12_trains_21 ic_1 ?_
    obtain ⟨v6, σ5, hc4, hF⟩ := bbd_e hF
    refine b_cV1i (d' := (d + 2)) (pc := 22) C dX12_trains_22 mm_X12_184 (Hh.1 _ _ sh_92) rfl (Nat.le_of_ble_eq_true rfl) (by omega) (Hh.2.2 _ _ _ _ _ _ _ _ _ (lvl_eq (by omega) (e_X12_no (d + 2) (1 : Int32) _ _ _ hc4))) ?_
    exact b_iret (pc := 25) C Rt dX12_trains_25 hF
  · rw [if_neg hc3] at hF
    refine b_aload_n (pc := 11) C dX12_trains_11 rfl 0 rfl ?_
    refine b_iconst (pc := 12) C dX12_trains_12 ic_0 ?_
    refine b_iconst (pc := 13) C dX12_trains_13 ic_1 ?_
    obtain ⟨v9, σ8, hc7, hF⟩ := bbd_e hF
    refine b_cV2i (d' := (d + 2)) (pc := 14) C dX12_trains_14 mm_X12_382 (Hh.1 _ _ sh_92) rfl (Nat.le_of_ble_eq_true rfl) (by omega) (Hh.2.2 _ _ _ _ _ _ _ _ _ (lvl_eq (by omega) (e_X12_fitting (d + 0) (0 : Int32) (1 : Int32) _ _ _ hc7))) ?_
    refine b_goto (tgt := 25) (pc := 17) C dX12_trains_17 rfl ?_
    exact b_iret (pc := 25) C Rt dX12_trains_25 hF
set_option maxHeartbeats 4000000 in
set_option maxRecDepth 20000 in
theorem e_X12_trains {l : Launch} {G : bG} {ρ : Nat → Nat} {A : Nat → Prop} (d : Nat)  (σ : bSto) (r : Int32) (σ' : bSto) (hF : f_X12_trains  σ = some (r, σ')) : bEv l G bSHf ρ A yX12_trains cX12_trains 1 (some .int) (d + 3) [.ref 92] σ (some (.int r)) σ' := b_met (d := d + 3) (by decide +kernel) (Nat.le_of_ble_eq_true rfl) rfl (fun X C Rt h1 h2 h3 => e_X12_trains_0 C ⟨fun o q h => by rw [h1]; exact h, fun i h => by rw [h2]; exact h, h3⟩ Rt  _ hF)
/-! BenchColonyModel.trainAt -/
def f_X12_trainAt_L30 : Nat → Int32 → Int32 → Int32 → Int32 → bSto → Option ((Int32 × bSto) ⊕ (Int32 × Int32 × Int32 × bSto))
  | 0, _, _, _, _, _ => none
  | n + 1, x1, x2, x3, x4, σ => (if x3 ≤ x4 then some (.inr (x1, x2, x3, σ)) else bbd (f_X12_doesFit x3 x4 σ) (fun v4 σ3 => (if v4 = 0 then blet (x4 + (1 : Int32)) (fun x4_11 => f_X12_trainAt_L30 n x1 x2 x3 x4_11 σ3) else (if x2 = x1 then some (.inl ((((100 : Int32) * x3) + x4), σ3)) else blet (x2 + (1 : Int32)) (fun x2_7 => blet (x4 + (1 : Int32)) (fun x4_9 => f_X12_trainAt_L30 n x1 x2_7 x3 x4_9 σ3))))))
def f_X12_trainAt_L21 : Nat → Int32 → Int32 → Int32 → bSto → Option ((Int32 × bSto) ⊕ (bSto))
  | 0, _, _, _, _ => none
  | n + 1, x1, x2, x3, σ => (if (12 : Int32) < x3 then some (.inr σ) else br3 (f_X12_trainAt_L30 bFU x1 x2 x3 (0 : Int32) σ) (fun v s => some (.inl (v, s))) (fun x1_2 x2_2 x3_2 σ3 => blet (x3_2 + (1 : Int32)) (fun x3_4 => f_X12_trainAt_L21 n x1_2 x2_2 x3_4 σ3)))
def f_X12_trainAt (x1 : Int32) (σ : bSto) : Option (Int32 × bSto) := bbv (f_X12_good  σ) (fun σ2 => (if (σ2.1 92 14) = 0 then bbd (f_X12_no (1 : Int32) σ2) (fun v11 σ10 => some (v11, σ10)) else br0 (f_X12_trainAt_L21 bFU x1 (0 : Int32) (2 : Int32) σ2) (fun v s => some (v, s)) (fun σ5 => bbd (f_X12_no (1 : Int32) σ5) (fun v8 σ7 => some (v8, σ7)))))
set_option maxHeartbeats 4000000 in
set_option maxRecDepth 20000 in
theorem e_X12_trainAt_L30 {X : bX} {l : Launch} {G : bG} {ρ : Nat → Nat} {A : Nat → Prop} {d : Nat} {r : Int32} {σ' : bSto} (C : bCX X cX12_trainAt RX12 (d + 2)) (Hh : bH X l G bSHf ρ A 5) (Rt : bRX X (some .int) (some (.int r)) σ') : ∀ (n : Nat) (x1 : Int32) (x2 : Int32) (x3 : Int32) (x4 : Int32) (σ : bSto) (q : ((Int32 × bSto) ⊕ (Int32 × Int32 × Int32 × bSto))), f_X12_trainAt_L30 n x1 x2 x3 x4 σ = some q → (∀ (v : Int32) (s : bSto), q = .inl (v, s) → some (v, s) = some (r, σ')) → (∀ (x1 : Int32) (x2 : Int32) (x3 : Int32) (s : bSto), q = .inr (x1, x2, x3, s) → bAJ X 71 [(0, .ref 92), (1, .int x1), (2, .int x2), (3, .int x3)] [] s) → bAJ X 30 [(0, .ref 92), (1, .int x1), (2, .int x2), (3, .int x3), (4, .int x4)] [] σ := by
  intro n
  induction n with
  | zero => intro x1 x2 x3 x4 σ q hF; rw [f_X12_trainAt_L30] at hF; cases hF
  | succ n ih =>
    intro x1 x2 x3 x4 σ q hF hr hx
    rw [f_X12_trainAt_L30] at hF
    refine b_iload (pc := 30) C dX12_trainAt_30 4 rfl ?_
    refine b_iload_n (pc := 32) C dX12_trainAt_32 rfl 3 rfl ?_
    refine b_icmp_ge (tgt := 71) (pc := 33) C dX12_trainAt_33 rfl (fun hc1 => ?_) (fun hc1 => ?_)
    · rw [if_pos hc1] at hF
      exact b_sub [0, 1, 2, 3] rfl (hx _ _ _ _ (Option.some.inj hF).symm )
    · rw [if_neg hc1] at hF
      refine b_aload_n (pc := 36) C dX12_trainAt_36 rfl 0 rfl ?_
      refine b_iload_n (pc := 37) C dX12_trainAt_37 rfl 3 rfl ?_
      refine b_iload (pc := 38) C dX12_trainAt_38 4 rfl ?_
      obtain ⟨v4, σ3, hc2, hF⟩ := bbd_e hF
      refine b_cV2i (d' := (d + 1)) (pc := 40) C dX12_trainAt_40 mm_X12_379 (Hh.1 _ _ sh_92) rfl (Nat.le_of_ble_eq_true rfl) (by omega) (Hh.2.2 _ _ _ _ _ _ _ _ _ (lvl_eq (by omega) (e_X12_doesFit (d + 0) x3 x4 _ _ _ hc2))) ?_
      refine b_if_ne (tgt := 49) (pc := 43) C dX12_trainAt_43 rfl (fun hc5 => ?_) (fun hc5 => ?_)
      · rw [if_neg hc5] at hF
        refine b_iload_n (pc := 49) C dX12_trainAt_49 rfl 2 rfl ?_
        refine b_iload_n (pc := 50) C dX12_trainAt_50 rfl 1 rfl ?_
        refine b_icmp_ne (tgt := 62) (pc := 51) C dX12_trainAt_51 rfl (fun hc6 => ?_) (fun hc6 => ?_)
        · rw [if_neg hc6] at hF
          obtain ⟨x2_7, e8, hF⟩ := blet_e hF
          refine b_iinc (L' := [(2, .int x2_7), (0, .ref 92), (1, .int x1), (3, .int x3), (4, .int x4)]) (pc := 62) C dX12_trainAt_62 2 rfl ic_1 e8 (Hh.2.1 _ (Nat.le_of_ble_eq_true rfl)) rfl ?_
          obtain ⟨x4_9, e10, hF⟩ := blet_e hF
          refine b_iinc (L' := [(4, .int x4_9), (2, .int x2_7), (0, .ref 92), (1, .int x1), (3, .int x3)]) (pc := 65) C dX12_trainAt_65 4 rfl ic_1 e10 (Hh.2.1 _ (Nat.le_of_ble_eq_true rfl)) rfl ?_
          refine b_goto (tgt := 30) (pc := 68) C dX12_trainAt_68 rfl ?_
          exact b_sub [2, 3, 1, 4, 0] rfl (ih x1 x2_7 x3 x4_9 _ _ hF hr hx)
        · rw [if_pos hc6] at hF
          refine b_bipush (pc := 54) C dX12_trainAt_54 bp_100 ?_
          refine b_iload_n (pc := 56) C dX12_trainAt_56 rfl 3 rfl ?_
          refine b_imul (pc := 57) C dX12_trainAt_57 ?_
          refine b_iload (pc := 58) C dX12_trainAt_58 4 rfl ?_
          refine b_iadd (pc := 60) C dX12_trainAt_60 ?_
          exact b_iret (pc := 61) C Rt dX12_trainAt_61 (hr _ _ (Option.some.inj hF).symm)
      · rw [if_pos hc5] at hF
        refine b_goto (tgt := 65) (pc := 46) C dX12_trainAt_46 rfl ?_
        obtain ⟨x4_11, e12, hF⟩ := blet_e hF
        refine b_iinc (L' := [(4, .int x4_11), (0, .ref 92), (1, .int x1), (2, .int x2), (3, .int x3)]) (pc := 65) C dX12_trainAt_65 4 rfl ic_1 e12 (Hh.2.1 _ (Nat.le_of_ble_eq_true rfl)) rfl ?_
        refine b_goto (tgt := 30) (pc := 68) C dX12_trainAt_68 rfl ?_
        exact b_sub [1, 2, 3, 4, 0] rfl (ih x1 x2 x3 x4_11 _ _ hF hr hx)
set_option maxHeartbeats 4000000 in
set_option maxRecDepth 20000 in
theorem e_X12_trainAt_L21 {X : bX} {l : Launch} {G : bG} {ρ : Nat → Nat} {A : Nat → Prop} {d : Nat} {r : Int32} {σ' : bSto} (C : bCX X cX12_trainAt RX12 (d + 2)) (Hh : bH X l G bSHf ρ A 5) (Rt : bRX X (some .int) (some (.int r)) σ') : ∀ (n : Nat) (x1 : Int32) (x2 : Int32) (x3 : Int32) (σ : bSto) (q : ((Int32 × bSto) ⊕ (bSto))), f_X12_trainAt_L21 n x1 x2 x3 σ = some q → (∀ (v : Int32) (s : bSto), q = .inl (v, s) → some (v, s) = some (r, σ')) → (∀  (s : bSto), q = .inr s → bAJ X 77 [(0, .ref 92)] [] s) → bAJ X 21 [(0, .ref 92), (1, .int x1), (2, .int x2), (3, .int x3)] [] σ := by
  intro n
  induction n with
  | zero => intro x1 x2 x3 σ q hF; rw [f_X12_trainAt_L21] at hF; cases hF
  | succ n ih =>
    intro x1 x2 x3 σ q hF hr hx
    rw [f_X12_trainAt_L21] at hF
    refine b_iload_n (pc := 21) C dX12_trainAt_21 rfl 3 rfl ?_
    refine b_bipush (pc := 22) C dX12_trainAt_22 bp_12 ?_
    refine b_icmp_gt (tgt := 77) (pc := 24) C dX12_trainAt_24 rfl (fun hc1 => ?_) (fun hc1 => ?_)
    · rw [if_pos hc1] at hF
      exact b_sub [0] rfl (hx  _ (Option.some.inj hF).symm )
    · rw [if_neg hc1] at hF
      refine b_iconst (pc := 27) C dX12_trainAt_27 ic_0 ?_
      refine b_istore (L' := [(4, .int (0 : Int32)), (0, .ref 92), (1, .int x1), (2, .int x2), (3, .int x3)]) (pc := 28) C dX12_trainAt_28 rfl (Hh.2.1 _ (Nat.le_of_ble_eq_true rfl)) rfl ?_
      rcases br3_e hF with ⟨v, s, hq2, hF⟩ | ⟨x1_2, x2_2, x3_2, σ3, hq2, hF⟩
      · exact b_sub [1, 2, 3, 4, 0] rfl (e_X12_trainAt_L30 C Hh Rt bFU x1 x2 x3 (0 : Int32) _ _ hq2 (fun v s e => by cases e; exact hr _ _ (Option.some.inj hF).symm) (fun _ _ _ _ e => by cases e))
      · refine b_sub [1, 2, 3, 4, 0] rfl (e_X12_trainAt_L30 C Hh Rt bFU x1 x2 x3 (0 : Int32) _ _ hq2 (fun v s e => by cases e) (fun _ _ _ _ e  => ?_))
        cases e
        obtain ⟨x3_4, e5, hF⟩ := blet_e hF
        refine b_iinc (L' := [(3, .int x3_4), (0, .ref 92), (1, .int x1_2), (2, .int x2_2)]) (pc := 71) C dX12_trainAt_71 3 rfl ic_1 e5 (Hh.2.1 _ (Nat.le_of_ble_eq_true rfl)) rfl ?_
        refine b_goto (tgt := 21) (pc := 74) C dX12_trainAt_74 rfl ?_
        exact b_sub [1, 2, 3, 0] rfl (ih x1_2 x2_2 x3_4 _ _ hF hr hx)
set_option maxHeartbeats 4000000 in
set_option maxRecDepth 20000 in
theorem e_X12_trainAt_0 {X : bX} {l : Launch} {G : bG} {ρ : Nat → Nat} {A : Nat → Prop} {d : Nat} {r : Int32} {σ' : bSto} (C : bCX X cX12_trainAt RX12 (d + 2)) (Hh : bH X l G bSHf ρ A 5) (Rt : bRX X (some .int) (some (.int r)) σ') (x1 : Int32) (σ : bSto) (hF : f_X12_trainAt x1 σ = some (r, σ')) : bAJ X 0 [(0, .ref 92), (1, .int x1)] [] σ := by
  rw [f_X12_trainAt] at hF
  refine b_aload_n (pc := 0) C dX12_trainAt_0 rfl 0 rfl ?_
  obtain ⟨σ2, hc1, hF⟩ := bbv_e hF
  refine b_cV0v (d' := (d + 1)) (pc := 1) C dX12_trainAt_1 mm_X12_181 (Hh.1 _ _ sh_92) rfl (Nat.le_of_ble_eq_true rfl) (by omega) (Hh.2.2 _ _ _ _ _ _ _ _ _ (lvl_eq (by omega) (e_X12_good (d + 1)  _ _ hc1))) ?_
  refine b_aload_n (pc := 4) C dX12_trainAt_4 rfl 0 rfl ?_
  refine b_getI (pc := 5) C dX12_trainAt_5 fl_X12_194 (Hh.1 _ _ sh_92) rfl ?_
  refine b_if_ne (tgt := 17) (pc := 8) C dX12_trainAt_8 rfl (fun hc3 => ?_) (fun hc3 => ?_)
  · rw [if_neg hc3] at hF
    refine b_iconst (pc := 17) C dX12_trainAt_17 ic_0 ?_
    refine b_istore_n (L' := [(2, .int (0 : Int32)), (0, .ref 92), (1, .int x1)]) (pc := 18) C dX12_trainAt_18 rfl rfl (Hh.2.1 _ (Nat.le_of_ble_eq_true rfl)) rfl ?_
    refine b_iconst (pc := 19) C dX12_trainAt_19 ic_2 ?_
    refine b_istore_n (L' := [(3, .int (2 : Int32)), (2, .int (0 : Int32)), (0, .ref 92), (1, .int x1)]) (pc := 20) C dX12_trainAt_20 rfl rfl (Hh.2.1 _ (Nat.le_of_ble_eq_true rfl)) rfl ?_
    rcases br0_e hF with ⟨v, s, hq4, hF⟩ | ⟨σ5, hq4, hF⟩
    · exact b_sub [2, 3, 1, 0] rfl (e_X12_trainAt_L21 C Hh Rt bFU x1 (0 : Int32) (2 : Int32) _ _ hq4 (fun v s e => by cases e; exact hF) (fun  _ e => by cases e))
    · refine b_sub [2, 3, 1, 0] rfl (e_X12_trainAt_L21 C Hh Rt bFU x1 (0 : Int32) (2 : Int32) _ _ hq4 (fun v s e => by cases e) (fun  _ e  => ?_))
      cases e
      refine b_aload_n (pc := 77) C dX12_trainAt_77 rfl 0 rfl ?_
      refine b_iconst (pc := 78) C dX12_trainAt_78 ic_1 ?_
      obtain ⟨v8, σ7, hc6, hF⟩ := bbd_e hF
      refine b_cV1i (d' := (d + 1)) (pc := 79) C dX12_trainAt_79 mm_X12_184 (Hh.1 _ _ sh_92) rfl (Nat.le_of_ble_eq_true rfl) (by omega) (Hh.2.2 _ _ _ _ _ _ _ _ _ (lvl_eq (by omega) (e_X12_no (d + 1) (1 : Int32) _ _ _ hc6))) ?_
      exact b_iret (pc := 82) C Rt dX12_trainAt_82 hF
  · rw [if_pos hc3] at hF
    refine b_aload_n (pc := 11) C dX12_trainAt_11 rfl 0 rfl ?_
    refine b_iconst (pc := 12) C dX12_trainAt_12 ic_1 ?_
    obtain ⟨v11, σ10, hc9, hF⟩ := bbd_e hF
    refine b_cV1i (d' := (d + 1)) (pc := 13) C dX12_trainAt_13 mm_X12_184 (Hh.1 _ _ sh_92) rfl (Nat.le_of_ble_eq_true rfl) (by omega) (Hh.2.2 _ _ _ _ _ _ _ _ _ (lvl_eq (by omega) (e_X12_no (d + 1) (1 : Int32) _ _ _ hc9))) ?_
    exact b_iret (pc := 16) C Rt dX12_trainAt_16 hF
set_option maxHeartbeats 4000000 in
set_option maxRecDepth 20000 in
theorem e_X12_trainAt {l : Launch} {G : bG} {ρ : Nat → Nat} {A : Nat → Prop} (d : Nat) (x1 : Int32) (σ : bSto) (r : Int32) (σ' : bSto) (hF : f_X12_trainAt x1 σ = some (r, σ')) : bEv l G bSHf ρ A yX12_trainAt cX12_trainAt 5 (some .int) (d + 2) [.ref 92, .int x1] σ (some (.int r)) σ' := b_met (d := d + 2) (by decide +kernel) (Nat.le_of_ble_eq_true rfl) rfl (fun X C Rt h1 h2 h3 => e_X12_trainAt_0 C ⟨fun o q h => by rw [h1]; exact h, fun i h => by rw [h2]; exact h, h3⟩ Rt _ _ hF)
/-! BenchColonyModel.comes -/
def f_X12_comes (x1 : Int32) (σ : bSto) : Option (Int32 × bSto) := bbv (f_X12_good  σ) (fun σ2 => (if (σ2.1 92 14) = 0 then bbd (f_X12_no (1 : Int32) σ2) (fun v16 σ15 => some (v16, σ15)) else bbd (f_X12_in x1 (0 : Int32) (99 : Int32) σ2) (fun v6 σ5 => (if v6 = 0 then bbd (f_X12_no (2 : Int32) σ5) (fun v10 σ9 => some (v10, σ9)) else bbd (f_X12_fitting x1 (0 : Int32) σ5) (fun v13 σ12 => some (v13, σ12))))))
set_option maxHeartbeats 4000000 in
set_option maxRecDepth 20000 in
theorem e_X12_comes_0 {X : bX} {l : Launch} {G : bG} {ρ : Nat → Nat} {A : Nat → Prop} {d : Nat} {r : Int32} {σ' : bSto} (C : bCX X cX12_comes RX12 (d + 3)) (Hh : bH X l G bSHf ρ A 2) (Rt : bRX X (some .int) (some (.int r)) σ') (x1 : Int32) (σ : bSto) (hF : f_X12_comes x1 σ = some (r, σ')) : bAJ X 0 [(0, .ref 92), (1, .int x1)] [] σ := by
  rw [f_X12_comes] at hF
  refine b_aload_n (pc := 0) C dX12_comes_0 rfl 0 rfl ?_
  obtain ⟨σ2, hc1, hF⟩ := bbv_e hF
  refine b_cV0v (d' := (d + 2)) (pc := 1) C dX12_comes_1 mm_X12_181 (Hh.1 _ _ sh_92) rfl (Nat.le_of_ble_eq_true rfl) (by omega) (Hh.2.2 _ _ _ _ _ _ _ _ _ (lvl_eq (by omega) (e_X12_good (d + 2)  _ _ hc1))) ?_
  refine b_aload_n (pc := 4) C dX12_comes_4 rfl 0 rfl ?_
  refine b_getI (pc := 5) C dX12_comes_5 fl_X12_194 (Hh.1 _ _ sh_92) rfl ?_
  refine b_if_ne (tgt := 17) (pc := 8) C dX12_comes_8 rfl (fun hc3 => ?_) (fun hc3 => ?_)
  · rw [if_neg hc3] at hF
    refine b_iload_n (pc := 17) C dX12_comes_17 rfl 1 rfl ?_
    refine b_iconst (pc := 18) C dX12_comes_18 ic_0 ?_
    refine b_bipush (pc := 19) C dX12_comes_19 bp_99 ?_
    obtain ⟨v6, σ5, hc4, hF⟩ := bbd_e hF
    refine b_cS3i (d' := (d + 2)) (pc := 21) C dX12_comes_21 mm_X12_160 (Nat.le_of_ble_eq_true rfl) (by omega) (Hh.2.2 _ _ _ _ _ _ _ _ _ (lvl_eq (by omega) (e_X12_in (d + 2) x1 (0 : Int32) (99 : Int32) _ _ _ hc4))) ?_
    refine b_if_eq (tgt := 36) (pc := 24) C dX12_comes_24 rfl (fun hc7 => ?_) (fun hc7 => ?_)
    · rw [if_pos hc7] at hF
      refine b_aload_n (pc := 36) C dX12_comes_36 rfl 0 rfl ?_
      refine b_iconst (pc := 37) C dX12_comes_37 ic_2 ?_
      obtain ⟨v10, σ9, hc8, hF⟩ := bbd_e hF
      refine b_cV1i (d' := (d + 2)) (pc := 38) C dX12_comes_38 mm_X12_184 (Hh.1 _ _ sh_92) rfl (Nat.le_of_ble_eq_true rfl) (by omega) (Hh.2.2 _ _ _ _ _ _ _ _ _ (lvl_eq (by omega) (e_X12_no (d + 2) (2 : Int32) _ _ _ hc8))) ?_
      exact b_iret (pc := 41) C Rt dX12_comes_41 hF
    · rw [if_neg hc7] at hF
      refine b_aload_n (pc := 27) C dX12_comes_27 rfl 0 rfl ?_
      refine b_iload_n (pc := 28) C dX12_comes_28 rfl 1 rfl ?_
      refine b_iconst (pc := 29) C dX12_comes_29 ic_0 ?_
      obtain ⟨v13, σ12, hc11, hF⟩ := bbd_e hF
      refine b_cV2i (d' := (d + 2)) (pc := 30) C dX12_comes_30 mm_X12_382 (Hh.1 _ _ sh_92) rfl (Nat.le_of_ble_eq_true rfl) (by omega) (Hh.2.2 _ _ _ _ _ _ _ _ _ (lvl_eq (by omega) (e_X12_fitting (d + 0) x1 (0 : Int32) _ _ _ hc11))) ?_
      refine b_goto (tgt := 41) (pc := 33) C dX12_comes_33 rfl ?_
      exact b_iret (pc := 41) C Rt dX12_comes_41 hF
  · rw [if_pos hc3] at hF
    refine b_aload_n (pc := 11) C dX12_comes_11 rfl 0 rfl ?_
    refine b_iconst (pc := 12) C dX12_comes_12 ic_1 ?_
    obtain ⟨v16, σ15, hc14, hF⟩ := bbd_e hF
    refine b_cV1i (d' := (d + 2)) (pc := 13) C dX12_comes_13 mm_X12_184 (Hh.1 _ _ sh_92) rfl (Nat.le_of_ble_eq_true rfl) (by omega) (Hh.2.2 _ _ _ _ _ _ _ _ _ (lvl_eq (by omega) (e_X12_no (d + 2) (1 : Int32) _ _ _ hc14))) ?_
    exact b_iret (pc := 16) C Rt dX12_comes_16 hF
set_option maxHeartbeats 4000000 in
set_option maxRecDepth 20000 in
theorem e_X12_comes {l : Launch} {G : bG} {ρ : Nat → Nat} {A : Nat → Prop} (d : Nat) (x1 : Int32) (σ : bSto) (r : Int32) (σ' : bSto) (hF : f_X12_comes x1 σ = some (r, σ')) : bEv l G bSHf ρ A yX12_comes cX12_comes 2 (some .int) (d + 3) [.ref 92, .int x1] σ (some (.int r)) σ' := b_met (d := d + 3) (by decide +kernel) (Nat.le_of_ble_eq_true rfl) rfl (fun X C Rt h1 h2 h3 => e_X12_comes_0 C ⟨fun o q h => by rw [h1]; exact h, fun i h => by rw [h2]; exact h, h3⟩ Rt _ _ hF)
/-! BenchColonyModel.surely -/
def f_X12_surely_L42 : Nat → Int32 → Int32 → bSto → Option ((Int32 × bSto) ⊕ (bSto))
  | 0, _, _, _ => none
  | n + 1, x2, x3, σ => (if (100 : Int32) ≤ x3 then some (.inr σ) else (if x2 ≤ 0 then blet (x3 + (1 : Int32)) (fun x3_3 => f_X12_surely_L42 n x2 x3_3 σ) else bbd (f_X12_fitting x3 (0 : Int32) σ) (fun v7 σ6 => (if v7 = x2 then some (.inl (x3, σ6)) else blet (x3 + (1 : Int32)) (fun x3_9 => f_X12_surely_L42 n x2 x3_9 σ6)))))
def f_X12_surely (x1 : Int32) (σ : bSto) : Option (Int32 × bSto) := bbv (f_X12_good  σ) (fun σ2 => (if (σ2.1 92 14) = 0 then bbd (f_X12_no (1 : Int32) σ2) (fun v18 σ17 => some (v18, σ17)) else bbd (f_X12_in x1 (0 : Int32) (99 : Int32) σ2) (fun v6 σ5 => (if v6 = 0 then bbd (f_X12_no (2 : Int32) σ5) (fun v15 σ14 => some (v15, σ14)) else bbd (f_X12_fitting (0 : Int32) (1 : Int32) σ5) (fun v10 σ9 => br0 (f_X12_surely_L42 bFU v10 x1 σ9) (fun v s => some (v, s)) (fun σ12 => some ((-2 : Int32), σ12)))))))
set_option maxHeartbeats 4000000 in
set_option maxRecDepth 20000 in
theorem e_X12_surely_L42 {X : bX} {l : Launch} {G : bG} {ρ : Nat → Nat} {A : Nat → Prop} {d : Nat} {r : Int32} {σ' : bSto} (C : bCX X cX12_surely RX12 (d + 3)) (Hh : bH X l G bSHf ρ A 4) (Rt : bRX X (some .int) (some (.int r)) σ') : ∀ (n : Nat) (x2 : Int32) (x3 : Int32) (σ : bSto) (q : ((Int32 × bSto) ⊕ (bSto))), f_X12_surely_L42 n x2 x3 σ = some q → (∀ (v : Int32) (s : bSto), q = .inl (v, s) → some (v, s) = some (r, σ')) → (∀  (s : bSto), q = .inr s → bAJ X 70 [] [] s) → bAJ X 42 [(0, .ref 92), (2, .int x2), (3, .int x3)] [] σ := by
  intro n
  induction n with
  | zero => intro x2 x3 σ q hF; rw [f_X12_surely_L42] at hF; cases hF
  | succ n ih =>
    intro x2 x3 σ q hF hr hx
    rw [f_X12_surely_L42] at hF
    refine b_iload_n (pc := 42) C dX12_surely_42 rfl 2 rfl ?_
    refine b_bipush (pc := 43) C dX12_surely_43 bp_100 ?_
    refine b_icmp_ge (tgt := 70) (pc := 45) C dX12_surely_45 rfl (fun hc1 => ?_) (fun hc1 => ?_)
    · rw [if_pos hc1] at hF
      exact b_sub [] rfl (hx  _ (Option.some.inj hF).symm )
    · rw [if_neg hc1] at hF
      refine b_iload_n (pc := 48) C dX12_surely_48 rfl 1 rfl ?_
      refine b_if_le (tgt := 64) (pc := 49) C dX12_surely_49 rfl (fun hc2 => ?_) (fun hc2 => ?_)
      · rw [if_pos hc2] at hF
        obtain ⟨x3_3, e4, hF⟩ := blet_e hF
        refine b_iinc (L' := [(3, .int x3_3), (0, .ref 92), (2, .int x2)]) (pc := 64) C dX12_surely_64 2 rfl ic_1 e4 (Hh.2.1 _ (Nat.le_of_ble_eq_true rfl)) rfl ?_
        refine b_goto (tgt := 42) (pc := 67) C dX12_surely_67 rfl ?_
        exact b_sub [1, 2, 0] rfl (ih x2 x3_3 _ _ hF hr hx)
      · rw [if_neg hc2] at hF
        refine b_aload_n (pc := 52) C dX12_surely_52 rfl 0 rfl ?_
        refine b_iload_n (pc := 53) C dX12_surely_53 rfl 2 rfl ?_
        refine b_iconst (pc := 54) C dX12_surely_54 ic_0 ?_
        obtain ⟨v7, σ6, hc5, hF⟩ := bbd_e hF
        refine b_cV2i (d' := (d + 2)) (pc := 55) C dX12_surely_55 mm_X12_382 (Hh.1 _ _ sh_92) rfl (Nat.le_of_ble_eq_true rfl) (by omega) (Hh.2.2 _ _ _ _ _ _ _ _ _ (lvl_eq (by omega) (e_X12_fitting (d + 0) x3 (0 : Int32) _ _ _ hc5))) ?_
        refine b_iload_n (pc := 58) C dX12_surely_58 rfl 1 rfl ?_
        refine b_icmp_ne (tgt := 64) (pc := 59) C dX12_surely_59 rfl (fun hc8 => ?_) (fun hc8 => ?_)
        · rw [if_neg hc8] at hF
          obtain ⟨x3_9, e10, hF⟩ := blet_e hF
          refine b_iinc (L' := [(3, .int x3_9), (0, .ref 92), (2, .int x2)]) (pc := 64) C dX12_surely_64 2 rfl ic_1 e10 (Hh.2.1 _ (Nat.le_of_ble_eq_true rfl)) rfl ?_
          refine b_goto (tgt := 42) (pc := 67) C dX12_surely_67 rfl ?_
          exact b_sub [1, 2, 0] rfl (ih x2 x3_9 _ _ hF hr hx)
        · rw [if_pos hc8] at hF
          refine b_iload_n (pc := 62) C dX12_surely_62 rfl 2 rfl ?_
          exact b_iret (pc := 63) C Rt dX12_surely_63 (hr _ _ (Option.some.inj hF).symm)
set_option maxHeartbeats 4000000 in
set_option maxRecDepth 20000 in
theorem e_X12_surely_0 {X : bX} {l : Launch} {G : bG} {ρ : Nat → Nat} {A : Nat → Prop} {d : Nat} {r : Int32} {σ' : bSto} (C : bCX X cX12_surely RX12 (d + 3)) (Hh : bH X l G bSHf ρ A 4) (Rt : bRX X (some .int) (some (.int r)) σ') (x1 : Int32) (σ : bSto) (hF : f_X12_surely x1 σ = some (r, σ')) : bAJ X 0 [(0, .ref 92), (1, .int x1)] [] σ := by
  rw [f_X12_surely] at hF
  refine b_aload_n (pc := 0) C dX12_surely_0 rfl 0 rfl ?_
  obtain ⟨σ2, hc1, hF⟩ := bbv_e hF
  refine b_cV0v (d' := (d + 2)) (pc := 1) C dX12_surely_1 mm_X12_181 (Hh.1 _ _ sh_92) rfl (Nat.le_of_ble_eq_true rfl) (by omega) (Hh.2.2 _ _ _ _ _ _ _ _ _ (lvl_eq (by omega) (e_X12_good (d + 2)  _ _ hc1))) ?_
  refine b_aload_n (pc := 4) C dX12_surely_4 rfl 0 rfl ?_
  refine b_getI (pc := 5) C dX12_surely_5 fl_X12_194 (Hh.1 _ _ sh_92) rfl ?_
  refine b_if_ne (tgt := 17) (pc := 8) C dX12_surely_8 rfl (fun hc3 => ?_) (fun hc3 => ?_)
  · rw [if_neg hc3] at hF
    refine b_iload_n (pc := 17) C dX12_surely_17 rfl 1 rfl ?_
    refine b_iconst (pc := 18) C dX12_surely_18 ic_0 ?_
    refine b_bipush (pc := 19) C dX12_surely_19 bp_99 ?_
    obtain ⟨v6, σ5, hc4, hF⟩ := bbd_e hF
    refine b_cS3i (d' := (d + 2)) (pc := 21) C dX12_surely_21 mm_X12_160 (Nat.le_of_ble_eq_true rfl) (by omega) (Hh.2.2 _ _ _ _ _ _ _ _ _ (lvl_eq (by omega) (e_X12_in (d + 2) x1 (0 : Int32) (99 : Int32) _ _ _ hc4))) ?_
    refine b_if_ne (tgt := 33) (pc := 24) C dX12_surely_24 rfl (fun hc7 => ?_) (fun hc7 => ?_)
    · rw [if_neg hc7] at hF
      refine b_aload_n (pc := 33) C dX12_surely_33 rfl 0 rfl ?_
      refine b_iconst (pc := 34) C dX12_surely_34 ic_0 ?_
      refine b_iconst (pc := 35) C dX12_surely_35 ic_1 ?_
      obtain ⟨v10, σ9, hc8, hF⟩ := bbd_e hF
      refine b_cV2i (d' := (d + 2)) (pc := 36) C dX12_surely_36 mm_X12_382 (Hh.1 _ _ sh_92) rfl (Nat.le_of_ble_eq_true rfl) (by omega) (Hh.2.2 _ _ _ _ _ _ _ _ _ (lvl_eq (by omega) (e_X12_fitting (d + 0) (0 : Int32) (1 : Int32) _ _ _ hc8))) ?_
      refine b_istore_n (L' := [(2, .int v10), (0, .ref 92), (1, .int x1)]) (pc := 39) C dX12_surely_39 rfl rfl (Hh.2.1 _ (Nat.le_of_ble_eq_true rfl)) rfl ?_
      refine b_iload_n (pc := 40) C dX12_surely_40 rfl 2 rfl ?_
      refine b_istore_n (L' := [(3, .int x1), (2, .int v10), (0, .ref 92), (1, .int x1)]) (pc := 41) C dX12_surely_41 rfl rfl (Hh.2.1 _ (Nat.le_of_ble_eq_true rfl)) rfl ?_
      rcases br0_e hF with ⟨v, s, hq11, hF⟩ | ⟨σ12, hq11, hF⟩
      · exact b_sub [2, 1, 0] rfl (e_X12_surely_L42 C Hh Rt bFU v10 x1 _ _ hq11 (fun v s e => by cases e; exact hF) (fun  _ e => by cases e))
      · refine b_sub [2, 1, 0] rfl (e_X12_surely_L42 C Hh Rt bFU v10 x1 _ _ hq11 (fun v s e => by cases e) (fun  _ e  => ?_))
        cases e
        refine b_bipush (pc := 70) C dX12_surely_70 bp_m2 ?_
        exact b_iret (pc := 72) C Rt dX12_surely_72 hF
    · rw [if_pos hc7] at hF
      refine b_aload_n (pc := 27) C dX12_surely_27 rfl 0 rfl ?_
      refine b_iconst (pc := 28) C dX12_surely_28 ic_2 ?_
      obtain ⟨v15, σ14, hc13, hF⟩ := bbd_e hF
      refine b_cV1i (d' := (d + 2)) (pc := 29) C dX12_surely_29 mm_X12_184 (Hh.1 _ _ sh_92) rfl (Nat.le_of_ble_eq_true rfl) (by omega) (Hh.2.2 _ _ _ _ _ _ _ _ _ (lvl_eq (by omega) (e_X12_no (d + 2) (2 : Int32) _ _ _ hc13))) ?_
      exact b_iret (pc := 32) C Rt dX12_surely_32 hF
  · rw [if_pos hc3] at hF
    refine b_aload_n (pc := 11) C dX12_surely_11 rfl 0 rfl ?_
    refine b_iconst (pc := 12) C dX12_surely_12 ic_1 ?_
    obtain ⟨v18, σ17, hc16, hF⟩ := bbd_e hF
    refine b_cV1i (d' := (d + 2)) (pc := 13) C dX12_surely_13 mm_X12_184 (Hh.1 _ _ sh_92) rfl (Nat.le_of_ble_eq_true rfl) (by omega) (Hh.2.2 _ _ _ _ _ _ _ _ _ (lvl_eq (by omega) (e_X12_no (d + 2) (1 : Int32) _ _ _ hc16))) ?_
    exact b_iret (pc := 16) C Rt dX12_surely_16 hF
set_option maxHeartbeats 4000000 in
set_option maxRecDepth 20000 in
theorem e_X12_surely {l : Launch} {G : bG} {ρ : Nat → Nat} {A : Nat → Prop} (d : Nat) (x1 : Int32) (σ : bSto) (r : Int32) (σ' : bSto) (hF : f_X12_surely x1 σ = some (r, σ')) : bEv l G bSHf ρ A yX12_surely cX12_surely 4 (some .int) (d + 3) [.ref 92, .int x1] σ (some (.int r)) σ' := b_met (d := d + 3) (by decide +kernel) (Nat.le_of_ble_eq_true rfl) rfl (fun X C Rt h1 h2 h3 => e_X12_surely_0 C ⟨fun o q h => by rw [h1]; exact h, fun i h => by rw [h2]; exact h, h3⟩ Rt _ _ hF)
/-! BenchColonyModel.leavesAt -/
def f_X12_leavesAt (x1 : Int32) (σ : bSto) : Option (Int32 × bSto) := bbd (f_X12_fitting x1 (0 : Int32) σ) (fun v3 σ2 => bbd (f_X12_fitting (0 : Int32) (1 : Int32) σ2) (fun v6 σ5 => blet (v6 - v3) (fun x3_7 => (if v3 ≤ x3_7 then some (x3_7, σ5) else some (v3, σ5)))))
set_option maxHeartbeats 4000000 in
set_option maxRecDepth 20000 in
theorem e_X12_leavesAt_0 {X : bX} {l : Launch} {G : bG} {ρ : Nat → Nat} {A : Nat → Prop} {d : Nat} {r : Int32} {σ' : bSto} (C : bCX X cX12_leavesAt RX12 (d + 3)) (Hh : bH X l G bSHf ρ A 4) (Rt : bRX X (some .int) (some (.int r)) σ') (x1 : Int32) (σ : bSto) (hF : f_X12_leavesAt x1 σ = some (r, σ')) : bAJ X 0 [(0, .ref 92), (1, .int x1)] [] σ := by
  rw [f_X12_leavesAt] at hF
  refine b_aload_n (pc := 0) C dX12_leavesAt_0 rfl 0 rfl ?_
  refine b_iload_n (pc := 1) C dX12_leavesAt_1 rfl 1 rfl ?_
  refine b_iconst (pc := 2) C dX12_leavesAt_2 ic_0 ?_
  obtain ⟨v3, σ2, hc1, hF⟩ := bbd_e hF
  refine b_cV2i (d' := (d + 2)) (pc := 3) C dX12_leavesAt_3 mm_X12_382 (Hh.1 _ _ sh_92) rfl (Nat.le_of_ble_eq_true rfl) (by omega) (Hh.2.2 _ _ _ _ _ _ _ _ _ (lvl_eq (by omega) (e_X12_fitting (d + 0) x1 (0 : Int32) _ _ _ hc1))) ?_
  refine b_istore_n (L' := [(2, .int v3), (0, .ref 92), (1, .int x1)]) (pc := 6) C dX12_leavesAt_6 rfl rfl (Hh.2.1 _ (Nat.le_of_ble_eq_true rfl)) rfl ?_
  refine b_aload_n (pc := 7) C dX12_leavesAt_7 rfl 1 rfl ?_
  refine b_iconst (pc := 8) C dX12_leavesAt_8 ic_0 ?_
  refine b_iconst (pc := 9) C dX12_leavesAt_9 ic_1 ?_
  obtain ⟨v6, σ5, hc4, hF⟩ := bbd_e hF
  refine b_cV2i (d' := (d + 2)) (pc := 10) C dX12_leavesAt_10 mm_X12_382 (Hh.1 _ _ sh_92) rfl (Nat.le_of_ble_eq_true rfl) (by omega) (Hh.2.2 _ _ _ _ _ _ _ _ _ (lvl_eq (by omega) (e_X12_fitting (d + 0) (0 : Int32) (1 : Int32) _ _ _ hc4))) ?_
  refine b_iload_n (pc := 13) C dX12_leavesAt_13 rfl 0 rfl ?_
  refine b_isub (pc := 14) C dX12_leavesAt_14 ?_
  obtain ⟨x3_7, e8, hF⟩ := blet_e hF
  refine b_istore_n (L' := [(3, .int x3_7), (2, .int v3), (0, .ref 92), (1, .int x1)]) (pc := 15) C dX12_leavesAt_15 rfl e8 (Hh.2.1 _ (Nat.le_of_ble_eq_true rfl)) rfl ?_
  refine b_iload_n (pc := 16) C dX12_leavesAt_16 rfl 1 rfl ?_
  refine b_iload_n (pc := 17) C dX12_leavesAt_17 rfl 0 rfl ?_
  refine b_icmp_le (tgt := 25) (pc := 18) C dX12_leavesAt_18 rfl (fun hc9 => ?_) (fun hc9 => ?_)
  · rw [if_pos hc9] at hF
    refine b_iload_n (pc := 25) C dX12_leavesAt_25 rfl 0 rfl ?_
    exact b_iret (pc := 26) C Rt dX12_leavesAt_26 hF
  · rw [if_neg hc9] at hF
    refine b_iload_n (pc := 21) C dX12_leavesAt_21 rfl 1 rfl ?_
    refine b_goto (tgt := 26) (pc := 22) C dX12_leavesAt_22 rfl ?_
    exact b_iret (pc := 26) C Rt dX12_leavesAt_26 hF
set_option maxHeartbeats 4000000 in
set_option maxRecDepth 20000 in
theorem e_X12_leavesAt {l : Launch} {G : bG} {ρ : Nat → Nat} {A : Nat → Prop} (d : Nat) (x1 : Int32) (σ : bSto) (r : Int32) (σ' : bSto) (hF : f_X12_leavesAt x1 σ = some (r, σ')) : bEv l G bSHf ρ A yX12_leavesAt cX12_leavesAt 4 (some .int) (d + 3) [.ref 92, .int x1] σ (some (.int r)) σ' := b_met (d := d + 3) (by decide +kernel) (Nat.le_of_ble_eq_true rfl) rfl (fun X C Rt h1 h2 h3 => e_X12_leavesAt_0 C ⟨fun o q h => by rw [h1]; exact h, fun i h => by rw [h2]; exact h, h3⟩ Rt _ _ hF)
/-! BenchColonyModel.listenOf -/
def f_X12_listenOf_L22 : Nat → Int32 → Int32 → Int32 → bSto → Option (Int32 × bSto)
  | 0, _, _, _, _ => none
  | n + 1, x1, x2, x3, σ => (if (100 : Int32) ≤ x3 then some (x1, σ) else bbd (f_X12_leavesAt x3 σ) (fun v4 σ3 => (if v4 < x2 then blet (x3 + (1 : Int32)) (fun x3_6 => f_X12_listenOf_L22 n x3 v4 x3_6 σ3) else blet (x3 + (1 : Int32)) (fun x3_8 => f_X12_listenOf_L22 n x1 x2 x3_8 σ3))))
def f_X12_listenOf  (σ : bSto) : Option (Int32 × bSto) := bbd (f_X12_fitting (0 : Int32) (1 : Int32) σ) (fun v3 σ2 => (if v3 = 0 then some ((-2 : Int32), σ2) else bbd (f_X12_leavesAt (0 : Int32) σ2) (fun v7 σ6 => bl1 (f_X12_listenOf_L22 bFU (0 : Int32) v7 (1 : Int32) σ6) (fun x1_8 σ9 => some (x1_8, σ9)))))
set_option maxHeartbeats 4000000 in
set_option maxRecDepth 20000 in
theorem e_X12_listenOf_L22 {X : bX} {l : Launch} {G : bG} {ρ : Nat → Nat} {A : Nat → Prop} {d : Nat} {r : Int32} {σ' : bSto} (C : bCX X cX12_listenOf RX12 (d + 4)) (Hh : bH X l G bSHf ρ A 5) (Rt : bRX X (some .int) (some (.int r)) σ') : ∀ (n : Nat) (x1 : Int32) (x2 : Int32) (x3 : Int32) (σ : bSto) (q : (Int32 × bSto)), f_X12_listenOf_L22 n x1 x2 x3 σ = some q → (∀ (x1 : Int32) (s : bSto), q = (x1, s) → bAJ X 55 [(1, .int x1)] [] s) → bAJ X 22 [(0, .ref 92), (1, .int x1), (2, .int x2), (3, .int x3)] [] σ := by
  intro n
  induction n with
  | zero => intro x1 x2 x3 σ q hF; rw [f_X12_listenOf_L22] at hF; cases hF
  | succ n ih =>
    intro x1 x2 x3 σ q hF hx
    rw [f_X12_listenOf_L22] at hF
    refine b_iload_n (pc := 22) C dX12_listenOf_22 rfl 3 rfl ?_
    refine b_bipush (pc := 23) C dX12_listenOf_23 bp_100 ?_
    refine b_icmp_ge (tgt := 55) (pc := 25) C dX12_listenOf_25 rfl (fun hc1 => ?_) (fun hc1 => ?_)
    · rw [if_pos hc1] at hF
      exact b_sub [1] rfl (hx _ _ (Option.some.inj hF).symm )
    · rw [if_neg hc1] at hF
      refine b_aload_n (pc := 28) C dX12_listenOf_28 rfl 0 rfl ?_
      refine b_iload_n (pc := 29) C dX12_listenOf_29 rfl 3 rfl ?_
      obtain ⟨v4, σ3, hc2, hF⟩ := bbd_e hF
      refine b_cV1i (d' := (d + 3)) (pc := 30) C dX12_listenOf_30 mm_X12_386 (Hh.1 _ _ sh_92) rfl (Nat.le_of_ble_eq_true rfl) (by omega) (Hh.2.2 _ _ _ _ _ _ _ _ _ (lvl_eq (by omega) (e_X12_leavesAt (d + 0) x3 _ _ _ hc2))) ?_
      refine b_istore (L' := [(4, .int v4), (0, .ref 92), (1, .int x1), (2, .int x2), (3, .int x3)]) (pc := 33) C dX12_listenOf_33 rfl (Hh.2.1 _ (Nat.le_of_ble_eq_true rfl)) rfl ?_
      refine b_iload (pc := 35) C dX12_listenOf_35 0 rfl ?_
      refine b_iload_n (pc := 37) C dX12_listenOf_37 rfl 3 rfl ?_
      refine b_icmp_lt (tgt := 44) (pc := 38) C dX12_listenOf_38 rfl (fun hc5 => ?_) (fun hc5 => ?_)
      · rw [if_pos hc5] at hF
        refine b_iload_n (pc := 44) C dX12_listenOf_44 rfl 4 rfl ?_
        refine b_istore_n (L' := [(1, .int x3), (4, .int v4), (0, .ref 92), (2, .int x2), (3, .int x3)]) (pc := 45) C dX12_listenOf_45 rfl rfl (Hh.2.1 _ (Nat.le_of_ble_eq_true rfl)) rfl ?_
        refine b_iload (pc := 46) C dX12_listenOf_46 1 rfl ?_
        refine b_istore_n (L' := [(2, .int v4), (1, .int x3), (4, .int v4), (0, .ref 92), (3, .int x3)]) (pc := 48) C dX12_listenOf_48 rfl rfl (Hh.2.1 _ (Nat.le_of_ble_eq_true rfl)) rfl ?_
        obtain ⟨x3_6, e7, hF⟩ := blet_e hF
        refine b_iinc (L' := [(3, .int x3_6), (2, .int v4), (1, .int x3), (4, .int v4), (0, .ref 92)]) (pc := 49) C dX12_listenOf_49 4 rfl ic_1 e7 (Hh.2.1 _ (Nat.le_of_ble_eq_true rfl)) rfl ?_
        refine b_goto (tgt := 22) (pc := 52) C dX12_listenOf_52 rfl ?_
        exact b_sub [4, 2, 1, 0] rfl (ih x3 v4 x3_6 _ _ hF hx)
      · rw [if_neg hc5] at hF
        refine b_goto (tgt := 49) (pc := 41) C dX12_listenOf_41 rfl ?_
        obtain ⟨x3_8, e9, hF⟩ := blet_e hF
        refine b_iinc (L' := [(3, .int x3_8), (4, .int v4), (0, .ref 92), (1, .int x1), (2, .int x2)]) (pc := 49) C dX12_listenOf_49 4 rfl ic_1 e9 (Hh.2.1 _ (Nat.le_of_ble_eq_true rfl)) rfl ?_
        refine b_goto (tgt := 22) (pc := 52) C dX12_listenOf_52 rfl ?_
        exact b_sub [2, 3, 4, 0] rfl (ih x1 x2 x3_8 _ _ hF hx)
set_option maxHeartbeats 4000000 in
set_option maxRecDepth 20000 in
theorem e_X12_listenOf_0 {X : bX} {l : Launch} {G : bG} {ρ : Nat → Nat} {A : Nat → Prop} {d : Nat} {r : Int32} {σ' : bSto} (C : bCX X cX12_listenOf RX12 (d + 4)) (Hh : bH X l G bSHf ρ A 5) (Rt : bRX X (some .int) (some (.int r)) σ')  (σ : bSto) (hF : f_X12_listenOf  σ = some (r, σ')) : bAJ X 0 [(0, .ref 92)] [] σ := by
  rw [f_X12_listenOf] at hF
  refine b_aload_n (pc := 0) C dX12_listenOf_0 rfl 0 rfl ?_
  refine b_iconst (pc := 1) C dX12_listenOf_1 ic_0 ?_
  refine b_iconst (pc := 2) C dX12_listenOf_2 ic_1 ?_
  obtain ⟨v3, σ2, hc1, hF⟩ := bbd_e hF
  refine b_cV2i (d' := (d + 3)) (pc := 3) C dX12_listenOf_3 mm_X12_382 (Hh.1 _ _ sh_92) rfl (Nat.le_of_ble_eq_true rfl) (by omega) (Hh.2.2 _ _ _ _ _ _ _ _ _ (lvl_eq (by omega) (e_X12_fitting (d + 1) (0 : Int32) (1 : Int32) _ _ _ hc1))) ?_
  refine b_if_ne (tgt := 12) (pc := 6) C dX12_listenOf_6 rfl (fun hc4 => ?_) (fun hc4 => ?_)
  · rw [if_neg hc4] at hF
    refine b_iconst (pc := 12) C dX12_listenOf_12 ic_0 ?_
    refine b_istore_n (L' := [(1, .int (0 : Int32)), (0, .ref 92)]) (pc := 13) C dX12_listenOf_13 rfl rfl (Hh.2.1 _ (Nat.le_of_ble_eq_true rfl)) rfl ?_
    refine b_aload_n (pc := 14) C dX12_listenOf_14 rfl 1 rfl ?_
    refine b_iconst (pc := 15) C dX12_listenOf_15 ic_0 ?_
    obtain ⟨v7, σ6, hc5, hF⟩ := bbd_e hF
    refine b_cV1i (d' := (d + 3)) (pc := 16) C dX12_listenOf_16 mm_X12_386 (Hh.1 _ _ sh_92) rfl (Nat.le_of_ble_eq_true rfl) (by omega) (Hh.2.2 _ _ _ _ _ _ _ _ _ (lvl_eq (by omega) (e_X12_leavesAt (d + 0) (0 : Int32) _ _ _ hc5))) ?_
    refine b_istore_n (L' := [(2, .int v7), (1, .int (0 : Int32)), (0, .ref 92)]) (pc := 19) C dX12_listenOf_19 rfl rfl (Hh.2.1 _ (Nat.le_of_ble_eq_true rfl)) rfl ?_
    refine b_iconst (pc := 20) C dX12_listenOf_20 ic_1 ?_
    refine b_istore_n (L' := [(3, .int (1 : Int32)), (2, .int v7), (1, .int (0 : Int32)), (0, .ref 92)]) (pc := 21) C dX12_listenOf_21 rfl rfl (Hh.2.1 _ (Nat.le_of_ble_eq_true rfl)) rfl ?_
    obtain ⟨x1_8, σ9, hq8, hF⟩ := bl1_e hF
    refine b_sub [3, 2, 1, 0] rfl (e_X12_listenOf_L22 C Hh Rt bFU (0 : Int32) v7 (1 : Int32) _ _ hq8 (fun _ _ e  => ?_))
    cases e
    refine b_iload_n (pc := 55) C dX12_listenOf_55 rfl 0 rfl ?_
    exact b_iret (pc := 56) C Rt dX12_listenOf_56 hF
  · rw [if_pos hc4] at hF
    refine b_bipush (pc := 9) C dX12_listenOf_9 bp_m2 ?_
    exact b_iret (pc := 11) C Rt dX12_listenOf_11 hF
set_option maxHeartbeats 4000000 in
set_option maxRecDepth 20000 in
theorem e_X12_listenOf {l : Launch} {G : bG} {ρ : Nat → Nat} {A : Nat → Prop} (d : Nat)  (σ : bSto) (r : Int32) (σ' : bSto) (hF : f_X12_listenOf  σ = some (r, σ')) : bEv l G bSHf ρ A yX12_listenOf cX12_listenOf 5 (some .int) (d + 4) [.ref 92] σ (some (.int r)) σ' := b_met (d := d + 4) (by decide +kernel) (Nat.le_of_ble_eq_true rfl) rfl (fun X C Rt h1 h2 h3 => e_X12_listenOf_0 C ⟨fun o q h => by rw [h1]; exact h, fun i h => by rw [h2]; exact h, h3⟩ Rt  _ hF)
/-! BenchColonyModel.listen -/
def f_X12_listen  (σ : bSto) : Option (Int32 × bSto) := bbv (f_X12_good  σ) (fun σ2 => (if (σ2.1 92 14) = 0 then bbd (f_X12_no (1 : Int32) σ2) (fun v6 σ5 => some (v6, σ5)) else bbd (f_X12_listenOf  σ2) (fun v9 σ8 => some (v9, σ8))))
set_option maxHeartbeats 4000000 in
set_option maxRecDepth 20000 in
theorem e_X12_listen_0 {X : bX} {l : Launch} {G : bG} {ρ : Nat → Nat} {A : Nat → Prop} {d : Nat} {r : Int32} {σ' : bSto} (C : bCX X cX12_listen RX12 (d + 5)) (Hh : bH X l G bSHf ρ A 1) (Rt : bRX X (some .int) (some (.int r)) σ')  (σ : bSto) (hF : f_X12_listen  σ = some (r, σ')) : bAJ X 0 [(0, .ref 92)] [] σ := by
  rw [f_X12_listen] at hF
  refine b_aload_n (pc := 0) C dX12_listen_0 rfl 0 rfl ?_
  obtain ⟨σ2, hc1, hF⟩ := bbv_e hF
  refine b_cV0v (d' := (d + 4)) (pc := 1) C dX12_listen_1 mm_X12_181 (Hh.1 _ _ sh_92) rfl (Nat.le_of_ble_eq_true rfl) (by omega) (Hh.2.2 _ _ _ _ _ _ _ _ _ (lvl_eq (by omega) (e_X12_good (d + 4)  _ _ hc1))) ?_
  refine b_aload_n (pc := 4) C dX12_listen_4 rfl 0 rfl ?_
  refine b_getI (pc := 5) C dX12_listen_5 fl_X12_194 (Hh.1 _ _ sh_92) rfl ?_
  refine b_if_eq (tgt := 18) (pc := 8) C dX12_listen_8 rfl (fun hc3 => ?_) (fun hc3 => ?_)
  · rw [if_pos hc3] at hF
    refine b_aload_n (pc := 18) C dX12_listen_18 rfl 0 rfl ?_
    refine b_iconst (pc := 19) C dX12_listen_19 ic_1 ?_
    obtain ⟨v6, σ5, hc4, hF⟩ := bbd_e hF
    refine b_cV1i (d' := (d + 4)) (pc := 20) C dX12_listen_20 mm_X12_184 (Hh.1 _ _ sh_92) rfl (Nat.le_of_ble_eq_true rfl) (by omega) (Hh.2.2 _ _ _ _ _ _ _ _ _ (lvl_eq (by omega) (e_X12_no (d + 4) (1 : Int32) _ _ _ hc4))) ?_
    exact b_iret (pc := 23) C Rt dX12_listen_23 hF
  · rw [if_neg hc3] at hF
    refine b_aload_n (pc := 11) C dX12_listen_11 rfl 0 rfl ?_
    obtain ⟨v9, σ8, hc7, hF⟩ := bbd_e hF
    refine b_cV0i (d' := (d + 4)) (pc := 12) C dX12_listen_12 mm_X12_389 (Hh.1 _ _ sh_92) rfl (Nat.le_of_ble_eq_true rfl) (by omega) (Hh.2.2 _ _ _ _ _ _ _ _ _ (lvl_eq (by omega) (e_X12_listenOf (d + 0)  _ _ _ hc7))) ?_
    refine b_goto (tgt := 23) (pc := 15) C dX12_listen_15 rfl ?_
    exact b_iret (pc := 23) C Rt dX12_listen_23 hF
set_option maxHeartbeats 4000000 in
set_option maxRecDepth 20000 in
theorem e_X12_listen {l : Launch} {G : bG} {ρ : Nat → Nat} {A : Nat → Prop} (d : Nat)  (σ : bSto) (r : Int32) (σ' : bSto) (hF : f_X12_listen  σ = some (r, σ')) : bEv l G bSHf ρ A yX12_listen cX12_listen 1 (some .int) (d + 5) [.ref 92] σ (some (.int r)) σ' := b_met (d := d + 5) (by decide +kernel) (Nat.le_of_ble_eq_true rfl) rfl (fun X C Rt h1 h2 h3 => e_X12_listen_0 C ⟨fun o q h => by rw [h1]; exact h, fun i h => by rw [h2]; exact h, h3⟩ Rt  _ hF)
/-! BenchColonyModel.listenLeaves -/
def f_X12_listenLeaves  (σ : bSto) : Option (Int32 × bSto) := bbv (f_X12_good  σ) (fun σ2 => (if (σ2.1 92 14) = 0 then bbd (f_X12_no (1 : Int32) σ2) (fun v13 σ12 => some (v13, σ12)) else bbd (f_X12_listenOf  σ2) (fun v6 σ5 => (if 0 ≤ v6 then bbd (f_X12_leavesAt v6 σ5) (fun v10 σ9 => some (v10, σ9)) else some ((-2 : Int32), σ5)))))
set_option maxHeartbeats 4000000 in
set_option maxRecDepth 20000 in
theorem e_X12_listenLeaves_0 {X : bX} {l : Launch} {G : bG} {ρ : Nat → Nat} {A : Nat → Prop} {d : Nat} {r : Int32} {σ' : bSto} (C : bCX X cX12_listenLeaves RX12 (d + 5)) (Hh : bH X l G bSHf ρ A 2) (Rt : bRX X (some .int) (some (.int r)) σ')  (σ : bSto) (hF : f_X12_listenLeaves  σ = some (r, σ')) : bAJ X 0 [(0, .ref 92)] [] σ := by
  rw [f_X12_listenLeaves] at hF
  refine b_aload_n (pc := 0) C dX12_listenLeaves_0 rfl 0 rfl ?_
  obtain ⟨σ2, hc1, hF⟩ := bbv_e hF
  refine b_cV0v (d' := (d + 4)) (pc := 1) C dX12_listenLeaves_1 mm_X12_181 (Hh.1 _ _ sh_92) rfl (Nat.le_of_ble_eq_true rfl) (by omega) (Hh.2.2 _ _ _ _ _ _ _ _ _ (lvl_eq (by omega) (e_X12_good (d + 4)  _ _ hc1))) ?_
  refine b_aload_n (pc := 4) C dX12_listenLeaves_4 rfl 0 rfl ?_
  refine b_getI (pc := 5) C dX12_listenLeaves_5 fl_X12_194 (Hh.1 _ _ sh_92) rfl ?_
  refine b_if_ne (tgt := 17) (pc := 8) C dX12_listenLeaves_8 rfl (fun hc3 => ?_) (fun hc3 => ?_)
  · rw [if_neg hc3] at hF
    refine b_aload_n (pc := 17) C dX12_listenLeaves_17 rfl 0 rfl ?_
    obtain ⟨v6, σ5, hc4, hF⟩ := bbd_e hF
    refine b_cV0i (d' := (d + 4)) (pc := 18) C dX12_listenLeaves_18 mm_X12_389 (Hh.1 _ _ sh_92) rfl (Nat.le_of_ble_eq_true rfl) (by omega) (Hh.2.2 _ _ _ _ _ _ _ _ _ (lvl_eq (by omega) (e_X12_listenOf (d + 0)  _ _ _ hc4))) ?_
    refine b_istore_n (L' := [(1, .int v6), (0, .ref 92)]) (pc := 21) C dX12_listenLeaves_21 rfl rfl (Hh.2.1 _ (Nat.le_of_ble_eq_true rfl)) rfl ?_
    refine b_iload_n (pc := 22) C dX12_listenLeaves_22 rfl 0 rfl ?_
    refine b_if_ge (tgt := 31) (pc := 23) C dX12_listenLeaves_23 rfl (fun hc7 => ?_) (fun hc7 => ?_)
    · rw [if_pos hc7] at hF
      refine b_aload_n (pc := 31) C dX12_listenLeaves_31 rfl 1 rfl ?_
      refine b_iload_n (pc := 32) C dX12_listenLeaves_32 rfl 0 rfl ?_
      obtain ⟨v10, σ9, hc8, hF⟩ := bbd_e hF
      refine b_cV1i (d' := (d + 4)) (pc := 33) C dX12_listenLeaves_33 mm_X12_386 (Hh.1 _ _ sh_92) rfl (Nat.le_of_ble_eq_true rfl) (by omega) (Hh.2.2 _ _ _ _ _ _ _ _ _ (lvl_eq (by omega) (e_X12_leavesAt (d + 1) v6 _ _ _ hc8))) ?_
      exact b_iret (pc := 36) C Rt dX12_listenLeaves_36 hF
    · rw [if_neg hc7] at hF
      refine b_bipush (pc := 26) C dX12_listenLeaves_26 bp_m2 ?_
      refine b_goto (tgt := 36) (pc := 28) C dX12_listenLeaves_28 rfl ?_
      exact b_iret (pc := 36) C Rt dX12_listenLeaves_36 hF
  · rw [if_pos hc3] at hF
    refine b_aload_n (pc := 11) C dX12_listenLeaves_11 rfl 0 rfl ?_
    refine b_iconst (pc := 12) C dX12_listenLeaves_12 ic_1 ?_
    obtain ⟨v13, σ12, hc11, hF⟩ := bbd_e hF
    refine b_cV1i (d' := (d + 4)) (pc := 13) C dX12_listenLeaves_13 mm_X12_184 (Hh.1 _ _ sh_92) rfl (Nat.le_of_ble_eq_true rfl) (by omega) (Hh.2.2 _ _ _ _ _ _ _ _ _ (lvl_eq (by omega) (e_X12_no (d + 4) (1 : Int32) _ _ _ hc11))) ?_
    exact b_iret (pc := 16) C Rt dX12_listenLeaves_16 hF
set_option maxHeartbeats 4000000 in
set_option maxRecDepth 20000 in
theorem e_X12_listenLeaves {l : Launch} {G : bG} {ρ : Nat → Nat} {A : Nat → Prop} (d : Nat)  (σ : bSto) (r : Int32) (σ' : bSto) (hF : f_X12_listenLeaves  σ = some (r, σ')) : bEv l G bSHf ρ A yX12_listenLeaves cX12_listenLeaves 2 (some .int) (d + 5) [.ref 92] σ (some (.int r)) σ' := b_met (d := d + 5) (by decide +kernel) (Nat.le_of_ble_eq_true rfl) rfl (fun X C Rt h1 h2 h3 => e_X12_listenLeaves_0 C ⟨fun o q h => by rw [h1]; exact h, fun i h => by rw [h2]; exact h, h3⟩ Rt  _ hF)
/-! BenchColonyModel.drawnBy -/
def f_X12_drawnBy_L6 : Nat → Nat → Int32 → Int32 → Int32 → Int32 → bSto → Option (Int32 × bSto)
  | 0, _, _, _, _, _, _ => none
  | n + 1, x1, x2, x3, x4, x5, σ => (if (σ.1 95 4) ≤ x5 then some (x4, σ) else if (x2 + x5) < 0 ∨ (bln x1) ≤ (x2 + x5).toNatClampNeg then none else if (((77 : Int32) + ((7 : Int32) * x3)) + x5) < 0 ∨ 406 ≤ (((77 : Int32) + ((7 : Int32) * x3)) + x5).toNatClampNeg then none else blet (x4 + ((σ.1 x1 (x2 + x5).toNatClampNeg) * (σ.1 95 (((77 : Int32) + ((7 : Int32) * x3)) + x5).toNatClampNeg))) (fun x4_4 => blet (x5 + (1 : Int32)) (fun x5_6 => f_X12_drawnBy_L6 n x1 x2 x3 x4_4 x5_6 σ)))
def f_X12_drawnBy (x1 : Nat) (x2 : Int32) (x3 : Int32) (σ : bSto) : Option (Int32 × bSto) := bl1 (f_X12_drawnBy_L6 bFU x1 x2 x3 (0 : Int32) (0 : Int32) σ) (fun x4_1 σ2 => some (x4_1, σ2))
set_option maxHeartbeats 4000000 in
set_option maxRecDepth 20000 in
theorem e_X12_drawnBy_L6 {X : bX} {l : Launch} {G : bG} {ρ : Nat → Nat} {A : Nat → Prop} {d : Nat} {r : Int32} {σ' : bSto} (C : bCX X cX12_drawnBy RX12 (d + 0)) (Hh : bH X l G bSHf ρ A 6) (Rt : bRX X (some .int) (some (.int r)) σ') : ∀ (n : Nat) (x1 : Nat) (hx1 : kIA x1) (x2 : Int32) (x3 : Int32) (x4 : Int32) (x5 : Int32) (σ : bSto) (q : (Int32 × bSto)), f_X12_drawnBy_L6 n x1 x2 x3 x4 x5 σ = some q → (∀ (x4 : Int32) (s : bSto), q = (x4, s) → bAJ X 50 [(4, .int x4)] [] s) → bAJ X 6 [(0, .ref 92), (1, .ref x1), (2, .int x2), (3, .int x3), (4, .int x4), (5, .int x5)] [] σ := by
  intro n
  induction n with
  | zero => intro x1 hx1 x2 x3 x4 x5 σ q hF; rw [f_X12_drawnBy_L6] at hF; cases hF
  | succ n ih =>
    intro x1 hx1 x2 x3 x4 x5 σ q hF hx
    rw [f_X12_drawnBy_L6] at hF
    refine b_iload (pc := 6) C dX12_drawnBy_6 5 rfl ?_
    refine b_aload_n (pc := 8) C dX12_drawnBy_8 rfl 0 rfl ?_
    refine b_getS (pc := 9) C dX12_drawnBy_9 fl_X12_20 (Hh.1 _ _ sh_92) rfl ?_
    refine b_iconst (pc := 12) C dX12_drawnBy_12 ic_4 ?_
    refine b_ialdK (pc := 13) C dX12_drawnBy_13 (Hh.1 _ _ sh_95) tn_4 (by decide) ?_
    refine b_icmp_ge (tgt := 50) (pc := 14) C dX12_drawnBy_14 rfl (fun hc1 => ?_) (fun hc1 => ?_)
    · rw [if_pos hc1] at hF
      exact b_sub [4] rfl (hx _ _ (Option.some.inj hF).symm )
    · rw [if_neg hc1] at hF
      refine b_iload (pc := 17) C dX12_drawnBy_17 4 rfl ?_
      refine b_aload_n (pc := 19) C dX12_drawnBy_19 rfl 1 rfl ?_
      refine b_iload_n (pc := 20) C dX12_drawnBy_20 rfl 2 rfl ?_
      refine b_iload (pc := 21) C dX12_drawnBy_21 5 rfl ?_
      refine b_iadd (pc := 23) C dX12_drawnBy_23 ?_
      obtain ⟨hb2, hF⟩ := bif_n hF
      refine b_iald (pc := 24) C dX12_drawnBy_24 (Hh.1 _ _ hx1) hb2 ?_
      refine b_aload_n (pc := 25) C dX12_drawnBy_25 rfl 0 rfl ?_
      refine b_getS (pc := 26) C dX12_drawnBy_26 fl_X12_20 (Hh.1 _ _ sh_92) rfl ?_
      refine b_bipush (pc := 29) C dX12_drawnBy_29 bp_77 ?_
      refine b_bipush (pc := 31) C dX12_drawnBy_31 bp_7 ?_
      refine b_iload_n (pc := 33) C dX12_drawnBy_33 rfl 3 rfl ?_
      refine b_imul (pc := 34) C dX12_drawnBy_34 ?_
      refine b_iadd (pc := 35) C dX12_drawnBy_35 ?_
      refine b_iload (pc := 36) C dX12_drawnBy_36 5 rfl ?_
      refine b_iadd (pc := 38) C dX12_drawnBy_38 ?_
      obtain ⟨hb3, hF⟩ := bif_n hF
      refine b_iald (pc := 39) C dX12_drawnBy_39 (Hh.1 _ _ sh_95) hb3 ?_
      refine b_imul (pc := 40) C dX12_drawnBy_40 ?_
      refine b_iadd (pc := 41) C dX12_drawnBy_41 ?_
      obtain ⟨x4_4, e5, hF⟩ := blet_e hF
      refine b_istore (L' := [(4, .int x4_4), (0, .ref 92), (1, .ref x1), (2, .int x2), (3, .int x3), (5, .int x5)]) (pc := 42) C dX12_drawnBy_42 e5 (Hh.2.1 _ (Nat.le_of_ble_eq_true rfl)) rfl ?_
      obtain ⟨x5_6, e7, hF⟩ := blet_e hF
      refine b_iinc (L' := [(5, .int x5_6), (4, .int x4_4), (0, .ref 92), (1, .ref x1), (2, .int x2), (3, .int x3)]) (pc := 44) C dX12_drawnBy_44 5 rfl ic_1 e7 (Hh.2.1 _ (Nat.le_of_ble_eq_true rfl)) rfl ?_
      refine b_goto (tgt := 6) (pc := 47) C dX12_drawnBy_47 rfl ?_
      exact b_sub [2, 3, 4, 5, 1, 0] rfl (ih _ hx1 x2 x3 x4_4 x5_6 _ _ hF hx)
set_option maxHeartbeats 4000000 in
set_option maxRecDepth 20000 in
theorem e_X12_drawnBy_0 {X : bX} {l : Launch} {G : bG} {ρ : Nat → Nat} {A : Nat → Prop} {d : Nat} {r : Int32} {σ' : bSto} (C : bCX X cX12_drawnBy RX12 (d + 0)) (Hh : bH X l G bSHf ρ A 6) (Rt : bRX X (some .int) (some (.int r)) σ') (x1 : Nat) (hx1 : kIA x1) (x2 : Int32) (x3 : Int32) (σ : bSto) (hF : f_X12_drawnBy x1 x2 x3 σ = some (r, σ')) : bAJ X 0 [(0, .ref 92), (1, .ref x1), (2, .int x2), (3, .int x3)] [] σ := by
  rw [f_X12_drawnBy] at hF
  refine b_iconst (pc := 0) C dX12_drawnBy_0 ic_0 ?_
  refine b_istore (L' := [(4, .int (0 : Int32)), (0, .ref 92), (1, .ref x1), (2, .int x2), (3, .int x3)]) (pc := 1) C dX12_drawnBy_1 rfl (Hh.2.1 _ (Nat.le_of_ble_eq_true rfl)) rfl ?_
  refine b_iconst (pc := 3) C dX12_drawnBy_3 ic_0 ?_
  refine b_istore (L' := [(5, .int (0 : Int32)), (4, .int (0 : Int32)), (0, .ref 92), (1, .ref x1), (2, .int x2), (3, .int x3)]) (pc := 4) C dX12_drawnBy_4 rfl (Hh.2.1 _ (Nat.le_of_ble_eq_true rfl)) rfl ?_
  obtain ⟨x4_1, σ2, hq1, hF⟩ := bl1_e hF
  refine b_sub [2, 3, 4, 5, 1, 0] rfl (e_X12_drawnBy_L6 C Hh Rt bFU _ hx1 x2 x3 (0 : Int32) (0 : Int32) _ _ hq1 (fun _ _ e  => ?_))
  cases e
  refine b_iload (pc := 50) C dX12_drawnBy_50 0 rfl ?_
  exact b_iret (pc := 52) C Rt dX12_drawnBy_52 hF
set_option maxHeartbeats 4000000 in
set_option maxRecDepth 20000 in
theorem e_X12_drawnBy {l : Launch} {G : bG} {ρ : Nat → Nat} {A : Nat → Prop} (d : Nat) (x1 : Nat) (hx1 : kIA x1) (x2 : Int32) (x3 : Int32) (σ : bSto) (r : Int32) (σ' : bSto) (hF : f_X12_drawnBy x1 x2 x3 σ = some (r, σ')) : bEv l G bSHf ρ A yX12_drawnBy cX12_drawnBy 6 (some .int) (d + 0) [.ref 92, .ref x1, .int x2, .int x3] σ (some (.int r)) σ' := b_met (d := d + 0) (by decide +kernel) (Nat.le_of_ble_eq_true rfl) rfl (fun X C Rt h1 h2 h3 => e_X12_drawnBy_0 C ⟨fun o q h => by rw [h1]; exact h, fun i h => by rw [h2]; exact h, h3⟩ Rt _ hx1 _ _ _ hF)
/-! BenchColonyModel.roundOf -/
def f_X12_roundOf_J151_17 (k : Nat → Int32 → Int32 → Int32 → bSto → Option (Int32 × bSto)) (x1 : Nat) (x2 : Int32) (x4 : Int32) (s0 : Int32) (s1 : Int32) (σ : bSto) : Option (Int32 × bSto) := blet (s0 ||| s1) (fun x3_1 => blet (x4 + (1 : Int32)) (fun x4_3 => k x1 x2 x3_1 x4_3 σ))
def f_X12_roundOf_J120_17 (k : Nat → Int32 → Int32 → Int32 → bSto → Option (Int32 × bSto)) (x1 : Nat) (x2 : Int32) (x3 : Int32) (x4 : Int32) (s0 : Int32) (σ : bSto) : Option (Int32 × bSto) := if (x2 + x4) < 0 ∨ (bln x1) ≤ (x2 + x4).toNatClampNeg then none else blet (bI σ x1 (x2 + x4).toNatClampNeg s0) (fun σ1 => if x4 < 0 ∨ 7 ≤ x4.toNatClampNeg then none else (if s0 = (σ1.1 107 x4.toNatClampNeg) then f_X12_roundOf_J151_17 k x1 x2 x4 x3 (0 : Int32) σ1 else f_X12_roundOf_J151_17 k x1 x2 x4 x3 ((1 : Int32) <<< (x4 &&& 31)) σ1))
def f_X12_roundOf_J93_17 (k : Nat → Int32 → Int32 → Int32 → bSto → Option (Int32 × bSto)) (x1 : Nat) (x2 : Int32) (x3 : Int32) (x4 : Int32) (x5 : Int32) (s0 : Int32) (σ : bSto) : Option (Int32 × bSto) := (if s0 = 0 then (if x5 ≤ 0 then f_X12_roundOf_J120_17 k x1 x2 x3 x4 (-1 : Int32) σ else f_X12_roundOf_J120_17 k x1 x2 x3 x4 (1 : Int32) σ) else if x4 < 0 ∨ 7 ≤ x4.toNatClampNeg then none else f_X12_roundOf_J120_17 k x1 x2 x3 x4 (σ.1 107 x4.toNatClampNeg) σ)
def f_X12_roundOf_J83_17 (k : Nat → Int32 → Int32 → Int32 → bSto → Option (Int32 × bSto)) (x1 : Nat) (x2 : Int32) (x3 : Int32) (x4 : Int32) (x5 : Int32) (σ : bSto) : Option (Int32 × bSto) := (if x5 = 0 then f_X12_roundOf_J93_17 k x1 x2 x3 x4 x5 (1 : Int32) σ else f_X12_roundOf_J93_17 k x1 x2 x3 x4 x5 (0 : Int32) σ)
def f_X12_roundOf_J62_17 (k : Nat → Int32 → Int32 → Int32 → bSto → Option (Int32 × bSto)) (x1 : Nat) (x2 : Int32) (x3 : Int32) (x4 : Int32) (x5 : Int32) (σ : bSto) : Option (Int32 × bSto) := bbd (f_X12_kindOf x4 σ) (fun v3 σ2 => (if v3 = (1 : Int32) then if x4 < 0 ∨ 7 ≤ x4.toNatClampNeg then none else (if (σ2.1 107 x4.toNatClampNeg) = (-1 : Int32) then f_X12_roundOf_J93_17 k x1 x2 x3 x4 x5 (1 : Int32) σ2 else f_X12_roundOf_J83_17 k x1 x2 x3 x4 x5 σ2) else f_X12_roundOf_J83_17 k x1 x2 x3 x4 x5 σ2))
def f_X12_roundOf_L17 : Nat → Nat → Int32 → Int32 → Int32 → bSto → Option (Int32 × bSto)
  | 0, _, _, _, _, _ => none
  | n + 1, x1, x2, x3, x4, σ => (if (σ.1 95 4) ≤ x4 then some (x3, σ) else bbd (f_X12_drawnBy 107 (0 : Int32) x4 σ) (fun v4 σ3 => bbd (f_X12_kindOf x4 σ3) (fun v7 σ6 => (if v7 = (2 : Int32) then if x4 < 0 ∨ 7 ≤ x4.toNatClampNeg then none else (if (σ6.1 107 x4.toNatClampNeg) = (1 : Int32) then f_X12_roundOf_J93_17 (f_X12_roundOf_L17 n) x1 x2 x3 x4 v4 (1 : Int32) σ6 else f_X12_roundOf_J62_17 (f_X12_roundOf_L17 n) x1 x2 x3 x4 v4 σ6) else f_X12_roundOf_J62_17 (f_X12_roundOf_L17 n) x1 x2 x3 x4 v4 σ6))))
def f_X12_roundOf (x1 : Nat) (x2 : Int32) (σ : bSto) : Option (Int32 × bSto) := bbv (f_X12_copy x1 x2 107 (0 : Int32) (7 : Int32) σ) (fun σ2 => bl1 (f_X12_roundOf_L17 bFU x1 x2 (0 : Int32) (0 : Int32) σ2) (fun x3_3 σ4 => some (x3_3, σ4)))
set_option maxHeartbeats 4000000 in
set_option maxRecDepth 20000 in
theorem e_X12_roundOf_J151_17 {X : bX} {l : Launch} {G : bG} {ρ : Nat → Nat} {A : Nat → Prop} {d : Nat} {r : Int32} {σ' : bSto} (C : bCX X cX12_roundOf RX12 (d + 1)) (Hh : bH X l G bSHf ρ A 8) (Rt : bRX X (some .int) (some (.int r)) σ') {k : Nat → Int32 → Int32 → Int32 → bSto → Option (Int32 × bSto)} (ih : ∀ (x1 : Nat) (hx1 : kIA x1) (x2 : Int32) (x3 : Int32) (x4 : Int32) (σ : bSto) (q : (Int32 × bSto)), k x1 x2 x3 x4 σ = some q → (∀ (x3 : Int32) (s : bSto), q = (x3, s) → bAJ X 159 [(3, .int x3)] [] s) → bAJ X 17 [(0, .ref 92), (1, .ref x1), (2, .int x2), (3, .int x3), (4, .int x4)] [] σ) (x1 : Nat) (hx1 : kIA x1) (x2 : Int32) (x4 : Int32) (s0 : Int32) (s1 : Int32) (σ : bSto) (q : (Int32 × bSto)) (hF : f_X12_roundOf_J151_17 k x1 x2 x4 s0 s1 σ = some q) : (∀ (x3 : Int32) (s : bSto), q = (x3, s) → bAJ X 159 [(3, .int x3)] [] s) → bAJ X 151 [(0, .ref 92), (1, .ref x1), (2, .int x2), (4, .int x4)] [.int s1, .int s0] σ := by
  intro hx
  rw [f_X12_roundOf_J151_17] at hF
  refine b_ior (pc := 151) C dX12_roundOf_151 ?_
  obtain ⟨x3_1, e2, hF⟩ := blet_e hF
  refine b_istore_n (L' := [(3, .int x3_1), (0, .ref 92), (1, .ref x1), (2, .int x2), (4, .int x4)]) (pc := 152) C dX12_roundOf_152 rfl e2 (Hh.2.1 _ (Nat.le_of_ble_eq_true rfl)) rfl ?_
  obtain ⟨x4_3, e4, hF⟩ := blet_e hF
  refine b_iinc (L' := [(4, .int x4_3), (3, .int x3_1), (0, .ref 92), (1, .ref x1), (2, .int x2)]) (pc := 153) C dX12_roundOf_153 4 rfl ic_1 e4 (Hh.2.1 _ (Nat.le_of_ble_eq_true rfl)) rfl ?_
  refine b_goto (tgt := 17) (pc := 156) C dX12_roundOf_156 rfl ?_
  exact b_sub [2, 3, 4, 1, 0] rfl (ih _ hx1 x2 x3_1 x4_3 _ _ hF hx)
set_option maxHeartbeats 4000000 in
set_option maxRecDepth 20000 in
theorem e_X12_roundOf_J120_17 {X : bX} {l : Launch} {G : bG} {ρ : Nat → Nat} {A : Nat → Prop} {d : Nat} {r : Int32} {σ' : bSto} (C : bCX X cX12_roundOf RX12 (d + 1)) (Hh : bH X l G bSHf ρ A 8) (Rt : bRX X (some .int) (some (.int r)) σ') {k : Nat → Int32 → Int32 → Int32 → bSto → Option (Int32 × bSto)} (ih : ∀ (x1 : Nat) (hx1 : kIA x1) (x2 : Int32) (x3 : Int32) (x4 : Int32) (σ : bSto) (q : (Int32 × bSto)), k x1 x2 x3 x4 σ = some q → (∀ (x3 : Int32) (s : bSto), q = (x3, s) → bAJ X 159 [(3, .int x3)] [] s) → bAJ X 17 [(0, .ref 92), (1, .ref x1), (2, .int x2), (3, .int x3), (4, .int x4)] [] σ) (x1 : Nat) (hx1 : kIA x1) (x2 : Int32) (x3 : Int32) (x4 : Int32) (s0 : Int32) (σ : bSto) (q : (Int32 × bSto)) (hF : f_X12_roundOf_J120_17 k x1 x2 x3 x4 s0 σ = some q) : (∀ (x3 : Int32) (s : bSto), q = (x3, s) → bAJ X 159 [(3, .int x3)] [] s) → bAJ X 120 [(0, .ref 92), (1, .ref x1), (2, .int x2), (3, .int x3), (4, .int x4)] [.int s0] σ := by
  intro hx
  rw [f_X12_roundOf_J120_17] at hF
  refine b_istore (L' := [(7, .int s0), (0, .ref 92), (1, .ref x1), (2, .int x2), (3, .int x3), (4, .int x4)]) (pc := 120) C dX12_roundOf_120 rfl (Hh.2.1 _ (Nat.le_of_ble_eq_true rfl)) rfl ?_
  refine b_aload_n (pc := 122) C dX12_roundOf_122 rfl 2 rfl ?_
  refine b_iload_n (pc := 123) C dX12_roundOf_123 rfl 3 rfl ?_
  refine b_iload (pc := 124) C dX12_roundOf_124 5 rfl ?_
  refine b_iadd (pc := 126) C dX12_roundOf_126 ?_
  refine b_iload (pc := 127) C dX12_roundOf_127 0 rfl ?_
  obtain ⟨hb3, hF⟩ := bif_n hF
  obtain ⟨σ1, e2, hF⟩ := blet_e hF
  refine b_iast (pc := 129) C dX12_roundOf_129 (Hh.1 _ _ hx1) hb3 e2 ?_
  refine b_iload_n (pc := 130) C dX12_roundOf_130 rfl 4 rfl ?_
  refine b_iload (pc := 131) C dX12_roundOf_131 0 rfl ?_
  refine b_aload_n (pc := 133) C dX12_roundOf_133 rfl 1 rfl ?_
  refine b_getS (pc := 134) C dX12_roundOf_134 fl_X12_56 (Hh.1 _ _ sh_92) rfl ?_
  refine b_iload (pc := 137) C dX12_roundOf_137 5 rfl ?_
  obtain ⟨hb4, hF⟩ := bif_n hF
  refine b_iald (pc := 139) C dX12_roundOf_139 (Hh.1 _ _ sh_107) hb4 ?_
  refine b_icmp_ne (tgt := 147) (pc := 140) C dX12_roundOf_140 rfl (fun hc5 => ?_) (fun hc5 => ?_)
  · rw [if_neg hc5] at hF
    refine b_iconst (pc := 147) C dX12_roundOf_147 ic_1 ?_
    refine b_iload (pc := 148) C dX12_roundOf_148 5 rfl ?_
    refine b_ishl (pc := 150) C dX12_roundOf_150 ?_
    exact b_sub [1, 2, 3, 5] rfl (e_X12_roundOf_J151_17 C Hh Rt ih _ hx1 x2 x4 x3 ((1 : Int32) <<< (x4 &&& 31)) _ _ hF hx)
  · rw [if_pos hc5] at hF
    refine b_iconst (pc := 143) C dX12_roundOf_143 ic_0 ?_
    refine b_goto (tgt := 151) (pc := 144) C dX12_roundOf_144 rfl ?_
    exact b_sub [1, 2, 3, 5] rfl (e_X12_roundOf_J151_17 C Hh Rt ih _ hx1 x2 x4 x3 (0 : Int32) _ _ hF hx)
set_option maxHeartbeats 4000000 in
set_option maxRecDepth 20000 in
theorem e_X12_roundOf_J93_17 {X : bX} {l : Launch} {G : bG} {ρ : Nat → Nat} {A : Nat → Prop} {d : Nat} {r : Int32} {σ' : bSto} (C : bCX X cX12_roundOf RX12 (d + 1)) (Hh : bH X l G bSHf ρ A 8) (Rt : bRX X (some .int) (some (.int r)) σ') {k : Nat → Int32 → Int32 → Int32 → bSto → Option (Int32 × bSto)} (ih : ∀ (x1 : Nat) (hx1 : kIA x1) (x2 : Int32) (x3 : Int32) (x4 : Int32) (σ : bSto) (q : (Int32 × bSto)), k x1 x2 x3 x4 σ = some q → (∀ (x3 : Int32) (s : bSto), q = (x3, s) → bAJ X 159 [(3, .int x3)] [] s) → bAJ X 17 [(0, .ref 92), (1, .ref x1), (2, .int x2), (3, .int x3), (4, .int x4)] [] σ) (x1 : Nat) (hx1 : kIA x1) (x2 : Int32) (x3 : Int32) (x4 : Int32) (x5 : Int32) (s0 : Int32) (σ : bSto) (q : (Int32 × bSto)) (hF : f_X12_roundOf_J93_17 k x1 x2 x3 x4 x5 s0 σ = some q) : (∀ (x3 : Int32) (s : bSto), q = (x3, s) → bAJ X 159 [(3, .int x3)] [] s) → bAJ X 93 [(0, .ref 92), (1, .ref x1), (2, .int x2), (3, .int x3), (4, .int x4), (5, .int x5)] [.int s0] σ := by
  intro hx
  rw [f_X12_roundOf_J93_17] at hF
  refine b_istore (L' := [(6, .int s0), (0, .ref 92), (1, .ref x1), (2, .int x2), (3, .int x3), (4, .int x4), (5, .int x5)]) (pc := 93) C dX12_roundOf_93 rfl (Hh.2.1 _ (Nat.le_of_ble_eq_true rfl)) rfl ?_
  refine b_iload (pc := 95) C dX12_roundOf_95 0 rfl ?_
  refine b_if_eq (tgt := 110) (pc := 97) C dX12_roundOf_97 rfl (fun hc1 => ?_) (fun hc1 => ?_)
  · rw [if_pos hc1] at hF
    refine b_iload (pc := 110) C dX12_roundOf_110 6 rfl ?_
    refine b_if_le (tgt := 119) (pc := 112) C dX12_roundOf_112 rfl (fun hc2 => ?_) (fun hc2 => ?_)
    · rw [if_pos hc2] at hF
      refine b_iconst (pc := 119) C dX12_roundOf_119 ic_m1 ?_
      exact b_sub [1, 2, 3, 4, 5] rfl (e_X12_roundOf_J120_17 C Hh Rt ih _ hx1 x2 x3 x4 (-1 : Int32) _ _ hF hx)
    · rw [if_neg hc2] at hF
      refine b_iconst (pc := 115) C dX12_roundOf_115 ic_1 ?_
      refine b_goto (tgt := 120) (pc := 116) C dX12_roundOf_116 rfl ?_
      exact b_sub [1, 2, 3, 4, 5] rfl (e_X12_roundOf_J120_17 C Hh Rt ih _ hx1 x2 x3 x4 (1 : Int32) _ _ hF hx)
  · rw [if_neg hc1] at hF
    refine b_aload_n (pc := 100) C dX12_roundOf_100 rfl 1 rfl ?_
    refine b_getS (pc := 101) C dX12_roundOf_101 fl_X12_56 (Hh.1 _ _ sh_92) rfl ?_
    refine b_iload (pc := 104) C dX12_roundOf_104 5 rfl ?_
    obtain ⟨hb3, hF⟩ := bif_n hF
    refine b_iald (pc := 106) C dX12_roundOf_106 (Hh.1 _ _ sh_107) hb3 ?_
    refine b_goto (tgt := 120) (pc := 107) C dX12_roundOf_107 rfl ?_
    exact b_sub [1, 2, 3, 4, 5] rfl (e_X12_roundOf_J120_17 C Hh Rt ih _ hx1 x2 x3 x4 (σ.1 107 x4.toNatClampNeg) _ _ hF hx)
set_option maxHeartbeats 4000000 in
set_option maxRecDepth 20000 in
theorem e_X12_roundOf_J83_17 {X : bX} {l : Launch} {G : bG} {ρ : Nat → Nat} {A : Nat → Prop} {d : Nat} {r : Int32} {σ' : bSto} (C : bCX X cX12_roundOf RX12 (d + 1)) (Hh : bH X l G bSHf ρ A 8) (Rt : bRX X (some .int) (some (.int r)) σ') {k : Nat → Int32 → Int32 → Int32 → bSto → Option (Int32 × bSto)} (ih : ∀ (x1 : Nat) (hx1 : kIA x1) (x2 : Int32) (x3 : Int32) (x4 : Int32) (σ : bSto) (q : (Int32 × bSto)), k x1 x2 x3 x4 σ = some q → (∀ (x3 : Int32) (s : bSto), q = (x3, s) → bAJ X 159 [(3, .int x3)] [] s) → bAJ X 17 [(0, .ref 92), (1, .ref x1), (2, .int x2), (3, .int x3), (4, .int x4)] [] σ) (x1 : Nat) (hx1 : kIA x1) (x2 : Int32) (x3 : Int32) (x4 : Int32) (x5 : Int32) (σ : bSto) (q : (Int32 × bSto)) (hF : f_X12_roundOf_J83_17 k x1 x2 x3 x4 x5 σ = some q) : (∀ (x3 : Int32) (s : bSto), q = (x3, s) → bAJ X 159 [(3, .int x3)] [] s) → bAJ X 83 [(0, .ref 92), (1, .ref x1), (2, .int x2), (3, .int x3), (4, .int x4), (5, .int x5)] [] σ := by
  intro hx
  rw [f_X12_roundOf_J83_17] at hF
  refine b_iload (pc := 83) C dX12_roundOf_83 5 rfl ?_
  refine b_if_ne (tgt := 92) (pc := 85) C dX12_roundOf_85 rfl (fun hc1 => ?_) (fun hc1 => ?_)
  · rw [if_neg hc1] at hF
    refine b_iconst (pc := 92) C dX12_roundOf_92 ic_0 ?_
    exact b_sub [0, 1, 2, 3, 4, 5] rfl (e_X12_roundOf_J93_17 C Hh Rt ih _ hx1 x2 x3 x4 x5 (0 : Int32) _ _ hF hx)
  · rw [if_pos hc1] at hF
    refine b_iconst (pc := 88) C dX12_roundOf_88 ic_1 ?_
    refine b_goto (tgt := 93) (pc := 89) C dX12_roundOf_89 rfl ?_
    exact b_sub [0, 1, 2, 3, 4, 5] rfl (e_X12_roundOf_J93_17 C Hh Rt ih _ hx1 x2 x3 x4 x5 (1 : Int32) _ _ hF hx)
set_option maxHeartbeats 4000000 in
set_option maxRecDepth 20000 in
theorem e_X12_roundOf_J62_17 {X : bX} {l : Launch} {G : bG} {ρ : Nat → Nat} {A : Nat → Prop} {d : Nat} {r : Int32} {σ' : bSto} (C : bCX X cX12_roundOf RX12 (d + 1)) (Hh : bH X l G bSHf ρ A 8) (Rt : bRX X (some .int) (some (.int r)) σ') {k : Nat → Int32 → Int32 → Int32 → bSto → Option (Int32 × bSto)} (ih : ∀ (x1 : Nat) (hx1 : kIA x1) (x2 : Int32) (x3 : Int32) (x4 : Int32) (σ : bSto) (q : (Int32 × bSto)), k x1 x2 x3 x4 σ = some q → (∀ (x3 : Int32) (s : bSto), q = (x3, s) → bAJ X 159 [(3, .int x3)] [] s) → bAJ X 17 [(0, .ref 92), (1, .ref x1), (2, .int x2), (3, .int x3), (4, .int x4)] [] σ) (x1 : Nat) (hx1 : kIA x1) (x2 : Int32) (x3 : Int32) (x4 : Int32) (x5 : Int32) (σ : bSto) (q : (Int32 × bSto)) (hF : f_X12_roundOf_J62_17 k x1 x2 x3 x4 x5 σ = some q) : (∀ (x3 : Int32) (s : bSto), q = (x3, s) → bAJ X 159 [(3, .int x3)] [] s) → bAJ X 62 [(0, .ref 92), (1, .ref x1), (2, .int x2), (3, .int x3), (4, .int x4), (5, .int x5)] [] σ := by
  intro hx
  rw [f_X12_roundOf_J62_17] at hF
  refine b_aload_n (pc := 62) C dX12_roundOf_62 rfl 0 rfl ?_
  refine b_iload (pc := 63) C dX12_roundOf_63 4 rfl ?_
  obtain ⟨v3, σ2, hc1, hF⟩ := bbd_e hF
  refine b_cV1i (d' := (d + 0)) (pc := 65) C dX12_roundOf_65 mm_X12_302 (Hh.1 _ _ sh_92) rfl (Nat.le_of_ble_eq_true rfl) (by omega) (Hh.2.2 _ _ _ _ _ _ _ _ _ (lvl_eq (by omega) (e_X12_kindOf (d + 0) x4 _ _ _ hc1))) ?_
  refine b_iconst (pc := 68) C dX12_roundOf_68 ic_1 ?_
  refine b_icmp_ne (tgt := 83) (pc := 69) C dX12_roundOf_69 rfl (fun hc4 => ?_) (fun hc4 => ?_)
  · rw [if_neg hc4] at hF
    exact b_sub [0, 1, 2, 3, 4, 5] rfl (e_X12_roundOf_J83_17 C Hh Rt ih _ hx1 x2 x3 x4 x5 _ _ hF hx)
  · rw [if_pos hc4] at hF
    refine b_aload_n (pc := 72) C dX12_roundOf_72 rfl 0 rfl ?_
    refine b_getS (pc := 73) C dX12_roundOf_73 fl_X12_56 (Hh.1 _ _ sh_92) rfl ?_
    refine b_iload (pc := 76) C dX12_roundOf_76 4 rfl ?_
    obtain ⟨hb5, hF⟩ := bif_n hF
    refine b_iald (pc := 78) C dX12_roundOf_78 (Hh.1 _ _ sh_107) hb5 ?_
    refine b_iconst (pc := 79) C dX12_roundOf_79 ic_m1 ?_
    refine b_icmp_eq (tgt := 88) (pc := 80) C dX12_roundOf_80 rfl (fun hc6 => ?_) (fun hc6 => ?_)
    · rw [if_pos hc6] at hF
      refine b_iconst (pc := 88) C dX12_roundOf_88 ic_1 ?_
      refine b_goto (tgt := 93) (pc := 89) C dX12_roundOf_89 rfl ?_
      exact b_sub [0, 1, 2, 3, 4, 5] rfl (e_X12_roundOf_J93_17 C Hh Rt ih _ hx1 x2 x3 x4 x5 (1 : Int32) _ _ hF hx)
    · rw [if_neg hc6] at hF
      exact b_sub [0, 1, 2, 3, 4, 5] rfl (e_X12_roundOf_J83_17 C Hh Rt ih _ hx1 x2 x3 x4 x5 _ _ hF hx)
set_option maxHeartbeats 4000000 in
set_option maxRecDepth 20000 in
theorem e_X12_roundOf_L17 {X : bX} {l : Launch} {G : bG} {ρ : Nat → Nat} {A : Nat → Prop} {d : Nat} {r : Int32} {σ' : bSto} (C : bCX X cX12_roundOf RX12 (d + 1)) (Hh : bH X l G bSHf ρ A 8) (Rt : bRX X (some .int) (some (.int r)) σ') : ∀ (n : Nat) (x1 : Nat) (hx1 : kIA x1) (x2 : Int32) (x3 : Int32) (x4 : Int32) (σ : bSto) (q : (Int32 × bSto)), f_X12_roundOf_L17 n x1 x2 x3 x4 σ = some q → (∀ (x3 : Int32) (s : bSto), q = (x3, s) → bAJ X 159 [(3, .int x3)] [] s) → bAJ X 17 [(0, .ref 92), (1, .ref x1), (2, .int x2), (3, .int x3), (4, .int x4)] [] σ := by
  intro n
  induction n with
  | zero => intro x1 hx1 x2 x3 x4 σ q hF; rw [f_X12_roundOf_L17] at hF; cases hF
  | succ n ih =>
    intro x1 hx1 x2 x3 x4 σ q hF hx
    rw [f_X12_roundOf_L17] at hF
    refine b_iload (pc := 17) C dX12_roundOf_17 4 rfl ?_
    refine b_aload_n (pc := 19) C dX12_roundOf_19 rfl 0 rfl ?_
    refine b_getS (pc := 20) C dX12_roundOf_20 fl_X12_20 (Hh.1 _ _ sh_92) rfl ?_
    refine b_iconst (pc := 23) C dX12_roundOf_23 ic_4 ?_
    refine b_ialdK (pc := 24) C dX12_roundOf_24 (Hh.1 _ _ sh_95) tn_4 (by decide) ?_
    refine b_icmp_ge (tgt := 159) (pc := 25) C dX12_roundOf_25 rfl (fun hc1 => ?_) (fun hc1 => ?_)
    · rw [if_pos hc1] at hF
      exact b_sub [3] rfl (hx _ _ (Option.some.inj hF).symm )
    · rw [if_neg hc1] at hF
      refine b_aload_n (pc := 28) C dX12_roundOf_28 rfl 0 rfl ?_
      refine b_aload_n (pc := 29) C dX12_roundOf_29 rfl 0 rfl ?_
      refine b_getS (pc := 30) C dX12_roundOf_30 fl_X12_56 (Hh.1 _ _ sh_92) rfl ?_
      refine b_iconst (pc := 33) C dX12_roundOf_33 ic_0 ?_
      refine b_iload (pc := 34) C dX12_roundOf_34 4 rfl ?_
      obtain ⟨v4, σ3, hc2, hF⟩ := bbd_e hF
      refine b_cV3i (d' := (d + 0)) (pc := 36) C dX12_roundOf_36 mm_X12_392 (Hh.1 _ _ sh_92) rfl (Nat.le_of_ble_eq_true rfl) (by omega) (Hh.2.2 _ _ _ _ _ _ _ _ _ (lvl_eq (by omega) (e_X12_drawnBy (d + 0) _ (show kIA 107 from sh_107) (0 : Int32) x4 _ _ _ hc2))) ?_
      refine b_istore (L' := [(5, .int v4), (0, .ref 92), (1, .ref x1), (2, .int x2), (3, .int x3), (4, .int x4)]) (pc := 39) C dX12_roundOf_39 rfl (Hh.2.1 _ (Nat.le_of_ble_eq_true rfl)) rfl ?_
      refine b_aload_n (pc := 41) C dX12_roundOf_41 rfl 1 rfl ?_
      refine b_iload (pc := 42) C dX12_roundOf_42 5 rfl ?_
      obtain ⟨v7, σ6, hc5, hF⟩ := bbd_e hF
      refine b_cV1i (d' := (d + 0)) (pc := 44) C dX12_roundOf_44 mm_X12_302 (Hh.1 _ _ sh_92) rfl (Nat.le_of_ble_eq_true rfl) (by omega) (Hh.2.2 _ _ _ _ _ _ _ _ _ (lvl_eq (by omega) (e_X12_kindOf (d + 0) x4 _ _ _ hc5))) ?_
      refine b_iconst (pc := 47) C dX12_roundOf_47 ic_2 ?_
      refine b_icmp_ne (tgt := 62) (pc := 48) C dX12_roundOf_48 rfl (fun hc8 => ?_) (fun hc8 => ?_)
      · rw [if_neg hc8] at hF
        exact b_sub [1, 2, 3, 4, 5, 0] rfl (e_X12_roundOf_J62_17 C Hh Rt ih _ hx1 x2 x3 x4 v4 _ _ hF hx)
      · rw [if_pos hc8] at hF
        refine b_aload_n (pc := 51) C dX12_roundOf_51 rfl 1 rfl ?_
        refine b_getS (pc := 52) C dX12_roundOf_52 fl_X12_56 (Hh.1 _ _ sh_92) rfl ?_
        refine b_iload (pc := 55) C dX12_roundOf_55 5 rfl ?_
        obtain ⟨hb9, hF⟩ := bif_n hF
        refine b_iald (pc := 57) C dX12_roundOf_57 (Hh.1 _ _ sh_107) hb9 ?_
        refine b_iconst (pc := 58) C dX12_roundOf_58 ic_1 ?_
        refine b_icmp_eq (tgt := 88) (pc := 59) C dX12_roundOf_59 rfl (fun hc10 => ?_) (fun hc10 => ?_)
        · rw [if_pos hc10] at hF
          refine b_iconst (pc := 88) C dX12_roundOf_88 ic_1 ?_
          refine b_goto (tgt := 93) (pc := 89) C dX12_roundOf_89 rfl ?_
          exact b_sub [1, 2, 3, 4, 5, 0] rfl (e_X12_roundOf_J93_17 C Hh Rt ih _ hx1 x2 x3 x4 v4 (1 : Int32) _ _ hF hx)
        · rw [if_neg hc10] at hF
          exact b_sub [1, 2, 3, 4, 5, 0] rfl (e_X12_roundOf_J62_17 C Hh Rt ih _ hx1 x2 x3 x4 v4 _ _ hF hx)
set_option maxHeartbeats 4000000 in
set_option maxRecDepth 20000 in
theorem e_X12_roundOf_0 {X : bX} {l : Launch} {G : bG} {ρ : Nat → Nat} {A : Nat → Prop} {d : Nat} {r : Int32} {σ' : bSto} (C : bCX X cX12_roundOf RX12 (d + 1)) (Hh : bH X l G bSHf ρ A 8) (Rt : bRX X (some .int) (some (.int r)) σ') (x1 : Nat) (hx1 : kIA x1) (x2 : Int32) (σ : bSto) (hF : f_X12_roundOf x1 x2 σ = some (r, σ')) : bAJ X 0 [(0, .ref 92), (1, .ref x1), (2, .int x2)] [] σ := by
  rw [f_X12_roundOf] at hF
  refine b_aload_n (pc := 0) C dX12_roundOf_0 rfl 1 rfl ?_
  refine b_iload_n (pc := 1) C dX12_roundOf_1 rfl 2 rfl ?_
  refine b_aload_n (pc := 2) C dX12_roundOf_2 rfl 0 rfl ?_
  refine b_getS (pc := 3) C dX12_roundOf_3 fl_X12_56 (Hh.1 _ _ sh_92) rfl ?_
  refine b_iconst (pc := 6) C dX12_roundOf_6 ic_0 ?_
  refine b_bipush (pc := 7) C dX12_roundOf_7 bp_7 ?_
  obtain ⟨σ2, hc1, hF⟩ := bbv_e hF
  refine b_cS5v (d' := (d + 0)) (pc := 9) C dX12_roundOf_9 mm_X12_190 (Nat.le_of_ble_eq_true rfl) (by omega) (Hh.2.2 _ _ _ _ _ _ _ _ _ (lvl_eq (by omega) (e_X12_copy (d + 0) _ hx1 x2 _ (show kIA 107 from sh_107) (0 : Int32) (7 : Int32) _ _ hc1))) ?_
  refine b_iconst (pc := 12) C dX12_roundOf_12 ic_0 ?_
  refine b_istore_n (L' := [(3, .int (0 : Int32)), (0, .ref 92), (1, .ref x1), (2, .int x2)]) (pc := 13) C dX12_roundOf_13 rfl rfl (Hh.2.1 _ (Nat.le_of_ble_eq_true rfl)) rfl ?_
  refine b_iconst (pc := 14) C dX12_roundOf_14 ic_0 ?_
  refine b_istore (L' := [(4, .int (0 : Int32)), (3, .int (0 : Int32)), (0, .ref 92), (1, .ref x1), (2, .int x2)]) (pc := 15) C dX12_roundOf_15 rfl (Hh.2.1 _ (Nat.le_of_ble_eq_true rfl)) rfl ?_
  obtain ⟨x3_3, σ4, hq3, hF⟩ := bl1_e hF
  refine b_sub [2, 3, 4, 1, 0] rfl (e_X12_roundOf_L17 C Hh Rt bFU _ hx1 x2 (0 : Int32) (0 : Int32) _ _ hq3 (fun _ _ e  => ?_))
  cases e
  refine b_iload_n (pc := 159) C dX12_roundOf_159 rfl 0 rfl ?_
  exact b_iret (pc := 160) C Rt dX12_roundOf_160 hF
set_option maxHeartbeats 4000000 in
set_option maxRecDepth 20000 in
theorem e_X12_roundOf {l : Launch} {G : bG} {ρ : Nat → Nat} {A : Nat → Prop} (d : Nat) (x1 : Nat) (hx1 : kIA x1) (x2 : Int32) (σ : bSto) (r : Int32) (σ' : bSto) (hF : f_X12_roundOf x1 x2 σ = some (r, σ')) : bEv l G bSHf ρ A yX12_roundOf cX12_roundOf 8 (some .int) (d + 1) [.ref 92, .ref x1, .int x2] σ (some (.int r)) σ' := b_met (d := d + 1) (by decide +kernel) (Nat.le_of_ble_eq_true rfl) rfl (fun X C Rt h1 h2 h3 => e_X12_roundOf_0 C ⟨fun o q h => by rw [h1]; exact h, fun i h => by rw [h2]; exact h, h3⟩ Rt _ hx1 _ _ hF)
/-! BenchColonyModel.believing -/
def f_X12_believing_J35_5 (k : Nat → Int32 → Int32 → Int32 → bSto → Option (Int32 × bSto)) (x1 : Nat) (x2 : Int32) (x4 : Int32) (s0 : Int32) (s1 : Int32) (σ : bSto) : Option (Int32 × bSto) := blet (s0 ||| s1) (fun x3_1 => blet (x4 + (1 : Int32)) (fun x4_3 => k x1 x2 x3_1 x4_3 σ))
def f_X12_believing_L5 : Nat → Nat → Int32 → Int32 → Int32 → bSto → Option (Int32 × bSto)
  | 0, _, _, _, _, _ => none
  | n + 1, x1, x2, x3, x4, σ => (if (σ.1 95 4) ≤ x4 then some (x3, σ) else if (x2 + x4) < 0 ∨ (bln x1) ≤ (x2 + x4).toNatClampNeg then none else (if (σ.1 x1 (x2 + x4).toNatClampNeg) = (1 : Int32) then f_X12_believing_J35_5 (f_X12_believing_L5 n) x1 x2 x4 x3 ((1 : Int32) <<< (x4 &&& 31)) σ else f_X12_believing_J35_5 (f_X12_believing_L5 n) x1 x2 x4 x3 (0 : Int32) σ))
def f_X12_believing (x1 : Nat) (x2 : Int32) (σ : bSto) : Option (Int32 × bSto) := bl1 (f_X12_believing_L5 bFU x1 x2 (0 : Int32) (0 : Int32) σ) (fun x3_1 σ2 => some (x3_1, σ2))
set_option maxHeartbeats 4000000 in
set_option maxRecDepth 20000 in
theorem e_X12_believing_J35_5 {X : bX} {l : Launch} {G : bG} {ρ : Nat → Nat} {A : Nat → Prop} {d : Nat} {r : Int32} {σ' : bSto} (C : bCX X cX12_believing RX12 (d + 0)) (Hh : bH X l G bSHf ρ A 5) (Rt : bRX X (some .int) (some (.int r)) σ') {k : Nat → Int32 → Int32 → Int32 → bSto → Option (Int32 × bSto)} (ih : ∀ (x1 : Nat) (hx1 : kIA x1) (x2 : Int32) (x3 : Int32) (x4 : Int32) (σ : bSto) (q : (Int32 × bSto)), k x1 x2 x3 x4 σ = some q → (∀ (x3 : Int32) (s : bSto), q = (x3, s) → bAJ X 43 [(3, .int x3)] [] s) → bAJ X 5 [(0, .ref 92), (1, .ref x1), (2, .int x2), (3, .int x3), (4, .int x4)] [] σ) (x1 : Nat) (hx1 : kIA x1) (x2 : Int32) (x4 : Int32) (s0 : Int32) (s1 : Int32) (σ : bSto) (q : (Int32 × bSto)) (hF : f_X12_believing_J35_5 k x1 x2 x4 s0 s1 σ = some q) : (∀ (x3 : Int32) (s : bSto), q = (x3, s) → bAJ X 43 [(3, .int x3)] [] s) → bAJ X 35 [(0, .ref 92), (1, .ref x1), (2, .int x2), (4, .int x4)] [.int s1, .int s0] σ := by
  intro hx
  rw [f_X12_believing_J35_5] at hF
  refine b_ior (pc := 35) C dX12_believing_35 ?_
  obtain ⟨x3_1, e2, hF⟩ := blet_e hF
  refine b_istore_n (L' := [(3, .int x3_1), (0, .ref 92), (1, .ref x1), (2, .int x2), (4, .int x4)]) (pc := 36) C dX12_believing_36 rfl e2 (Hh.2.1 _ (Nat.le_of_ble_eq_true rfl)) rfl ?_
  obtain ⟨x4_3, e4, hF⟩ := blet_e hF
  refine b_iinc (L' := [(4, .int x4_3), (3, .int x3_1), (0, .ref 92), (1, .ref x1), (2, .int x2)]) (pc := 37) C dX12_believing_37 4 rfl ic_1 e4 (Hh.2.1 _ (Nat.le_of_ble_eq_true rfl)) rfl ?_
  refine b_goto (tgt := 5) (pc := 40) C dX12_believing_40 rfl ?_
  exact b_sub [2, 3, 4, 1, 0] rfl (ih _ hx1 x2 x3_1 x4_3 _ _ hF hx)
set_option maxHeartbeats 4000000 in
set_option maxRecDepth 20000 in
theorem e_X12_believing_L5 {X : bX} {l : Launch} {G : bG} {ρ : Nat → Nat} {A : Nat → Prop} {d : Nat} {r : Int32} {σ' : bSto} (C : bCX X cX12_believing RX12 (d + 0)) (Hh : bH X l G bSHf ρ A 5) (Rt : bRX X (some .int) (some (.int r)) σ') : ∀ (n : Nat) (x1 : Nat) (hx1 : kIA x1) (x2 : Int32) (x3 : Int32) (x4 : Int32) (σ : bSto) (q : (Int32 × bSto)), f_X12_believing_L5 n x1 x2 x3 x4 σ = some q → (∀ (x3 : Int32) (s : bSto), q = (x3, s) → bAJ X 43 [(3, .int x3)] [] s) → bAJ X 5 [(0, .ref 92), (1, .ref x1), (2, .int x2), (3, .int x3), (4, .int x4)] [] σ := by
  intro n
  induction n with
  | zero => intro x1 hx1 x2 x3 x4 σ q hF; rw [f_X12_believing_L5] at hF; cases hF
  | succ n ih =>
    intro x1 hx1 x2 x3 x4 σ q hF hx
    rw [f_X12_believing_L5] at hF
    refine b_iload (pc := 5) C dX12_believing_5 4 rfl ?_
    refine b_aload_n (pc := 7) C dX12_believing_7 rfl 0 rfl ?_
    refine b_getS (pc := 8) C dX12_believing_8 fl_X12_20 (Hh.1 _ _ sh_92) rfl ?_
    refine b_iconst (pc := 11) C dX12_believing_11 ic_4 ?_
    refine b_ialdK (pc := 12) C dX12_believing_12 (Hh.1 _ _ sh_95) tn_4 (by decide) ?_
    refine b_icmp_ge (tgt := 43) (pc := 13) C dX12_believing_13 rfl (fun hc1 => ?_) (fun hc1 => ?_)
    · rw [if_pos hc1] at hF
      exact b_sub [3] rfl (hx _ _ (Option.some.inj hF).symm )
    · rw [if_neg hc1] at hF
      refine b_iload_n (pc := 16) C dX12_believing_16 rfl 3 rfl ?_
      refine b_aload_n (pc := 17) C dX12_believing_17 rfl 1 rfl ?_
      refine b_iload_n (pc := 18) C dX12_believing_18 rfl 2 rfl ?_
      refine b_iload (pc := 19) C dX12_believing_19 4 rfl ?_
      refine b_iadd (pc := 21) C dX12_believing_21 ?_
      obtain ⟨hb2, hF⟩ := bif_n hF
      refine b_iald (pc := 22) C dX12_believing_22 (Hh.1 _ _ hx1) hb2 ?_
      refine b_iconst (pc := 23) C dX12_believing_23 ic_1 ?_
      refine b_icmp_ne (tgt := 34) (pc := 24) C dX12_believing_24 rfl (fun hc3 => ?_) (fun hc3 => ?_)
      · rw [if_neg hc3] at hF
        refine b_iconst (pc := 34) C dX12_believing_34 ic_0 ?_
        exact b_sub [0, 1, 2, 4] rfl (e_X12_believing_J35_5 C Hh Rt ih _ hx1 x2 x4 x3 (0 : Int32) _ _ hF hx)
      · rw [if_pos hc3] at hF
        refine b_iconst (pc := 27) C dX12_believing_27 ic_1 ?_
        refine b_iload (pc := 28) C dX12_believing_28 4 rfl ?_
        refine b_ishl (pc := 30) C dX12_believing_30 ?_
        refine b_goto (tgt := 35) (pc := 31) C dX12_believing_31 rfl ?_
        exact b_sub [0, 1, 2, 4] rfl (e_X12_believing_J35_5 C Hh Rt ih _ hx1 x2 x4 x3 ((1 : Int32) <<< (x4 &&& 31)) _ _ hF hx)
set_option maxHeartbeats 4000000 in
set_option maxRecDepth 20000 in
theorem e_X12_believing_0 {X : bX} {l : Launch} {G : bG} {ρ : Nat → Nat} {A : Nat → Prop} {d : Nat} {r : Int32} {σ' : bSto} (C : bCX X cX12_believing RX12 (d + 0)) (Hh : bH X l G bSHf ρ A 5) (Rt : bRX X (some .int) (some (.int r)) σ') (x1 : Nat) (hx1 : kIA x1) (x2 : Int32) (σ : bSto) (hF : f_X12_believing x1 x2 σ = some (r, σ')) : bAJ X 0 [(0, .ref 92), (1, .ref x1), (2, .int x2)] [] σ := by
  rw [f_X12_believing] at hF
  refine b_iconst (pc := 0) C dX12_believing_0 ic_0 ?_
  refine b_istore_n (L' := [(3, .int (0 : Int32)), (0, .ref 92), (1, .ref x1), (2, .int x2)]) (pc := 1) C dX12_believing_1 rfl rfl (Hh.2.1 _ (Nat.le_of_ble_eq_true rfl)) rfl ?_
  refine b_iconst (pc := 2) C dX12_believing_2 ic_0 ?_
  refine b_istore (L' := [(4, .int (0 : Int32)), (3, .int (0 : Int32)), (0, .ref 92), (1, .ref x1), (2, .int x2)]) (pc := 3) C dX12_believing_3 rfl (Hh.2.1 _ (Nat.le_of_ble_eq_true rfl)) rfl ?_
  obtain ⟨x3_1, σ2, hq1, hF⟩ := bl1_e hF
  refine b_sub [2, 3, 4, 1, 0] rfl (e_X12_believing_L5 C Hh Rt bFU _ hx1 x2 (0 : Int32) (0 : Int32) _ _ hq1 (fun _ _ e  => ?_))
  cases e
  refine b_iload_n (pc := 43) C dX12_believing_43 rfl 0 rfl ?_
  exact b_iret (pc := 44) C Rt dX12_believing_44 hF
set_option maxHeartbeats 4000000 in
set_option maxRecDepth 20000 in
theorem e_X12_believing {l : Launch} {G : bG} {ρ : Nat → Nat} {A : Nat → Prop} (d : Nat) (x1 : Nat) (hx1 : kIA x1) (x2 : Int32) (σ : bSto) (r : Int32) (σ' : bSto) (hF : f_X12_believing x1 x2 σ = some (r, σ')) : bEv l G bSHf ρ A yX12_believing cX12_believing 5 (some .int) (d + 0) [.ref 92, .ref x1, .int x2] σ (some (.int r)) σ' := b_met (d := d + 0) (by decide +kernel) (Nat.le_of_ble_eq_true rfl) rfl (fun X C Rt h1 h2 h3 => e_X12_believing_0 C ⟨fun o q h => by rw [h1]; exact h, fun i h => by rw [h2]; exact h, h3⟩ Rt _ hx1 _ _ hF)
/-! BenchColonyModel.believersBy -/
def f_X12_believersBy_L18 : Nat → Int32 → Int32 → Int32 → bSto → Option (Int32 × bSto)
  | 0, _, _, _, _ => none
  | n + 1, x1, x2, x3, σ => (if (σ.1 95 4) ≤ x3 then some (x2, σ) else bbd (f_X12_hasBit x1 x3 σ) (fun v4 σ3 => (if v4 = 0 then if x3 < 0 ∨ 7 ≤ x3.toNatClampNeg then none else if x3 < 0 ∨ 7 ≤ x3.toNatClampNeg then none else blet (bI σ3 106 x3.toNatClampNeg (σ3.1 106 x3.toNatClampNeg)) (fun σ7 => blet (x3 + (1 : Int32)) (fun x3_10 => f_X12_believersBy_L18 n x1 x2 x3_10 σ7)) else if x3 < 0 ∨ 7 ≤ x3.toNatClampNeg then none else blet (bI σ3 106 x3.toNatClampNeg (1 : Int32)) (fun σ12 => blet (x3 + (1 : Int32)) (fun x3_15 => f_X12_believersBy_L18 n x1 x2 x3_15 σ12)))))
def f_X12_believersBy_L60 : Nat → Int32 → Int32 → bSto → Option (bSto)
  | 0, _, _, _ => none
  | n + 1, x2, x3, σ => (if x2 ≤ x3 then some σ else bbd (f_X12_roundOf 106 (0 : Int32) σ) (fun v4 σ3 => blet (x3 + (1 : Int32)) (fun x3_5 => f_X12_believersBy_L60 n x2 x3_5 σ3)))
def f_X12_believersBy (x1 : Int32) (x2 : Int32) (σ : bSto) : Option (Int32 × bSto) := bbv (f_X12_copy 97 (7 : Int32) 106 (0 : Int32) (7 : Int32) σ) (fun σ2 => bl1 (f_X12_believersBy_L18 bFU x1 x2 (0 : Int32) σ2) (fun x2_3 σ4 => bl0 (f_X12_believersBy_L60 bFU x2_3 (0 : Int32) σ4) (fun σ6 => bbd (f_X12_believing 106 (0 : Int32) σ6) (fun v9 σ8 => some (v9, σ8)))))
set_option maxHeartbeats 4000000 in
set_option maxRecDepth 20000 in
theorem e_X12_believersBy_L18 {X : bX} {l : Launch} {G : bG} {ρ : Nat → Nat} {A : Nat → Prop} {d : Nat} {r : Int32} {σ' : bSto} (C : bCX X cX12_believersBy RX12 (d + 2)) (Hh : bH X l G bSHf ρ A 4) (Rt : bRX X (some .int) (some (.int r)) σ') : ∀ (n : Nat) (x1 : Int32) (x2 : Int32) (x3 : Int32) (σ : bSto) (q : (Int32 × bSto)), f_X12_believersBy_L18 n x1 x2 x3 σ = some q → (∀ (x2 : Int32) (s : bSto), q = (x2, s) → bAJ X 58 [(0, .ref 92), (2, .int x2)] [] s) → bAJ X 18 [(0, .ref 92), (1, .int x1), (2, .int x2), (3, .int x3)] [] σ := by
  intro n
  induction n with
  | zero => intro x1 x2 x3 σ q hF; rw [f_X12_believersBy_L18] at hF; cases hF
  | succ n ih =>
    intro x1 x2 x3 σ q hF hx
    rw [f_X12_believersBy_L18] at hF
    refine b_iload_n (pc := 18) C dX12_believersBy_18 rfl 3 rfl ?_
    refine b_aload_n (pc := 19) C dX12_believersBy_19 rfl 0 rfl ?_
    refine b_getS (pc := 20) C dX12_believersBy_20 fl_X12_20 (Hh.1 _ _ sh_92) rfl ?_
    refine b_iconst (pc := 23) C dX12_believersBy_23 ic_4 ?_
    refine b_ialdK (pc := 24) C dX12_believersBy_24 (Hh.1 _ _ sh_95) tn_4 (by decide) ?_
    refine b_icmp_ge (tgt := 58) (pc := 25) C dX12_believersBy_25 rfl (fun hc1 => ?_) (fun hc1 => ?_)
    · rw [if_pos hc1] at hF
      exact b_sub [0, 2] rfl (hx _ _ (Option.some.inj hF).symm )
    · rw [if_neg hc1] at hF
      refine b_aload_n (pc := 28) C dX12_believersBy_28 rfl 0 rfl ?_
      refine b_getS (pc := 29) C dX12_believersBy_29 fl_X12_53 (Hh.1 _ _ sh_92) rfl ?_
      refine b_iload_n (pc := 32) C dX12_believersBy_32 rfl 3 rfl ?_
      refine b_iload_n (pc := 33) C dX12_believersBy_33 rfl 1 rfl ?_
      refine b_iload_n (pc := 34) C dX12_believersBy_34 rfl 3 rfl ?_
      obtain ⟨v4, σ3, hc2, hF⟩ := bbd_e hF
      refine b_cS2i (d' := (d + 1)) (pc := 35) C dX12_believersBy_35 mm_X12_281 (Nat.le_of_ble_eq_true rfl) (by omega) (Hh.2.2 _ _ _ _ _ _ _ _ _ (lvl_eq (by omega) (e_X12_hasBit (d + 1) x1 x3 _ _ _ hc2))) ?_
      refine b_if_eq (tgt := 45) (pc := 38) C dX12_believersBy_38 rfl (fun hc5 => ?_) (fun hc5 => ?_)
      · rw [if_pos hc5] at hF
        refine b_aload_n (pc := 45) C dX12_believersBy_45 rfl 0 rfl ?_
        refine b_getS (pc := 46) C dX12_believersBy_46 fl_X12_53 (Hh.1 _ _ sh_92) rfl ?_
        refine b_iload_n (pc := 49) C dX12_believersBy_49 rfl 3 rfl ?_
        obtain ⟨hb6, hF⟩ := bif_n hF
        refine b_iald (pc := 50) C dX12_believersBy_50 (Hh.1 _ _ sh_106) hb6 ?_
        obtain ⟨hb9, hF⟩ := bif_n hF
        obtain ⟨σ7, e8, hF⟩ := blet_e hF
        refine b_iast (pc := 51) C dX12_believersBy_51 (Hh.1 _ _ sh_106) hb9 e8 ?_
        obtain ⟨x3_10, e11, hF⟩ := blet_e hF
        refine b_iinc (L' := [(3, .int x3_10), (0, .ref 92), (1, .int x1), (2, .int x2)]) (pc := 52) C dX12_believersBy_52 3 rfl ic_1 e11 (Hh.2.1 _ (Nat.le_of_ble_eq_true rfl)) rfl ?_
        refine b_goto (tgt := 18) (pc := 55) C dX12_believersBy_55 rfl ?_
        exact b_sub [1, 2, 3, 0] rfl (ih x1 x2 x3_10 _ _ hF hx)
      · rw [if_neg hc5] at hF
        refine b_iconst (pc := 41) C dX12_believersBy_41 ic_1 ?_
        refine b_goto (tgt := 51) (pc := 42) C dX12_believersBy_42 rfl ?_
        obtain ⟨hb14, hF⟩ := bif_n hF
        obtain ⟨σ12, e13, hF⟩ := blet_e hF
        refine b_iast (pc := 51) C dX12_believersBy_51 (Hh.1 _ _ sh_106) hb14 e13 ?_
        obtain ⟨x3_15, e16, hF⟩ := blet_e hF
        refine b_iinc (L' := [(3, .int x3_15), (0, .ref 92), (1, .int x1), (2, .int x2)]) (pc := 52) C dX12_believersBy_52 3 rfl ic_1 e16 (Hh.2.1 _ (Nat.le_of_ble_eq_true rfl)) rfl ?_
        refine b_goto (tgt := 18) (pc := 55) C dX12_believersBy_55 rfl ?_
        exact b_sub [1, 2, 3, 0] rfl (ih x1 x2 x3_15 _ _ hF hx)
set_option maxHeartbeats 4000000 in
set_option maxRecDepth 20000 in
theorem e_X12_believersBy_L60 {X : bX} {l : Launch} {G : bG} {ρ : Nat → Nat} {A : Nat → Prop} {d : Nat} {r : Int32} {σ' : bSto} (C : bCX X cX12_believersBy RX12 (d + 2)) (Hh : bH X l G bSHf ρ A 4) (Rt : bRX X (some .int) (some (.int r)) σ') : ∀ (n : Nat) (x2 : Int32) (x3 : Int32) (σ : bSto) (q : (bSto)), f_X12_believersBy_L60 n x2 x3 σ = some q → (∀  (s : bSto), q = s → bAJ X 81 [(0, .ref 92)] [] s) → bAJ X 60 [(0, .ref 92), (2, .int x2), (3, .int x3)] [] σ := by
  intro n
  induction n with
  | zero => intro x2 x3 σ q hF; rw [f_X12_believersBy_L60] at hF; cases hF
  | succ n ih =>
    intro x2 x3 σ q hF hx
    rw [f_X12_believersBy_L60] at hF
    refine b_iload_n (pc := 60) C dX12_believersBy_60 rfl 2 rfl ?_
    refine b_iload_n (pc := 61) C dX12_believersBy_61 rfl 1 rfl ?_
    refine b_icmp_ge (tgt := 81) (pc := 62) C dX12_believersBy_62 rfl (fun hc1 => ?_) (fun hc1 => ?_)
    · rw [if_pos hc1] at hF
      exact b_sub [0] rfl (hx  _ (Option.some.inj hF).symm )
    · rw [if_neg hc1] at hF
      refine b_aload_n (pc := 65) C dX12_believersBy_65 rfl 0 rfl ?_
      refine b_aload_n (pc := 66) C dX12_believersBy_66 rfl 0 rfl ?_
      refine b_getS (pc := 67) C dX12_believersBy_67 fl_X12_53 (Hh.1 _ _ sh_92) rfl ?_
      refine b_iconst (pc := 70) C dX12_believersBy_70 ic_0 ?_
      obtain ⟨v4, σ3, hc2, hF⟩ := bbd_e hF
      refine b_cV2i (d' := (d + 1)) (pc := 71) C dX12_believersBy_71 mm_X12_396 (Hh.1 _ _ sh_92) rfl (Nat.le_of_ble_eq_true rfl) (by omega) (Hh.2.2 _ _ _ _ _ _ _ _ _ (lvl_eq (by omega) (e_X12_roundOf (d + 0) _ (show kIA 106 from sh_106) (0 : Int32) _ _ _ hc2))) ?_
      refine b_pop (pc := 74) C dX12_believersBy_74 rfl ?_
      obtain ⟨x3_5, e6, hF⟩ := blet_e hF
      refine b_iinc (L' := [(3, .int x3_5), (0, .ref 92), (2, .int x2)]) (pc := 75) C dX12_believersBy_75 2 rfl ic_1 e6 (Hh.2.1 _ (Nat.le_of_ble_eq_true rfl)) rfl ?_
      refine b_goto (tgt := 60) (pc := 78) C dX12_believersBy_78 rfl ?_
      exact b_sub [1, 2, 0] rfl (ih x2 x3_5 _ _ hF hx)
set_option maxHeartbeats 4000000 in
set_option maxRecDepth 20000 in
theorem e_X12_believersBy_0 {X : bX} {l : Launch} {G : bG} {ρ : Nat → Nat} {A : Nat → Prop} {d : Nat} {r : Int32} {σ' : bSto} (C : bCX X cX12_believersBy RX12 (d + 2)) (Hh : bH X l G bSHf ρ A 4) (Rt : bRX X (some .int) (some (.int r)) σ') (x1 : Int32) (x2 : Int32) (σ : bSto) (hF : f_X12_believersBy x1 x2 σ = some (r, σ')) : bAJ X 0 [(0, .ref 92), (1, .int x1), (2, .int x2)] [] σ := by
  rw [f_X12_believersBy] at hF
  refine b_aload_n (pc := 0) C dX12_believersBy_0 rfl 0 rfl ?_
  refine b_getS (pc := 1) C dX12_believersBy_1 fl_X12_26 (Hh.1 _ _ sh_92) rfl ?_
  refine b_bipush (pc := 4) C dX12_believersBy_4 bp_7 ?_
  refine b_aload_n (pc := 6) C dX12_believersBy_6 rfl 0 rfl ?_
  refine b_getS (pc := 7) C dX12_believersBy_7 fl_X12_53 (Hh.1 _ _ sh_92) rfl ?_
  refine b_iconst (pc := 10) C dX12_believersBy_10 ic_0 ?_
  refine b_bipush (pc := 11) C dX12_believersBy_11 bp_7 ?_
  obtain ⟨σ2, hc1, hF⟩ := bbv_e hF
  refine b_cS5v (d' := (d + 1)) (pc := 13) C dX12_believersBy_13 mm_X12_190 (Nat.le_of_ble_eq_true rfl) (by omega) (Hh.2.2 _ _ _ _ _ _ _ _ _ (lvl_eq (by omega) (e_X12_copy (d + 1) _ (show kIA 97 from sh_97) (7 : Int32) _ (show kIA 106 from sh_106) (0 : Int32) (7 : Int32) _ _ hc1))) ?_
  refine b_iconst (pc := 16) C dX12_believersBy_16 ic_0 ?_
  refine b_istore_n (L' := [(3, .int (0 : Int32)), (0, .ref 92), (1, .int x1), (2, .int x2)]) (pc := 17) C dX12_believersBy_17 rfl rfl (Hh.2.1 _ (Nat.le_of_ble_eq_true rfl)) rfl ?_
  obtain ⟨x2_3, σ4, hq3, hF⟩ := bl1_e hF
  refine b_sub [1, 2, 3, 0] rfl (e_X12_believersBy_L18 C Hh Rt bFU x1 x2 (0 : Int32) _ _ hq3 (fun _ _ e  => ?_))
  cases e
  refine b_iconst (pc := 58) C dX12_believersBy_58 ic_0 ?_
  refine b_istore_n (L' := [(3, .int (0 : Int32)), (0, .ref 92), (2, .int x2_3)]) (pc := 59) C dX12_believersBy_59 rfl rfl (Hh.2.1 _ (Nat.le_of_ble_eq_true rfl)) rfl ?_
  obtain ⟨σ6, hq5, hF⟩ := bl0_e hF
  refine b_sub [1, 2, 0] rfl (e_X12_believersBy_L60 C Hh Rt bFU x2_3 (0 : Int32) _ _ hq5 (fun  _ e  => ?_))
  cases e
  refine b_aload_n (pc := 81) C dX12_believersBy_81 rfl 0 rfl ?_
  refine b_aload_n (pc := 82) C dX12_believersBy_82 rfl 0 rfl ?_
  refine b_getS (pc := 83) C dX12_believersBy_83 fl_X12_53 (Hh.1 _ _ sh_92) rfl ?_
  refine b_iconst (pc := 86) C dX12_believersBy_86 ic_0 ?_
  obtain ⟨v9, σ8, hc7, hF⟩ := bbd_e hF
  refine b_cV2i (d' := (d + 1)) (pc := 87) C dX12_believersBy_87 mm_X12_399 (Hh.1 _ _ sh_92) rfl (Nat.le_of_ble_eq_true rfl) (by omega) (Hh.2.2 _ _ _ _ _ _ _ _ _ (lvl_eq (by omega) (e_X12_believing (d + 1) _ (show kIA 106 from sh_106) (0 : Int32) _ _ _ hc7))) ?_
  exact b_iret (pc := 90) C Rt dX12_believersBy_90 hF
set_option maxHeartbeats 4000000 in
set_option maxRecDepth 20000 in
theorem e_X12_believersBy {l : Launch} {G : bG} {ρ : Nat → Nat} {A : Nat → Prop} (d : Nat) (x1 : Int32) (x2 : Int32) (σ : bSto) (r : Int32) (σ' : bSto) (hF : f_X12_believersBy x1 x2 σ = some (r, σ')) : bEv l G bSHf ρ A yX12_believersBy cX12_believersBy 4 (some .int) (d + 2) [.ref 92, .int x1, .int x2] σ (some (.int r)) σ' := b_met (d := d + 2) (by decide +kernel) (Nat.le_of_ble_eq_true rfl) rfl (fun X C Rt h1 h2 h3 => e_X12_believersBy_0 C ⟨fun o q h => by rw [h1]; exact h, fun i h => by rw [h2]; exact h, h3⟩ Rt _ _ _ hF)
/-! BenchColonyModel.drawn -/
def f_X12_drawn (x1 : Int32) (σ : bSto) : Option (Int32 × bSto) := bbv (f_X12_good  σ) (fun σ2 => bbd (f_X12_isPerson x1 σ2) (fun v5 σ4 => (if v5 = 0 then bbd (f_X12_less (1 : Int32) σ4) (fun v9 σ8 => some (v9, σ8)) else bbd (f_X12_drawnBy 97 (7 : Int32) x1 σ4) (fun v12 σ11 => some (v12, σ11)))))
set_option maxHeartbeats 4000000 in
set_option maxRecDepth 20000 in
theorem e_X12_drawn_0 {X : bX} {l : Launch} {G : bG} {ρ : Nat → Nat} {A : Nat → Prop} {d : Nat} {r : Int32} {σ' : bSto} (C : bCX X cX12_drawn RX12 (d + 2)) (Hh : bH X l G bSHf ρ A 2) (Rt : bRX X (some .int) (some (.int r)) σ') (x1 : Int32) (σ : bSto) (hF : f_X12_drawn x1 σ = some (r, σ')) : bAJ X 0 [(0, .ref 92), (1, .int x1)] [] σ := by
  rw [f_X12_drawn] at hF
  refine b_aload_n (pc := 0) C dX12_drawn_0 rfl 0 rfl ?_
  obtain ⟨σ2, hc1, hF⟩ := bbv_e hF
  refine b_cV0v (d' := (d + 1)) (pc := 1) C dX12_drawn_1 mm_X12_181 (Hh.1 _ _ sh_92) rfl (Nat.le_of_ble_eq_true rfl) (by omega) (Hh.2.2 _ _ _ _ _ _ _ _ _ (lvl_eq (by omega) (e_X12_good (d + 1)  _ _ hc1))) ?_
  refine b_aload_n (pc := 4) C dX12_drawn_4 rfl 0 rfl ?_
  refine b_iload_n (pc := 5) C dX12_drawn_5 rfl 1 rfl ?_
  obtain ⟨v5, σ4, hc3, hF⟩ := bbd_e hF
  refine b_cV1i (d' := (d + 1)) (pc := 6) C dX12_drawn_6 mm_X12_318 (Hh.1 _ _ sh_92) rfl (Nat.le_of_ble_eq_true rfl) (by omega) (Hh.2.2 _ _ _ _ _ _ _ _ _ (lvl_eq (by omega) (e_X12_isPerson (d + 0) x1 _ _ _ hc3))) ?_
  refine b_if_eq (tgt := 26) (pc := 9) C dX12_drawn_9 rfl (fun hc6 => ?_) (fun hc6 => ?_)
  · rw [if_pos hc6] at hF
    refine b_aload_n (pc := 26) C dX12_drawn_26 rfl 0 rfl ?_
    refine b_iconst (pc := 27) C dX12_drawn_27 ic_1 ?_
    obtain ⟨v9, σ8, hc7, hF⟩ := bbd_e hF
    refine b_cV1i (d' := (d + 1)) (pc := 28) C dX12_drawn_28 mm_X12_321 (Hh.1 _ _ sh_92) rfl (Nat.le_of_ble_eq_true rfl) (by omega) (Hh.2.2 _ _ _ _ _ _ _ _ _ (lvl_eq (by omega) (e_X12_less (d + 1) (1 : Int32) _ _ _ hc7))) ?_
    exact b_iret (pc := 31) C Rt dX12_drawn_31 hF
  · rw [if_neg hc6] at hF
    refine b_aload_n (pc := 12) C dX12_drawn_12 rfl 0 rfl ?_
    refine b_aload_n (pc := 13) C dX12_drawn_13 rfl 0 rfl ?_
    refine b_getS (pc := 14) C dX12_drawn_14 fl_X12_26 (Hh.1 _ _ sh_92) rfl ?_
    refine b_bipush (pc := 17) C dX12_drawn_17 bp_7 ?_
    refine b_iload_n (pc := 19) C dX12_drawn_19 rfl 1 rfl ?_
    obtain ⟨v12, σ11, hc10, hF⟩ := bbd_e hF
    refine b_cV3i (d' := (d + 1)) (pc := 20) C dX12_drawn_20 mm_X12_392 (Hh.1 _ _ sh_92) rfl (Nat.le_of_ble_eq_true rfl) (by omega) (Hh.2.2 _ _ _ _ _ _ _ _ _ (lvl_eq (by omega) (e_X12_drawnBy (d + 1) _ (show kIA 97 from sh_97) (7 : Int32) x1 _ _ _ hc10))) ?_
    refine b_goto (tgt := 31) (pc := 23) C dX12_drawn_23 rfl ?_
    exact b_iret (pc := 31) C Rt dX12_drawn_31 hF
set_option maxHeartbeats 4000000 in
set_option maxRecDepth 20000 in
theorem e_X12_drawn {l : Launch} {G : bG} {ρ : Nat → Nat} {A : Nat → Prop} (d : Nat) (x1 : Int32) (σ : bSto) (r : Int32) (σ' : bSto) (hF : f_X12_drawn x1 σ = some (r, σ')) : bEv l G bSHf ρ A yX12_drawn cX12_drawn 2 (some .int) (d + 2) [.ref 92, .int x1] σ (some (.int r)) σ' := b_met (d := d + 2) (by decide +kernel) (Nat.le_of_ble_eq_true rfl) rfl (fun X C Rt h1 h2 h3 => e_X12_drawn_0 C ⟨fun o q h => by rw [h1]; exact h, fun i h => by rw [h2]; exact h, h3⟩ Rt _ _ hF)
/-! BenchColonyModel.believers -/
def f_X12_believers (x1 : Int32) (σ : bSto) : Option (Int32 × bSto) := bbv (f_X12_good  σ) (fun σ2 => (if (σ2.1 92 14) = 0 then bbd (f_X12_no (1 : Int32) σ2) (fun v16 σ15 => some (v16, σ15)) else bbd (f_X12_in x1 (0 : Int32) (20 : Int32) σ2) (fun v6 σ5 => (if v6 = 0 then bbd (f_X12_no (2 : Int32) σ5) (fun v10 σ9 => some (v10, σ9)) else bbd (f_X12_believersBy (0 : Int32) x1 σ5) (fun v13 σ12 => some (v13, σ12))))))
set_option maxHeartbeats 4000000 in
set_option maxRecDepth 20000 in
theorem e_X12_believers_0 {X : bX} {l : Launch} {G : bG} {ρ : Nat → Nat} {A : Nat → Prop} {d : Nat} {r : Int32} {σ' : bSto} (C : bCX X cX12_believers RX12 (d + 3)) (Hh : bH X l G bSHf ρ A 2) (Rt : bRX X (some .int) (some (.int r)) σ') (x1 : Int32) (σ : bSto) (hF : f_X12_believers x1 σ = some (r, σ')) : bAJ X 0 [(0, .ref 92), (1, .int x1)] [] σ := by
  rw [f_X12_believers] at hF
  refine b_aload_n (pc := 0) C dX12_believers_0 rfl 0 rfl ?_
  obtain ⟨σ2, hc1, hF⟩ := bbv_e hF
  refine b_cV0v (d' := (d + 2)) (pc := 1) C dX12_believers_1 mm_X12_181 (Hh.1 _ _ sh_92) rfl (Nat.le_of_ble_eq_true rfl) (by omega) (Hh.2.2 _ _ _ _ _ _ _ _ _ (lvl_eq (by omega) (e_X12_good (d + 2)  _ _ hc1))) ?_
  refine b_aload_n (pc := 4) C dX12_believers_4 rfl 0 rfl ?_
  refine b_getI (pc := 5) C dX12_believers_5 fl_X12_194 (Hh.1 _ _ sh_92) rfl ?_
  refine b_if_ne (tgt := 17) (pc := 8) C dX12_believers_8 rfl (fun hc3 => ?_) (fun hc3 => ?_)
  · rw [if_neg hc3] at hF
    refine b_iload_n (pc := 17) C dX12_believers_17 rfl 1 rfl ?_
    refine b_iconst (pc := 18) C dX12_believers_18 ic_0 ?_
    refine b_bipush (pc := 19) C dX12_believers_19 bp_20 ?_
    obtain ⟨v6, σ5, hc4, hF⟩ := bbd_e hF
    refine b_cS3i (d' := (d + 2)) (pc := 21) C dX12_believers_21 mm_X12_160 (Nat.le_of_ble_eq_true rfl) (by omega) (Hh.2.2 _ _ _ _ _ _ _ _ _ (lvl_eq (by omega) (e_X12_in (d + 2) x1 (0 : Int32) (20 : Int32) _ _ _ hc4))) ?_
    refine b_if_eq (tgt := 36) (pc := 24) C dX12_believers_24 rfl (fun hc7 => ?_) (fun hc7 => ?_)
    · rw [if_pos hc7] at hF
      refine b_aload_n (pc := 36) C dX12_believers_36 rfl 0 rfl ?_
      refine b_iconst (pc := 37) C dX12_believers_37 ic_2 ?_
      obtain ⟨v10, σ9, hc8, hF⟩ := bbd_e hF
      refine b_cV1i (d' := (d + 2)) (pc := 38) C dX12_believers_38 mm_X12_184 (Hh.1 _ _ sh_92) rfl (Nat.le_of_ble_eq_true rfl) (by omega) (Hh.2.2 _ _ _ _ _ _ _ _ _ (lvl_eq (by omega) (e_X12_no (d + 2) (2 : Int32) _ _ _ hc8))) ?_
      exact b_iret (pc := 41) C Rt dX12_believers_41 hF
    · rw [if_neg hc7] at hF
      refine b_aload_n (pc := 27) C dX12_believers_27 rfl 0 rfl ?_
      refine b_iconst (pc := 28) C dX12_believers_28 ic_0 ?_
      refine b_iload_n (pc := 29) C dX12_believers_29 rfl 1 rfl ?_
      obtain ⟨v13, σ12, hc11, hF⟩ := bbd_e hF
      refine b_cV2i (d' := (d + 2)) (pc := 30) C dX12_believers_30 mm_X12_402 (Hh.1 _ _ sh_92) rfl (Nat.le_of_ble_eq_true rfl) (by omega) (Hh.2.2 _ _ _ _ _ _ _ _ _ (lvl_eq (by omega) (e_X12_believersBy (d + 0) (0 : Int32) x1 _ _ _ hc11))) ?_
      refine b_goto (tgt := 41) (pc := 33) C dX12_believers_33 rfl ?_
      exact b_iret (pc := 41) C Rt dX12_believers_41 hF
  · rw [if_pos hc3] at hF
    refine b_aload_n (pc := 11) C dX12_believers_11 rfl 0 rfl ?_
    refine b_iconst (pc := 12) C dX12_believers_12 ic_1 ?_
    obtain ⟨v16, σ15, hc14, hF⟩ := bbd_e hF
    refine b_cV1i (d' := (d + 2)) (pc := 13) C dX12_believers_13 mm_X12_184 (Hh.1 _ _ sh_92) rfl (Nat.le_of_ble_eq_true rfl) (by omega) (Hh.2.2 _ _ _ _ _ _ _ _ _ (lvl_eq (by omega) (e_X12_no (d + 2) (1 : Int32) _ _ _ hc14))) ?_
    exact b_iret (pc := 16) C Rt dX12_believers_16 hF
set_option maxHeartbeats 4000000 in
set_option maxRecDepth 20000 in
theorem e_X12_believers {l : Launch} {G : bG} {ρ : Nat → Nat} {A : Nat → Prop} (d : Nat) (x1 : Int32) (σ : bSto) (r : Int32) (σ' : bSto) (hF : f_X12_believers x1 σ = some (r, σ')) : bEv l G bSHf ρ A yX12_believers cX12_believers 2 (some .int) (d + 3) [.ref 92, .int x1] σ (some (.int r)) σ' := b_met (d := d + 3) (by decide +kernel) (Nat.le_of_ble_eq_true rfl) rfl (fun X C Rt h1 h2 h3 => e_X12_believers_0 C ⟨fun o q h => by rw [h1]; exact h, fun i h => by rw [h2]; exact h, h3⟩ Rt _ _ hF)
/-! BenchColonyModel.settled -/
def f_X12_settled_L35 : Nat → Int32 → bSto → Option ((Int32 × bSto) ⊕ (bSto))
  | 0, _, _ => none
  | n + 1, x1, σ => (if (20 : Int32) < x1 then some (.inr σ) else bbd (f_X12_roundOf 106 (0 : Int32) σ) (fun v4 σ3 => (if v4 = 0 then some (.inl (x1, σ3)) else blet (x1 + (1 : Int32)) (fun x1_6 => f_X12_settled_L35 n x1_6 σ3))))
def f_X12_settled  (σ : bSto) : Option (Int32 × bSto) := bbv (f_X12_good  σ) (fun σ2 => (if (σ2.1 92 14) = 0 then bbd (f_X12_no (1 : Int32) σ2) (fun v10 σ9 => some (v10, σ9)) else bbv (f_X12_copy 97 (7 : Int32) 106 (0 : Int32) (7 : Int32) σ2) (fun σ5 => br0 (f_X12_settled_L35 bFU (0 : Int32) σ5) (fun v s => some (v, s)) (fun σ7 => some ((-2 : Int32), σ7)))))
set_option maxHeartbeats 4000000 in
set_option maxRecDepth 20000 in
theorem e_X12_settled_L35 {X : bX} {l : Launch} {G : bG} {ρ : Nat → Nat} {A : Nat → Prop} {d : Nat} {r : Int32} {σ' : bSto} (C : bCX X cX12_settled RX12 (d + 2)) (Hh : bH X l G bSHf ρ A 2) (Rt : bRX X (some .int) (some (.int r)) σ') : ∀ (n : Nat) (x1 : Int32) (σ : bSto) (q : ((Int32 × bSto) ⊕ (bSto))), f_X12_settled_L35 n x1 σ = some q → (∀ (v : Int32) (s : bSto), q = .inl (v, s) → some (v, s) = some (r, σ')) → (∀  (s : bSto), q = .inr s → bAJ X 61 [] [] s) → bAJ X 35 [(0, .ref 92), (1, .int x1)] [] σ := by
  intro n
  induction n with
  | zero => intro x1 σ q hF; rw [f_X12_settled_L35] at hF; cases hF
  | succ n ih =>
    intro x1 σ q hF hr hx
    rw [f_X12_settled_L35] at hF
    refine b_iload_n (pc := 35) C dX12_settled_35 rfl 1 rfl ?_
    refine b_bipush (pc := 36) C dX12_settled_36 bp_20 ?_
    refine b_icmp_gt (tgt := 61) (pc := 38) C dX12_settled_38 rfl (fun hc1 => ?_) (fun hc1 => ?_)
    · rw [if_pos hc1] at hF
      exact b_sub [] rfl (hx  _ (Option.some.inj hF).symm )
    · rw [if_neg hc1] at hF
      refine b_aload_n (pc := 41) C dX12_settled_41 rfl 0 rfl ?_
      refine b_aload_n (pc := 42) C dX12_settled_42 rfl 0 rfl ?_
      refine b_getS (pc := 43) C dX12_settled_43 fl_X12_53 (Hh.1 _ _ sh_92) rfl ?_
      refine b_iconst (pc := 46) C dX12_settled_46 ic_0 ?_
      obtain ⟨v4, σ3, hc2, hF⟩ := bbd_e hF
      refine b_cV2i (d' := (d + 1)) (pc := 47) C dX12_settled_47 mm_X12_396 (Hh.1 _ _ sh_92) rfl (Nat.le_of_ble_eq_true rfl) (by omega) (Hh.2.2 _ _ _ _ _ _ _ _ _ (lvl_eq (by omega) (e_X12_roundOf (d + 0) _ (show kIA 106 from sh_106) (0 : Int32) _ _ _ hc2))) ?_
      refine b_if_ne (tgt := 55) (pc := 50) C dX12_settled_50 rfl (fun hc5 => ?_) (fun hc5 => ?_)
      · rw [if_neg hc5] at hF
        obtain ⟨x1_6, e7, hF⟩ := blet_e hF
        refine b_iinc (L' := [(1, .int x1_6), (0, .ref 92)]) (pc := 55) C dX12_settled_55 1 rfl ic_1 e7 (Hh.2.1 _ (Nat.le_of_ble_eq_true rfl)) rfl ?_
        refine b_goto (tgt := 35) (pc := 58) C dX12_settled_58 rfl ?_
        exact b_sub [1, 0] rfl (ih x1_6 _ _ hF hr hx)
      · rw [if_pos hc5] at hF
        refine b_iload_n (pc := 53) C dX12_settled_53 rfl 1 rfl ?_
        exact b_iret (pc := 54) C Rt dX12_settled_54 (hr _ _ (Option.some.inj hF).symm)
set_option maxHeartbeats 4000000 in
set_option maxRecDepth 20000 in
theorem e_X12_settled_0 {X : bX} {l : Launch} {G : bG} {ρ : Nat → Nat} {A : Nat → Prop} {d : Nat} {r : Int32} {σ' : bSto} (C : bCX X cX12_settled RX12 (d + 2)) (Hh : bH X l G bSHf ρ A 2) (Rt : bRX X (some .int) (some (.int r)) σ')  (σ : bSto) (hF : f_X12_settled  σ = some (r, σ')) : bAJ X 0 [(0, .ref 92)] [] σ := by
  rw [f_X12_settled] at hF
  refine b_aload_n (pc := 0) C dX12_settled_0 rfl 0 rfl ?_
  obtain ⟨σ2, hc1, hF⟩ := bbv_e hF
  refine b_cV0v (d' := (d + 1)) (pc := 1) C dX12_settled_1 mm_X12_181 (Hh.1 _ _ sh_92) rfl (Nat.le_of_ble_eq_true rfl) (by omega) (Hh.2.2 _ _ _ _ _ _ _ _ _ (lvl_eq (by omega) (e_X12_good (d + 1)  _ _ hc1))) ?_
  refine b_aload_n (pc := 4) C dX12_settled_4 rfl 0 rfl ?_
  refine b_getI (pc := 5) C dX12_settled_5 fl_X12_194 (Hh.1 _ _ sh_92) rfl ?_
  refine b_if_ne (tgt := 17) (pc := 8) C dX12_settled_8 rfl (fun hc3 => ?_) (fun hc3 => ?_)
  · rw [if_neg hc3] at hF
    refine b_aload_n (pc := 17) C dX12_settled_17 rfl 0 rfl ?_
    refine b_getS (pc := 18) C dX12_settled_18 fl_X12_26 (Hh.1 _ _ sh_92) rfl ?_
    refine b_bipush (pc := 21) C dX12_settled_21 bp_7 ?_
    refine b_aload_n (pc := 23) C dX12_settled_23 rfl 0 rfl ?_
    refine b_getS (pc := 24) C dX12_settled_24 fl_X12_53 (Hh.1 _ _ sh_92) rfl ?_
    refine b_iconst (pc := 27) C dX12_settled_27 ic_0 ?_
    refine b_bipush (pc := 28) C dX12_settled_28 bp_7 ?_
    obtain ⟨σ5, hc4, hF⟩ := bbv_e hF
    refine b_cS5v (d' := (d + 1)) (pc := 30) C dX12_settled_30 mm_X12_190 (Nat.le_of_ble_eq_true rfl) (by omega) (Hh.2.2 _ _ _ _ _ _ _ _ _ (lvl_eq (by omega) (e_X12_copy (d + 1) _ (show kIA 97 from sh_97) (7 : Int32) _ (show kIA 106 from sh_106) (0 : Int32) (7 : Int32) _ _ hc4))) ?_
    refine b_iconst (pc := 33) C dX12_settled_33 ic_0 ?_
    refine b_istore_n (L' := [(1, .int (0 : Int32)), (0, .ref 92)]) (pc := 34) C dX12_settled_34 rfl rfl (Hh.2.1 _ (Nat.le_of_ble_eq_true rfl)) rfl ?_
    rcases br0_e hF with ⟨v, s, hq6, hF⟩ | ⟨σ7, hq6, hF⟩
    · exact b_sub [1, 0] rfl (e_X12_settled_L35 C Hh Rt bFU (0 : Int32) _ _ hq6 (fun v s e => by cases e; exact hF) (fun  _ e => by cases e))
    · refine b_sub [1, 0] rfl (e_X12_settled_L35 C Hh Rt bFU (0 : Int32) _ _ hq6 (fun v s e => by cases e) (fun  _ e  => ?_))
      cases e
      refine b_bipush (pc := 61) C dX12_settled_61 bp_m2 ?_
      exact b_iret (pc := 63) C Rt dX12_settled_63 hF
  · rw [if_pos hc3] at hF
    refine b_aload_n (pc := 11) C dX12_settled_11 rfl 0 rfl ?_
    refine b_iconst (pc := 12) C dX12_settled_12 ic_1 ?_
    obtain ⟨v10, σ9, hc8, hF⟩ := bbd_e hF
    refine b_cV1i (d' := (d + 1)) (pc := 13) C dX12_settled_13 mm_X12_184 (Hh.1 _ _ sh_92) rfl (Nat.le_of_ble_eq_true rfl) (by omega) (Hh.2.2 _ _ _ _ _ _ _ _ _ (lvl_eq (by omega) (e_X12_no (d + 1) (1 : Int32) _ _ _ hc8))) ?_
    exact b_iret (pc := 16) C Rt dX12_settled_16 hF
set_option maxHeartbeats 4000000 in
set_option maxRecDepth 20000 in
theorem e_X12_settled {l : Launch} {G : bG} {ρ : Nat → Nat} {A : Nat → Prop} (d : Nat)  (σ : bSto) (r : Int32) (σ' : bSto) (hF : f_X12_settled  σ = some (r, σ')) : bEv l G bSHf ρ A yX12_settled cX12_settled 2 (some .int) (d + 2) [.ref 92] σ (some (.int r)) σ' := b_met (d := d + 2) (by decide +kernel) (Nat.le_of_ble_eq_true rfl) rfl (fun X C Rt h1 h2 h3 => e_X12_settled_0 C ⟨fun o q h => by rw [h1]; exact h, fun i h => by rw [h2]; exact h, h3⟩ Rt  _ hF)
/-! BenchColonyModel.won -/
def f_X12_won_J53_33 (k : Int32 → Int32 → Int32 → bSto → Option (Int32 × bSto)) (x1 : Int32) (x2 : Int32) (x3 : Int32) (σ : bSto) : Option (Int32 × bSto) := bbd (f_X12_believersBy x3 (20 : Int32) σ) (fun v3 σ2 => (if v3 = x1 then blet (x3 + (1 : Int32)) (fun x3_7 => k x1 x3 x3_7 σ2) else blet (x3 + (1 : Int32)) (fun x3_5 => k x1 x2 x3_5 σ2)))
def f_X12_won_L33 : Nat → Int32 → Int32 → Int32 → bSto → Option (Int32 × bSto)
  | 0, _, _, _, _ => none
  | n + 1, x1, x2, x3, σ => (if x1 < x3 then some (x2, σ) else (if x2 < 0 then f_X12_won_J53_33 (f_X12_won_L33 n) x1 x2 x3 σ else bbd (f_X12_ones x3 σ) (fun v5 σ4 => bbd (f_X12_ones x2 σ4) (fun v8 σ7 => (if v8 ≤ v5 then blet (x3 + (1 : Int32)) (fun x3_10 => f_X12_won_L33 n x1 x2 x3_10 σ7) else f_X12_won_J53_33 (f_X12_won_L33 n) x1 x2 x3 σ7)))))
def f_X12_won  (σ : bSto) : Option (Int32 × bSto) := bbv (f_X12_good  σ) (fun σ2 => (if (σ2.1 92 14) = 0 then bbd (f_X12_no (1 : Int32) σ2) (fun v10 σ9 => some (v10, σ9)) else blet (((1 : Int32) <<< ((σ2.1 95 4) &&& 31)) - (1 : Int32)) (fun x1_4 => bl1 (f_X12_won_L33 bFU x1_4 (-2 : Int32) (0 : Int32) σ2) (fun x2_6 σ7 => some (x2_6, σ7)))))
set_option maxHeartbeats 4000000 in
set_option maxRecDepth 20000 in
theorem e_X12_won_J53_33 {X : bX} {l : Launch} {G : bG} {ρ : Nat → Nat} {A : Nat → Prop} {d : Nat} {r : Int32} {σ' : bSto} (C : bCX X cX12_won RX12 (d + 3)) (Hh : bH X l G bSHf ρ A 4) (Rt : bRX X (some .int) (some (.int r)) σ') {k : Int32 → Int32 → Int32 → bSto → Option (Int32 × bSto)} (ih : ∀ (x1 : Int32) (x2 : Int32) (x3 : Int32) (σ : bSto) (q : (Int32 × bSto)), k x1 x2 x3 σ = some q → (∀ (x2 : Int32) (s : bSto), q = (x2, s) → bAJ X 72 [(2, .int x2)] [] s) → bAJ X 33 [(0, .ref 92), (1, .int x1), (2, .int x2), (3, .int x3)] [] σ) (x1 : Int32) (x2 : Int32) (x3 : Int32) (σ : bSto) (q : (Int32 × bSto)) (hF : f_X12_won_J53_33 k x1 x2 x3 σ = some q) : (∀ (x2 : Int32) (s : bSto), q = (x2, s) → bAJ X 72 [(2, .int x2)] [] s) → bAJ X 53 [(0, .ref 92), (1, .int x1), (2, .int x2), (3, .int x3)] [] σ := by
  intro hx
  rw [f_X12_won_J53_33] at hF
  refine b_aload_n (pc := 53) C dX12_won_53 rfl 0 rfl ?_
  refine b_iload_n (pc := 54) C dX12_won_54 rfl 3 rfl ?_
  refine b_bipush (pc := 55) C dX12_won_55 bp_20 ?_
  obtain ⟨v3, σ2, hc1, hF⟩ := bbd_e hF
  refine b_cV2i (d' := (d + 2)) (pc := 57) C dX12_won_57 mm_X12_402 (Hh.1 _ _ sh_92) rfl (Nat.le_of_ble_eq_true rfl) (by omega) (Hh.2.2 _ _ _ _ _ _ _ _ _ (lvl_eq (by omega) (e_X12_believersBy (d + 0) x3 (20 : Int32) _ _ _ hc1))) ?_
  refine b_iload_n (pc := 60) C dX12_won_60 rfl 1 rfl ?_
  refine b_icmp_ne (tgt := 66) (pc := 61) C dX12_won_61 rfl (fun hc4 => ?_) (fun hc4 => ?_)
  · rw [if_neg hc4] at hF
    obtain ⟨x3_5, e6, hF⟩ := blet_e hF
    refine b_iinc (L' := [(3, .int x3_5), (0, .ref 92), (1, .int x1), (2, .int x2)]) (pc := 66) C dX12_won_66 3 rfl ic_1 e6 (Hh.2.1 _ (Nat.le_of_ble_eq_true rfl)) rfl ?_
    refine b_goto (tgt := 33) (pc := 69) C dX12_won_69 rfl ?_
    exact b_sub [1, 2, 3, 0] rfl (ih x1 x2 x3_5 _ _ hF hx)
  · rw [if_pos hc4] at hF
    refine b_iload_n (pc := 64) C dX12_won_64 rfl 3 rfl ?_
    refine b_istore_n (L' := [(2, .int x3), (0, .ref 92), (1, .int x1), (3, .int x3)]) (pc := 65) C dX12_won_65 rfl rfl (Hh.2.1 _ (Nat.le_of_ble_eq_true rfl)) rfl ?_
    obtain ⟨x3_7, e8, hF⟩ := blet_e hF
    refine b_iinc (L' := [(3, .int x3_7), (2, .int x3), (0, .ref 92), (1, .int x1)]) (pc := 66) C dX12_won_66 3 rfl ic_1 e8 (Hh.2.1 _ (Nat.le_of_ble_eq_true rfl)) rfl ?_
    refine b_goto (tgt := 33) (pc := 69) C dX12_won_69 rfl ?_
    exact b_sub [2, 3, 1, 0] rfl (ih x1 x3 x3_7 _ _ hF hx)
set_option maxHeartbeats 4000000 in
set_option maxRecDepth 20000 in
theorem e_X12_won_L33 {X : bX} {l : Launch} {G : bG} {ρ : Nat → Nat} {A : Nat → Prop} {d : Nat} {r : Int32} {σ' : bSto} (C : bCX X cX12_won RX12 (d + 3)) (Hh : bH X l G bSHf ρ A 4) (Rt : bRX X (some .int) (some (.int r)) σ') : ∀ (n : Nat) (x1 : Int32) (x2 : Int32) (x3 : Int32) (σ : bSto) (q : (Int32 × bSto)), f_X12_won_L33 n x1 x2 x3 σ = some q → (∀ (x2 : Int32) (s : bSto), q = (x2, s) → bAJ X 72 [(2, .int x2)] [] s) → bAJ X 33 [(0, .ref 92), (1, .int x1), (2, .int x2), (3, .int x3)] [] σ := by
  intro n
  induction n with
  | zero => intro x1 x2 x3 σ q hF; rw [f_X12_won_L33] at hF; cases hF
  | succ n ih =>
    intro x1 x2 x3 σ q hF hx
    rw [f_X12_won_L33] at hF
    refine b_iload_n (pc := 33) C dX12_won_33 rfl 3 rfl ?_
    refine b_iload_n (pc := 34) C dX12_won_34 rfl 1 rfl ?_
    refine b_icmp_gt (tgt := 72) (pc := 35) C dX12_won_35 rfl (fun hc1 => ?_) (fun hc1 => ?_)
    · rw [if_pos hc1] at hF
      exact b_sub [2] rfl (hx _ _ (Option.some.inj hF).symm )
    · rw [if_neg hc1] at hF
      refine b_iload_n (pc := 38) C dX12_won_38 rfl 2 rfl ?_
      refine b_if_lt (tgt := 53) (pc := 39) C dX12_won_39 rfl (fun hc2 => ?_) (fun hc2 => ?_)
      · rw [if_pos hc2] at hF
        exact b_sub [0, 1, 2, 3] rfl (e_X12_won_J53_33 C Hh Rt ih x1 x2 x3 _ _ hF hx)
      · rw [if_neg hc2] at hF
        refine b_iload_n (pc := 42) C dX12_won_42 rfl 3 rfl ?_
        obtain ⟨v5, σ4, hc3, hF⟩ := bbd_e hF
        refine b_cS1i (d' := (d + 2)) (pc := 43) C dX12_won_43 mm_X12_299 (Nat.le_of_ble_eq_true rfl) (by omega) (Hh.2.2 _ _ _ _ _ _ _ _ _ (lvl_eq (by omega) (e_X12_ones (d + 2) x3 _ _ _ hc3))) ?_
        refine b_iload_n (pc := 46) C dX12_won_46 rfl 2 rfl ?_
        obtain ⟨v8, σ7, hc6, hF⟩ := bbd_e hF
        refine b_cS1i (d' := (d + 2)) (pc := 47) C dX12_won_47 mm_X12_299 (Nat.le_of_ble_eq_true rfl) (by omega) (Hh.2.2 _ _ _ _ _ _ _ _ _ (lvl_eq (by omega) (e_X12_ones (d + 2) x2 _ _ _ hc6))) ?_
        refine b_icmp_ge (tgt := 66) (pc := 50) C dX12_won_50 rfl (fun hc9 => ?_) (fun hc9 => ?_)
        · rw [if_pos hc9] at hF
          obtain ⟨x3_10, e11, hF⟩ := blet_e hF
          refine b_iinc (L' := [(3, .int x3_10), (0, .ref 92), (1, .int x1), (2, .int x2)]) (pc := 66) C dX12_won_66 3 rfl ic_1 e11 (Hh.2.1 _ (Nat.le_of_ble_eq_true rfl)) rfl ?_
          refine b_goto (tgt := 33) (pc := 69) C dX12_won_69 rfl ?_
          exact b_sub [1, 2, 3, 0] rfl (ih x1 x2 x3_10 _ _ hF hx)
        · rw [if_neg hc9] at hF
          exact b_sub [0, 1, 2, 3] rfl (e_X12_won_J53_33 C Hh Rt ih x1 x2 x3 _ _ hF hx)
set_option maxHeartbeats 4000000 in
set_option maxRecDepth 20000 in
theorem e_X12_won_0 {X : bX} {l : Launch} {G : bG} {ρ : Nat → Nat} {A : Nat → Prop} {d : Nat} {r : Int32} {σ' : bSto} (C : bCX X cX12_won RX12 (d + 3)) (Hh : bH X l G bSHf ρ A 4) (Rt : bRX X (some .int) (some (.int r)) σ')  (σ : bSto) (hF : f_X12_won  σ = some (r, σ')) : bAJ X 0 [(0, .ref 92)] [] σ := by
  rw [f_X12_won] at hF
  refine b_aload_n (pc := 0) C dX12_won_0 rfl 0 rfl ?_
  obtain ⟨σ2, hc1, hF⟩ := bbv_e hF
  refine b_cV0v (d' := (d + 2)) (pc := 1) C dX12_won_1 mm_X12_181 (Hh.1 _ _ sh_92) rfl (Nat.le_of_ble_eq_true rfl) (by omega) (Hh.2.2 _ _ _ _ _ _ _ _ _ (lvl_eq (by omega) (e_X12_good (d + 2)  _ _ hc1))) ?_
  refine b_aload_n (pc := 4) C dX12_won_4 rfl 0 rfl ?_
  refine b_getI (pc := 5) C dX12_won_5 fl_X12_194 (Hh.1 _ _ sh_92) rfl ?_
  refine b_if_ne (tgt := 17) (pc := 8) C dX12_won_8 rfl (fun hc3 => ?_) (fun hc3 => ?_)
  · rw [if_neg hc3] at hF
    refine b_iconst (pc := 17) C dX12_won_17 ic_1 ?_
    refine b_aload_n (pc := 18) C dX12_won_18 rfl 0 rfl ?_
    refine b_getS (pc := 19) C dX12_won_19 fl_X12_20 (Hh.1 _ _ sh_92) rfl ?_
    refine b_iconst (pc := 22) C dX12_won_22 ic_4 ?_
    refine b_ialdK (pc := 23) C dX12_won_23 (Hh.1 _ _ sh_95) tn_4 (by decide) ?_
    refine b_ishl (pc := 24) C dX12_won_24 ?_
    refine b_iconst (pc := 25) C dX12_won_25 ic_1 ?_
    refine b_isub (pc := 26) C dX12_won_26 ?_
    obtain ⟨x1_4, e5, hF⟩ := blet_e hF
    refine b_istore_n (L' := [(1, .int x1_4), (0, .ref 92)]) (pc := 27) C dX12_won_27 rfl e5 (Hh.2.1 _ (Nat.le_of_ble_eq_true rfl)) rfl ?_
    refine b_bipush (pc := 28) C dX12_won_28 bp_m2 ?_
    refine b_istore_n (L' := [(2, .int (-2 : Int32)), (1, .int x1_4), (0, .ref 92)]) (pc := 30) C dX12_won_30 rfl rfl (Hh.2.1 _ (Nat.le_of_ble_eq_true rfl)) rfl ?_
    refine b_iconst (pc := 31) C dX12_won_31 ic_0 ?_
    refine b_istore_n (L' := [(3, .int (0 : Int32)), (2, .int (-2 : Int32)), (1, .int x1_4), (0, .ref 92)]) (pc := 32) C dX12_won_32 rfl rfl (Hh.2.1 _ (Nat.le_of_ble_eq_true rfl)) rfl ?_
    obtain ⟨x2_6, σ7, hq6, hF⟩ := bl1_e hF
    refine b_sub [3, 2, 1, 0] rfl (e_X12_won_L33 C Hh Rt bFU x1_4 (-2 : Int32) (0 : Int32) _ _ hq6 (fun _ _ e  => ?_))
    cases e
    refine b_iload_n (pc := 72) C dX12_won_72 rfl 0 rfl ?_
    exact b_iret (pc := 73) C Rt dX12_won_73 hF
  · rw [if_pos hc3] at hF
    refine b_aload_n (pc := 11) C dX12_won_11 rfl 0 rfl ?_
    refine b_iconst (pc := 12) C dX12_won_12 ic_1 ?_
    obtain ⟨v10, σ9, hc8, hF⟩ := bbd_e hF
    refine b_cV1i (d' := (d + 2)) (pc := 13) C dX12_won_13 mm_X12_184 (Hh.1 _ _ sh_92) rfl (Nat.le_of_ble_eq_true rfl) (by omega) (Hh.2.2 _ _ _ _ _ _ _ _ _ (lvl_eq (by omega) (e_X12_no (d + 2) (1 : Int32) _ _ _ hc8))) ?_
    exact b_iret (pc := 16) C Rt dX12_won_16 hF
set_option maxHeartbeats 4000000 in
set_option maxRecDepth 20000 in
theorem e_X12_won {l : Launch} {G : bG} {ρ : Nat → Nat} {A : Nat → Prop} (d : Nat)  (σ : bSto) (r : Int32) (σ' : bSto) (hF : f_X12_won  σ = some (r, σ')) : bEv l G bSHf ρ A yX12_won cX12_won 4 (some .int) (d + 3) [.ref 92] σ (some (.int r)) σ' := b_met (d := d + 3) (by decide +kernel) (Nat.le_of_ble_eq_true rfl) rfl (fun X C Rt h1 h2 h3 => e_X12_won_0 C ⟨fun o q h => by rw [h1]; exact h, fun i h => by rw [h2]; exact h, h3⟩ Rt  _ hF)
/-! BenchColonyModel.prophet -/
def f_X12_prophet_L24 : Nat → Int32 → Int32 → Int32 → bSto → Option (Int32 × bSto)
  | 0, _, _, _, _ => none
  | n + 1, x1, x2, x3, σ => (if (σ.1 95 4) ≤ x3 then some (x1, σ) else bbd (f_X12_believersBy ((1 : Int32) <<< (x3 &&& 31)) (20 : Int32) σ) (fun v4 σ3 => bbd (f_X12_ones v4 σ3) (fun v7 σ6 => (if x2 < v7 then blet (x3 + (1 : Int32)) (fun x3_9 => f_X12_prophet_L24 n x3 v7 x3_9 σ6) else blet (x3 + (1 : Int32)) (fun x3_11 => f_X12_prophet_L24 n x1 x2 x3_11 σ6)))))
def f_X12_prophet  (σ : bSto) : Option (Int32 × bSto) := bbv (f_X12_good  σ) (fun σ2 => (if (σ2.1 92 14) = 0 then bbd (f_X12_no (1 : Int32) σ2) (fun v8 σ7 => some (v8, σ7)) else bl1 (f_X12_prophet_L24 bFU (-2 : Int32) (-1 : Int32) (0 : Int32) σ2) (fun x1_4 σ5 => some (x1_4, σ5))))
set_option maxHeartbeats 4000000 in
set_option maxRecDepth 20000 in
theorem e_X12_prophet_L24 {X : bX} {l : Launch} {G : bG} {ρ : Nat → Nat} {A : Nat → Prop} {d : Nat} {r : Int32} {σ' : bSto} (C : bCX X cX12_prophet RX12 (d + 3)) (Hh : bH X l G bSHf ρ A 5) (Rt : bRX X (some .int) (some (.int r)) σ') : ∀ (n : Nat) (x1 : Int32) (x2 : Int32) (x3 : Int32) (σ : bSto) (q : (Int32 × bSto)), f_X12_prophet_L24 n x1 x2 x3 σ = some q → (∀ (x1 : Int32) (s : bSto), q = (x1, s) → bAJ X 68 [(1, .int x1)] [] s) → bAJ X 24 [(0, .ref 92), (1, .int x1), (2, .int x2), (3, .int x3)] [] σ := by
  intro n
  induction n with
  | zero => intro x1 x2 x3 σ q hF; rw [f_X12_prophet_L24] at hF; cases hF
  | succ n ih =>
    intro x1 x2 x3 σ q hF hx
    rw [f_X12_prophet_L24] at hF
    refine b_iload_n (pc := 24) C dX12_prophet_24 rfl 3 rfl ?_
    refine b_aload_n (pc := 25) C dX12_prophet_25 rfl 0 rfl ?_
    refine b_getS (pc := 26) C dX12_prophet_26 fl_X12_20 (Hh.1 _ _ sh_92) rfl ?_
    refine b_iconst (pc := 29) C dX12_prophet_29 ic_4 ?_
    refine b_ialdK (pc := 30) C dX12_prophet_30 (Hh.1 _ _ sh_95) tn_4 (by decide) ?_
    refine b_icmp_ge (tgt := 68) (pc := 31) C dX12_prophet_31 rfl (fun hc1 => ?_) (fun hc1 => ?_)
    · rw [if_pos hc1] at hF
      exact b_sub [1] rfl (hx _ _ (Option.some.inj hF).symm )
    · rw [if_neg hc1] at hF
      refine b_aload_n (pc := 34) C dX12_prophet_34 rfl 0 rfl ?_
      refine b_iconst (pc := 35) C dX12_prophet_35 ic_1 ?_
      refine b_iload_n (pc := 36) C dX12_prophet_36 rfl 3 rfl ?_
      refine b_ishl (pc := 37) C dX12_prophet_37 ?_
      refine b_bipush (pc := 38) C dX12_prophet_38 bp_20 ?_
      obtain ⟨v4, σ3, hc2, hF⟩ := bbd_e hF
      refine b_cV2i (d' := (d + 2)) (pc := 40) C dX12_prophet_40 mm_X12_402 (Hh.1 _ _ sh_92) rfl (Nat.le_of_ble_eq_true rfl) (by omega) (Hh.2.2 _ _ _ _ _ _ _ _ _ (lvl_eq (by omega) (e_X12_believersBy (d + 0) ((1 : Int32) <<< (x3 &&& 31)) (20 : Int32) _ _ _ hc2))) ?_
      obtain ⟨v7, σ6, hc5, hF⟩ := bbd_e hF
      refine b_cS1i (d' := (d + 2)) (pc := 43) C dX12_prophet_43 mm_X12_299 (Nat.le_of_ble_eq_true rfl) (by omega) (Hh.2.2 _ _ _ _ _ _ _ _ _ (lvl_eq (by omega) (e_X12_ones (d + 2) v4 _ _ _ hc5))) ?_
      refine b_istore (L' := [(4, .int v7), (0, .ref 92), (1, .int x1), (2, .int x2), (3, .int x3)]) (pc := 46) C dX12_prophet_46 rfl (Hh.2.1 _ (Nat.le_of_ble_eq_true rfl)) rfl ?_
      refine b_iload (pc := 48) C dX12_prophet_48 0 rfl ?_
      refine b_iload_n (pc := 50) C dX12_prophet_50 rfl 3 rfl ?_
      refine b_icmp_gt (tgt := 57) (pc := 51) C dX12_prophet_51 rfl (fun hc8 => ?_) (fun hc8 => ?_)
      · rw [if_pos hc8] at hF
        refine b_iload_n (pc := 57) C dX12_prophet_57 rfl 4 rfl ?_
        refine b_istore_n (L' := [(1, .int x3), (4, .int v7), (0, .ref 92), (2, .int x2), (3, .int x3)]) (pc := 58) C dX12_prophet_58 rfl rfl (Hh.2.1 _ (Nat.le_of_ble_eq_true rfl)) rfl ?_
        refine b_iload (pc := 59) C dX12_prophet_59 1 rfl ?_
        refine b_istore_n (L' := [(2, .int v7), (1, .int x3), (4, .int v7), (0, .ref 92), (3, .int x3)]) (pc := 61) C dX12_prophet_61 rfl rfl (Hh.2.1 _ (Nat.le_of_ble_eq_true rfl)) rfl ?_
        obtain ⟨x3_9, e10, hF⟩ := blet_e hF
        refine b_iinc (L' := [(3, .int x3_9), (2, .int v7), (1, .int x3), (4, .int v7), (0, .ref 92)]) (pc := 62) C dX12_prophet_62 4 rfl ic_1 e10 (Hh.2.1 _ (Nat.le_of_ble_eq_true rfl)) rfl ?_
        refine b_goto (tgt := 24) (pc := 65) C dX12_prophet_65 rfl ?_
        exact b_sub [4, 2, 1, 0] rfl (ih x3 v7 x3_9 _ _ hF hx)
      · rw [if_neg hc8] at hF
        refine b_goto (tgt := 62) (pc := 54) C dX12_prophet_54 rfl ?_
        obtain ⟨x3_11, e12, hF⟩ := blet_e hF
        refine b_iinc (L' := [(3, .int x3_11), (4, .int v7), (0, .ref 92), (1, .int x1), (2, .int x2)]) (pc := 62) C dX12_prophet_62 4 rfl ic_1 e12 (Hh.2.1 _ (Nat.le_of_ble_eq_true rfl)) rfl ?_
        refine b_goto (tgt := 24) (pc := 65) C dX12_prophet_65 rfl ?_
        exact b_sub [2, 3, 4, 0] rfl (ih x1 x2 x3_11 _ _ hF hx)
set_option maxHeartbeats 4000000 in
set_option maxRecDepth 20000 in
theorem e_X12_prophet_0 {X : bX} {l : Launch} {G : bG} {ρ : Nat → Nat} {A : Nat → Prop} {d : Nat} {r : Int32} {σ' : bSto} (C : bCX X cX12_prophet RX12 (d + 3)) (Hh : bH X l G bSHf ρ A 5) (Rt : bRX X (some .int) (some (.int r)) σ')  (σ : bSto) (hF : f_X12_prophet  σ = some (r, σ')) : bAJ X 0 [(0, .ref 92)] [] σ := by
  rw [f_X12_prophet] at hF
  refine b_aload_n (pc := 0) C dX12_prophet_0 rfl 0 rfl ?_
  obtain ⟨σ2, hc1, hF⟩ := bbv_e hF
  refine b_cV0v (d' := (d + 2)) (pc := 1) C dX12_prophet_1 mm_X12_181 (Hh.1 _ _ sh_92) rfl (Nat.le_of_ble_eq_true rfl) (by omega) (Hh.2.2 _ _ _ _ _ _ _ _ _ (lvl_eq (by omega) (e_X12_good (d + 2)  _ _ hc1))) ?_
  refine b_aload_n (pc := 4) C dX12_prophet_4 rfl 0 rfl ?_
  refine b_getI (pc := 5) C dX12_prophet_5 fl_X12_194 (Hh.1 _ _ sh_92) rfl ?_
  refine b_if_ne (tgt := 17) (pc := 8) C dX12_prophet_8 rfl (fun hc3 => ?_) (fun hc3 => ?_)
  · rw [if_neg hc3] at hF
    refine b_bipush (pc := 17) C dX12_prophet_17 bp_m2 ?_
    refine b_istore_n (L' := [(1, .int (-2 : Int32)), (0, .ref 92)]) (pc := 19) C dX12_prophet_19 rfl rfl (Hh.2.1 _ (Nat.le_of_ble_eq_true rfl)) rfl ?_
    refine b_iconst (pc := 20) C dX12_prophet_20 ic_m1 ?_
    refine b_istore_n (L' := [(2, .int (-1 : Int32)), (1, .int (-2 : Int32)), (0, .ref 92)]) (pc := 21) C dX12_prophet_21 rfl rfl (Hh.2.1 _ (Nat.le_of_ble_eq_true rfl)) rfl ?_
    refine b_iconst (pc := 22) C dX12_prophet_22 ic_0 ?_
    refine b_istore_n (L' := [(3, .int (0 : Int32)), (2, .int (-1 : Int32)), (1, .int (-2 : Int32)), (0, .ref 92)]) (pc := 23) C dX12_prophet_23 rfl rfl (Hh.2.1 _ (Nat.le_of_ble_eq_true rfl)) rfl ?_
    obtain ⟨x1_4, σ5, hq4, hF⟩ := bl1_e hF
    refine b_sub [3, 2, 1, 0] rfl (e_X12_prophet_L24 C Hh Rt bFU (-2 : Int32) (-1 : Int32) (0 : Int32) _ _ hq4 (fun _ _ e  => ?_))
    cases e
    refine b_iload_n (pc := 68) C dX12_prophet_68 rfl 0 rfl ?_
    exact b_iret (pc := 69) C Rt dX12_prophet_69 hF
  · rw [if_pos hc3] at hF
    refine b_aload_n (pc := 11) C dX12_prophet_11 rfl 0 rfl ?_
    refine b_iconst (pc := 12) C dX12_prophet_12 ic_1 ?_
    obtain ⟨v8, σ7, hc6, hF⟩ := bbd_e hF
    refine b_cV1i (d' := (d + 2)) (pc := 13) C dX12_prophet_13 mm_X12_184 (Hh.1 _ _ sh_92) rfl (Nat.le_of_ble_eq_true rfl) (by omega) (Hh.2.2 _ _ _ _ _ _ _ _ _ (lvl_eq (by omega) (e_X12_no (d + 2) (1 : Int32) _ _ _ hc6))) ?_
    exact b_iret (pc := 16) C Rt dX12_prophet_16 hF
set_option maxHeartbeats 4000000 in
set_option maxRecDepth 20000 in
theorem e_X12_prophet {l : Launch} {G : bG} {ρ : Nat → Nat} {A : Nat → Prop} (d : Nat)  (σ : bSto) (r : Int32) (σ' : bSto) (hF : f_X12_prophet  σ = some (r, σ')) : bEv l G bSHf ρ A yX12_prophet cX12_prophet 5 (some .int) (d + 3) [.ref 92] σ (some (.int r)) σ' := b_met (d := d + 3) (by decide +kernel) (Nat.le_of_ble_eq_true rfl) rfl (fun X C Rt h1 h2 h3 => e_X12_prophet_0 C ⟨fun o q h => by rw [h1]; exact h, fun i h => by rw [h2]; exact h, h3⟩ Rt  _ hF)
/-! BenchColonyModel.shoutOf -/
def f_X12_shoutOf_J21 (x1 : Int32) (s0 : Int32) (σ : bSto) : Option (Int32 × bSto) := some ((s0 - ((2 : Int32) * x1)), σ)
def f_X12_shoutOf (x0 : Int32) (x1 : Int32) (x2 : Int32) (σ : bSto) : Option (Int32 × bSto) := (if x1 ≤ x2 then (if x1 = x2 then f_X12_shoutOf_J21 x1 (x0 / (2 : Int32)) σ else f_X12_shoutOf_J21 x1 (0 : Int32) σ) else f_X12_shoutOf_J21 x1 x0 σ)
set_option maxHeartbeats 4000000 in
set_option maxRecDepth 20000 in
theorem e_X12_shoutOf_J21 {X : bX} {l : Launch} {G : bG} {ρ : Nat → Nat} {A : Nat → Prop} {d : Nat} {r : Int32} {σ' : bSto} (C : bCX X cX12_shoutOf RX12 (d + 0)) (Hh : bH X l G bSHf ρ A 3) (Rt : bRX X (some .int) (some (.int r)) σ') (x1 : Int32) (s0 : Int32) (σ : bSto) (hF : f_X12_shoutOf_J21 x1 s0 σ = some (r, σ')) : bAJ X 21 [(1, .int x1)] [.int s0] σ := by
  rw [f_X12_shoutOf_J21] at hF
  refine b_iconst (pc := 21) C dX12_shoutOf_21 ic_2 ?_
  refine b_iload_n (pc := 22) C dX12_shoutOf_22 rfl 0 rfl ?_
  refine b_imul (pc := 23) C dX12_shoutOf_23 ?_
  refine b_isub (pc := 24) C dX12_shoutOf_24 ?_
  exact b_iret (pc := 25) C Rt dX12_shoutOf_25 hF
set_option maxHeartbeats 4000000 in
set_option maxRecDepth 20000 in
theorem e_X12_shoutOf_0 {X : bX} {l : Launch} {G : bG} {ρ : Nat → Nat} {A : Nat → Prop} {d : Nat} {r : Int32} {σ' : bSto} (C : bCX X cX12_shoutOf RX12 (d + 0)) (Hh : bH X l G bSHf ρ A 3) (Rt : bRX X (some .int) (some (.int r)) σ') (x0 : Int32) (x1 : Int32) (x2 : Int32) (σ : bSto) (hF : f_X12_shoutOf x0 x1 x2 σ = some (r, σ')) : bAJ X 0 [(0, .int x0), (1, .int x1), (2, .int x2)] [] σ := by
  rw [f_X12_shoutOf] at hF
  refine b_iload_n (pc := 0) C dX12_shoutOf_0 rfl 1 rfl ?_
  refine b_iload_n (pc := 1) C dX12_shoutOf_1 rfl 2 rfl ?_
  refine b_icmp_le (tgt := 9) (pc := 2) C dX12_shoutOf_2 rfl (fun hc1 => ?_) (fun hc1 => ?_)
  · rw [if_pos hc1] at hF
    refine b_iload_n (pc := 9) C dX12_shoutOf_9 rfl 1 rfl ?_
    refine b_iload_n (pc := 10) C dX12_shoutOf_10 rfl 2 rfl ?_
    refine b_icmp_ne (tgt := 20) (pc := 11) C dX12_shoutOf_11 rfl (fun hc2 => ?_) (fun hc2 => ?_)
    · rw [if_neg hc2] at hF
      refine b_iconst (pc := 20) C dX12_shoutOf_20 ic_0 ?_
      exact b_sub [1] rfl (e_X12_shoutOf_J21 C Hh Rt x1 (0 : Int32) _ hF)
    · rw [if_pos hc2] at hF
      refine b_iload_n (pc := 14) C dX12_shoutOf_14 rfl 0 rfl ?_
      refine b_iconst (pc := 15) C dX12_shoutOf_15 ic_2 ?_
      refine b_idiv (pc := 16) C dX12_shoutOf_16 (by decide) ?_
      refine b_goto (tgt := 21) (pc := 17) C dX12_shoutOf_17 rfl ?_
      exact b_sub [1] rfl (e_X12_shoutOf_J21 C Hh Rt x1 (x0 / (2 : Int32)) _ hF)
  · rw [if_neg hc1] at hF
    refine b_iload_n (pc := 5) C dX12_shoutOf_5 rfl 0 rfl ?_
    refine b_goto (tgt := 21) (pc := 6) C dX12_shoutOf_6 rfl ?_
    exact b_sub [1] rfl (e_X12_shoutOf_J21 C Hh Rt x1 x0 _ hF)
set_option maxHeartbeats 4000000 in
set_option maxRecDepth 20000 in
theorem e_X12_shoutOf {l : Launch} {G : bG} {ρ : Nat → Nat} {A : Nat → Prop} (d : Nat) (x0 : Int32) (x1 : Int32) (x2 : Int32) (σ : bSto) (r : Int32) (σ' : bSto) (hF : f_X12_shoutOf x0 x1 x2 σ = some (r, σ')) : bEv l G bSHf ρ A yX12_shoutOf cX12_shoutOf 3 (some .int) (d + 0) [.int x0, .int x1, .int x2] σ (some (.int r)) σ' := b_met (d := d + 0) (by decide +kernel) (Nat.le_of_ble_eq_true rfl) rfl (fun X C Rt h1 h2 h3 => e_X12_shoutOf_0 C ⟨fun o q h => by rw [h1]; exact h, fun i h => by rw [h2]; exact h, h3⟩ Rt _ _ _ _ hF)
/-! BenchColonyModel.manyWhy -/
def f_X12_manyWhy (x1 : Int32) (σ : bSto) : Option (Int32 × bSto) := (if (σ.1 92 14) = 0 then some ((1 : Int32), σ) else bbd (f_X12_in x1 (0 : Int32) (99 : Int32) σ) (fun v4 σ3 => (if v4 = 0 then some ((2 : Int32), σ3) else some ((0 : Int32), σ3))))
set_option maxHeartbeats 4000000 in
set_option maxRecDepth 20000 in
theorem e_X12_manyWhy_0 {X : bX} {l : Launch} {G : bG} {ρ : Nat → Nat} {A : Nat → Prop} {d : Nat} {r : Int32} {σ' : bSto} (C : bCX X cX12_manyWhy RX12 (d + 1)) (Hh : bH X l G bSHf ρ A 2) (Rt : bRX X (some .int) (some (.int r)) σ') (x1 : Int32) (σ : bSto) (hF : f_X12_manyWhy x1 σ = some (r, σ')) : bAJ X 0 [(0, .ref 92), (1, .int x1)] [] σ := by
  rw [f_X12_manyWhy] at hF
  refine b_aload_n (pc := 0) C dX12_manyWhy_0 rfl 0 rfl ?_
  refine b_getI (pc := 1) C dX12_manyWhy_1 fl_X12_194 (Hh.1 _ _ sh_92) rfl ?_
  refine b_if_ne (tgt := 11) (pc := 4) C dX12_manyWhy_4 rfl (fun hc1 => ?_) (fun hc1 => ?_)
  · rw [if_neg hc1] at hF
    refine b_iload_n (pc := 11) C dX12_manyWhy_11 rfl 1 rfl ?_
    refine b_iconst (pc := 12) C dX12_manyWhy_12 ic_0 ?_
    refine b_bipush (pc := 13) C dX12_manyWhy_13 bp_99 ?_
    obtain ⟨v4, σ3, hc2, hF⟩ := bbd_e hF
    refine b_cS3i (d' := (d + 0)) (pc := 15) C dX12_manyWhy_15 mm_X12_160 (Nat.le_of_ble_eq_true rfl) (by omega) (Hh.2.2 _ _ _ _ _ _ _ _ _ (lvl_eq (by omega) (e_X12_in (d + 0) x1 (0 : Int32) (99 : Int32) _ _ _ hc2))) ?_
    refine b_if_eq (tgt := 25) (pc := 18) C dX12_manyWhy_18 rfl (fun hc5 => ?_) (fun hc5 => ?_)
    · rw [if_pos hc5] at hF
      refine b_iconst (pc := 25) C dX12_manyWhy_25 ic_2 ?_
      exact b_iret (pc := 26) C Rt dX12_manyWhy_26 hF
    · rw [if_neg hc5] at hF
      refine b_iconst (pc := 21) C dX12_manyWhy_21 ic_0 ?_
      refine b_goto (tgt := 26) (pc := 22) C dX12_manyWhy_22 rfl ?_
      exact b_iret (pc := 26) C Rt dX12_manyWhy_26 hF
  · rw [if_pos hc1] at hF
    refine b_iconst (pc := 7) C dX12_manyWhy_7 ic_1 ?_
    refine b_goto (tgt := 26) (pc := 8) C dX12_manyWhy_8 rfl ?_
    exact b_iret (pc := 26) C Rt dX12_manyWhy_26 hF
set_option maxHeartbeats 4000000 in
set_option maxRecDepth 20000 in
theorem e_X12_manyWhy {l : Launch} {G : bG} {ρ : Nat → Nat} {A : Nat → Prop} (d : Nat) (x1 : Int32) (σ : bSto) (r : Int32) (σ' : bSto) (hF : f_X12_manyWhy x1 σ = some (r, σ')) : bEv l G bSHf ρ A yX12_manyWhy cX12_manyWhy 2 (some .int) (d + 1) [.ref 92, .int x1] σ (some (.int r)) σ' := b_met (d := d + 1) (by decide +kernel) (Nat.le_of_ble_eq_true rfl) rfl (fun X C Rt h1 h2 h3 => e_X12_manyWhy_0 C ⟨fun o q h => by rw [h1]; exact h, fun i h => by rw [h2]; exact h, h3⟩ Rt _ _ hF)
/-! BenchColonyModel.shout -/
def f_X12_shout_J39 (x1 : Int32) (x2 : Int32) (x3 : Int32) (x4 : Int32) (x5 : Int32) (σ : bSto) : Option (Int32 × bSto) := (if x5 = 0 then (if x4 = 0 then bbd (f_X12_shoutOf x1 x2 x3 σ) (fun v7 σ6 => some (v7, σ6)) else bbd (f_X12_shoutOf x1 x3 x2 σ) (fun v10 σ9 => some (v10, σ9))) else blet (bI σ 92 11 x5) (fun σ2 => some ((-100 : Int32), σ2)))
def f_X12_shout_J36 (x1 : Int32) (x2 : Int32) (x3 : Int32) (x4 : Int32) (σ : bSto) : Option (Int32 × bSto) := f_X12_shout_J39 x1 x2 x3 x4 (2 : Int32) σ
def f_X12_shout (x1 : Int32) (x2 : Int32) (x3 : Int32) (x4 : Int32) (σ : bSto) : Option (Int32 × bSto) := bbv (f_X12_good  σ) (fun σ2 => bbd (f_X12_manyWhy x1 σ2) (fun v5 σ4 => (if v5 = 0 then bbd (f_X12_in x2 (0 : Int32) (6 : Int32) σ4) (fun v9 σ8 => (if v9 = 0 then f_X12_shout_J36 x1 x2 x3 x4 σ8 else bbd (f_X12_in x3 (0 : Int32) (6 : Int32) σ8) (fun v13 σ12 => (if v13 = 0 then f_X12_shout_J36 x1 x2 x3 x4 σ12 else f_X12_shout_J39 x1 x2 x3 x4 v5 σ12)))) else f_X12_shout_J39 x1 x2 x3 x4 v5 σ4)))
set_option maxHeartbeats 4000000 in
set_option maxRecDepth 20000 in
theorem e_X12_shout_J39 {X : bX} {l : Launch} {G : bG} {ρ : Nat → Nat} {A : Nat → Prop} {d : Nat} {r : Int32} {σ' : bSto} (C : bCX X cX12_shout RX12 (d + 2)) (Hh : bH X l G bSHf ρ A 6) (Rt : bRX X (some .int) (some (.int r)) σ') (x1 : Int32) (x2 : Int32) (x3 : Int32) (x4 : Int32) (x5 : Int32) (σ : bSto) (hF : f_X12_shout_J39 x1 x2 x3 x4 x5 σ = some (r, σ')) : bAJ X 39 [(0, .ref 92), (1, .int x1), (2, .int x2), (3, .int x3), (4, .int x4), (5, .int x5)] [] σ := by
  rw [f_X12_shout_J39] at hF
  refine b_iload (pc := 39) C dX12_shout_39 5 rfl ?_
  refine b_if_ne (tgt := 65) (pc := 41) C dX12_shout_41 rfl (fun hc1 => ?_) (fun hc1 => ?_)
  · rw [if_neg hc1] at hF
    refine b_aload_n (pc := 65) C dX12_shout_65 rfl 0 rfl ?_
    refine b_iload (pc := 66) C dX12_shout_66 5 rfl ?_
    obtain ⟨σ2, e3, hF⟩ := blet_e hF
    refine b_putI (pc := 68) C dX12_shout_68 fp_X12_68 (Hh.1 _ _ sh_92) rfl rfl rfl e3 ?_
    refine b_bipush (pc := 71) C dX12_shout_71 bp_m100 ?_
    exact b_iret (pc := 73) C Rt dX12_shout_73 hF
  · rw [if_pos hc1] at hF
    refine b_iload (pc := 44) C dX12_shout_44 4 rfl ?_
    refine b_if_eq (tgt := 58) (pc := 46) C dX12_shout_46 rfl (fun hc4 => ?_) (fun hc4 => ?_)
    · rw [if_pos hc4] at hF
      refine b_iload_n (pc := 58) C dX12_shout_58 rfl 1 rfl ?_
      refine b_iload_n (pc := 59) C dX12_shout_59 rfl 2 rfl ?_
      refine b_iload_n (pc := 60) C dX12_shout_60 rfl 3 rfl ?_
      obtain ⟨v7, σ6, hc5, hF⟩ := bbd_e hF
      refine b_cS3i (d' := (d + 1)) (pc := 61) C dX12_shout_61 mm_X12_408 (Nat.le_of_ble_eq_true rfl) (by omega) (Hh.2.2 _ _ _ _ _ _ _ _ _ (lvl_eq (by omega) (e_X12_shoutOf (d + 1) x1 x2 x3 _ _ _ hc5))) ?_
      exact b_iret (pc := 64) C Rt dX12_shout_64 hF
    · rw [if_neg hc4] at hF
      refine b_iload_n (pc := 49) C dX12_shout_49 rfl 1 rfl ?_
      refine b_iload_n (pc := 50) C dX12_shout_50 rfl 3 rfl ?_
      refine b_iload_n (pc := 51) C dX12_shout_51 rfl 2 rfl ?_
      obtain ⟨v10, σ9, hc8, hF⟩ := bbd_e hF
      refine b_cS3i (d' := (d + 1)) (pc := 52) C dX12_shout_52 mm_X12_408 (Nat.le_of_ble_eq_true rfl) (by omega) (Hh.2.2 _ _ _ _ _ _ _ _ _ (lvl_eq (by omega) (e_X12_shoutOf (d + 1) x1 x3 x2 _ _ _ hc8))) ?_
      refine b_goto (tgt := 64) (pc := 55) C dX12_shout_55 rfl ?_
      exact b_iret (pc := 64) C Rt dX12_shout_64 hF
set_option maxHeartbeats 4000000 in
set_option maxRecDepth 20000 in
theorem e_X12_shout_J36 {X : bX} {l : Launch} {G : bG} {ρ : Nat → Nat} {A : Nat → Prop} {d : Nat} {r : Int32} {σ' : bSto} (C : bCX X cX12_shout RX12 (d + 2)) (Hh : bH X l G bSHf ρ A 6) (Rt : bRX X (some .int) (some (.int r)) σ') (x1 : Int32) (x2 : Int32) (x3 : Int32) (x4 : Int32) (σ : bSto) (hF : f_X12_shout_J36 x1 x2 x3 x4 σ = some (r, σ')) : bAJ X 36 [(0, .ref 92), (1, .int x1), (2, .int x2), (3, .int x3), (4, .int x4)] [] σ := by
  rw [f_X12_shout_J36] at hF
  refine b_iconst (pc := 36) C dX12_shout_36 ic_2 ?_
  refine b_istore (L' := [(5, .int (2 : Int32)), (0, .ref 92), (1, .int x1), (2, .int x2), (3, .int x3), (4, .int x4)]) (pc := 37) C dX12_shout_37 rfl (Hh.2.1 _ (Nat.le_of_ble_eq_true rfl)) rfl ?_
  exact b_sub [1, 2, 3, 4, 5, 0] rfl (e_X12_shout_J39 C Hh Rt x1 x2 x3 x4 (2 : Int32) _ hF)
set_option maxHeartbeats 4000000 in
set_option maxRecDepth 20000 in
theorem e_X12_shout_0 {X : bX} {l : Launch} {G : bG} {ρ : Nat → Nat} {A : Nat → Prop} {d : Nat} {r : Int32} {σ' : bSto} (C : bCX X cX12_shout RX12 (d + 2)) (Hh : bH X l G bSHf ρ A 6) (Rt : bRX X (some .int) (some (.int r)) σ') (x1 : Int32) (x2 : Int32) (x3 : Int32) (x4 : Int32) (σ : bSto) (hF : f_X12_shout x1 x2 x3 x4 σ = some (r, σ')) : bAJ X 0 [(0, .ref 92), (1, .int x1), (2, .int x2), (3, .int x3), (4, .int x4)] [] σ := by
  rw [f_X12_shout] at hF
  refine b_aload_n (pc := 0) C dX12_shout_0 rfl 0 rfl ?_
  obtain ⟨σ2, hc1, hF⟩ := bbv_e hF
  refine b_cV0v (d' := (d + 1)) (pc := 1) C dX12_shout_1 mm_X12_181 (Hh.1 _ _ sh_92) rfl (Nat.le_of_ble_eq_true rfl) (by omega) (Hh.2.2 _ _ _ _ _ _ _ _ _ (lvl_eq (by omega) (e_X12_good (d + 1)  _ _ hc1))) ?_
  refine b_aload_n (pc := 4) C dX12_shout_4 rfl 0 rfl ?_
  refine b_iload_n (pc := 5) C dX12_shout_5 rfl 1 rfl ?_
  obtain ⟨v5, σ4, hc3, hF⟩ := bbd_e hF
  refine b_cV1i (d' := (d + 1)) (pc := 6) C dX12_shout_6 mm_X12_405 (Hh.1 _ _ sh_92) rfl (Nat.le_of_ble_eq_true rfl) (by omega) (Hh.2.2 _ _ _ _ _ _ _ _ _ (lvl_eq (by omega) (e_X12_manyWhy (d + 0) x1 _ _ _ hc3))) ?_
  refine b_istore (L' := [(5, .int v5), (0, .ref 92), (1, .int x1), (2, .int x2), (3, .int x3), (4, .int x4)]) (pc := 9) C dX12_shout_9 rfl (Hh.2.1 _ (Nat.le_of_ble_eq_true rfl)) rfl ?_
  refine b_iload (pc := 11) C dX12_shout_11 0 rfl ?_
  refine b_if_ne (tgt := 39) (pc := 13) C dX12_shout_13 rfl (fun hc6 => ?_) (fun hc6 => ?_)
  · rw [if_neg hc6] at hF
    exact b_sub [1, 2, 3, 4, 5, 0] rfl (e_X12_shout_J39 C Hh Rt x1 x2 x3 x4 v5 _ hF)
  · rw [if_pos hc6] at hF
    refine b_iload_n (pc := 16) C dX12_shout_16 rfl 3 rfl ?_
    refine b_iconst (pc := 17) C dX12_shout_17 ic_0 ?_
    refine b_bipush (pc := 18) C dX12_shout_18 bp_6 ?_
    obtain ⟨v9, σ8, hc7, hF⟩ := bbd_e hF
    refine b_cS3i (d' := (d + 1)) (pc := 20) C dX12_shout_20 mm_X12_160 (Nat.le_of_ble_eq_true rfl) (by omega) (Hh.2.2 _ _ _ _ _ _ _ _ _ (lvl_eq (by omega) (e_X12_in (d + 1) x2 (0 : Int32) (6 : Int32) _ _ _ hc7))) ?_
    refine b_if_eq (tgt := 36) (pc := 23) C dX12_shout_23 rfl (fun hc10 => ?_) (fun hc10 => ?_)
    · rw [if_pos hc10] at hF
      exact b_sub [1, 2, 3, 4, 5] rfl (e_X12_shout_J36 C Hh Rt x1 x2 x3 x4 _ hF)
    · rw [if_neg hc10] at hF
      refine b_iload_n (pc := 26) C dX12_shout_26 rfl 4 rfl ?_
      refine b_iconst (pc := 27) C dX12_shout_27 ic_0 ?_
      refine b_bipush (pc := 28) C dX12_shout_28 bp_6 ?_
      obtain ⟨v13, σ12, hc11, hF⟩ := bbd_e hF
      refine b_cS3i (d' := (d + 1)) (pc := 30) C dX12_shout_30 mm_X12_160 (Nat.le_of_ble_eq_true rfl) (by omega) (Hh.2.2 _ _ _ _ _ _ _ _ _ (lvl_eq (by omega) (e_X12_in (d + 1) x3 (0 : Int32) (6 : Int32) _ _ _ hc11))) ?_
      refine b_if_ne (tgt := 39) (pc := 33) C dX12_shout_33 rfl (fun hc14 => ?_) (fun hc14 => ?_)
      · rw [if_neg hc14] at hF
        exact b_sub [1, 2, 3, 4, 5, 0] rfl (e_X12_shout_J39 C Hh Rt x1 x2 x3 x4 v5 _ hF)
      · rw [if_pos hc14] at hF
        exact b_sub [1, 2, 3, 4, 5] rfl (e_X12_shout_J36 C Hh Rt x1 x2 x3 x4 _ hF)
set_option maxHeartbeats 4000000 in
set_option maxRecDepth 20000 in
theorem e_X12_shout {l : Launch} {G : bG} {ρ : Nat → Nat} {A : Nat → Prop} (d : Nat) (x1 : Int32) (x2 : Int32) (x3 : Int32) (x4 : Int32) (σ : bSto) (r : Int32) (σ' : bSto) (hF : f_X12_shout x1 x2 x3 x4 σ = some (r, σ')) : bEv l G bSHf ρ A yX12_shout cX12_shout 6 (some .int) (d + 2) [.ref 92, .int x1, .int x2, .int x3, .int x4] σ (some (.int r)) σ' := b_met (d := d + 2) (by decide +kernel) (Nat.le_of_ble_eq_true rfl) rfl (fun X C Rt h1 h2 h3 => e_X12_shout_0 C ⟨fun o q h => by rw [h1]; exact h, fun i h => by rw [h2]; exact h, h3⟩ Rt _ _ _ _ _ hF)
/-! BenchColonyModel.isRest -/
def f_X12_isRest_J52_5 (k : Int32 → Int32 → Int32 → Int32 → Int32 → bSto → Option (Int32 × bSto)) (x0 : Int32) (x1 : Int32) (x2 : Int32) (x4 : Int32) (σ : bSto) : Option (Int32 × bSto) := blet (x4 + (1 : Int32)) (fun x4_1 => k x0 x1 x2 (0 : Int32) x4_1 σ)
def f_X12_isRest_L5 : Nat → Int32 → Int32 → Int32 → Int32 → Int32 → bSto → Option (Int32 × bSto)
  | 0, _, _, _, _, _, _ => none
  | n + 1, x0, x1, x2, x3, x4, σ => (if (6 : Int32) < x4 then some (x3, σ) else (if x3 = 0 then f_X12_isRest_J52_5 (f_X12_isRest_L5 n) x0 x1 x2 x4 σ else bbd (f_X12_shoutOf x0 x4 x2 σ) (fun v5 σ4 => bbd (f_X12_shoutOf x0 x1 x2 σ4) (fun v8 σ7 => (if v8 < v5 then f_X12_isRest_J52_5 (f_X12_isRest_L5 n) x0 x1 x2 x4 σ7 else bbd (f_X12_shoutOf x0 x4 x1 σ7) (fun v12 σ11 => bbd (f_X12_shoutOf x0 x2 x1 σ11) (fun v15 σ14 => (if v15 < v12 then f_X12_isRest_J52_5 (f_X12_isRest_L5 n) x0 x1 x2 x4 σ14 else blet (x4 + (1 : Int32)) (fun x4_17 => f_X12_isRest_L5 n x0 x1 x2 (1 : Int32) x4_17 σ14)))))))))
def f_X12_isRest (x0 : Int32) (x1 : Int32) (x2 : Int32) (σ : bSto) : Option (Int32 × bSto) := bl1 (f_X12_isRest_L5 bFU x0 x1 x2 (1 : Int32) (0 : Int32) σ) (fun x3_1 σ2 => if x3_1 = 0 ∨ x3_1 = 1 then some (x3_1, σ2) else none)
set_option maxHeartbeats 4000000 in
set_option maxRecDepth 20000 in
theorem e_X12_isRest_J52_5 {X : bX} {l : Launch} {G : bG} {ρ : Nat → Nat} {A : Nat → Prop} {d : Nat} {r : Int32} {σ' : bSto} (C : bCX X cX12_isRest RX12 (d + 1)) (Hh : bH X l G bSHf ρ A 5) (Rt : bRX X (some .boolean) (some (.int r)) σ') {k : Int32 → Int32 → Int32 → Int32 → Int32 → bSto → Option (Int32 × bSto)} (ih : ∀ (x0 : Int32) (x1 : Int32) (x2 : Int32) (x3 : Int32) (x4 : Int32) (σ : bSto) (q : (Int32 × bSto)), k x0 x1 x2 x3 x4 σ = some q → (∀ (x3 : Int32) (s : bSto), q = (x3, s) → bAJ X 60 [(3, .int x3)] [] s) → bAJ X 5 [(0, .int x0), (1, .int x1), (2, .int x2), (3, .int x3), (4, .int x4)] [] σ) (x0 : Int32) (x1 : Int32) (x2 : Int32) (x4 : Int32) (σ : bSto) (q : (Int32 × bSto)) (hF : f_X12_isRest_J52_5 k x0 x1 x2 x4 σ = some q) : (∀ (x3 : Int32) (s : bSto), q = (x3, s) → bAJ X 60 [(3, .int x3)] [] s) → bAJ X 52 [(0, .int x0), (1, .int x1), (2, .int x2), (4, .int x4)] [] σ := by
  intro hx
  rw [f_X12_isRest_J52_5] at hF
  refine b_iconst (pc := 52) C dX12_isRest_52 ic_0 ?_
  refine b_istore_n (L' := [(3, .int (0 : Int32)), (0, .int x0), (1, .int x1), (2, .int x2), (4, .int x4)]) (pc := 53) C dX12_isRest_53 rfl rfl (Hh.2.1 _ (Nat.le_of_ble_eq_true rfl)) rfl ?_
  obtain ⟨x4_1, e2, hF⟩ := blet_e hF
  refine b_iinc (L' := [(4, .int x4_1), (3, .int (0 : Int32)), (0, .int x0), (1, .int x1), (2, .int x2)]) (pc := 54) C dX12_isRest_54 4 rfl ic_1 e2 (Hh.2.1 _ (Nat.le_of_ble_eq_true rfl)) rfl ?_
  refine b_goto (tgt := 5) (pc := 57) C dX12_isRest_57 rfl ?_
  exact b_sub [2, 3, 4, 1, 0] rfl (ih x0 x1 x2 (0 : Int32) x4_1 _ _ hF hx)
set_option maxHeartbeats 4000000 in
set_option maxRecDepth 20000 in
theorem e_X12_isRest_L5 {X : bX} {l : Launch} {G : bG} {ρ : Nat → Nat} {A : Nat → Prop} {d : Nat} {r : Int32} {σ' : bSto} (C : bCX X cX12_isRest RX12 (d + 1)) (Hh : bH X l G bSHf ρ A 5) (Rt : bRX X (some .boolean) (some (.int r)) σ') : ∀ (n : Nat) (x0 : Int32) (x1 : Int32) (x2 : Int32) (x3 : Int32) (x4 : Int32) (σ : bSto) (q : (Int32 × bSto)), f_X12_isRest_L5 n x0 x1 x2 x3 x4 σ = some q → (∀ (x3 : Int32) (s : bSto), q = (x3, s) → bAJ X 60 [(3, .int x3)] [] s) → bAJ X 5 [(0, .int x0), (1, .int x1), (2, .int x2), (3, .int x3), (4, .int x4)] [] σ := by
  intro n
  induction n with
  | zero => intro x0 x1 x2 x3 x4 σ q hF; rw [f_X12_isRest_L5] at hF; cases hF
  | succ n ih =>
    intro x0 x1 x2 x3 x4 σ q hF hx
    rw [f_X12_isRest_L5] at hF
    refine b_iload (pc := 5) C dX12_isRest_5 4 rfl ?_
    refine b_bipush (pc := 7) C dX12_isRest_7 bp_6 ?_
    refine b_icmp_gt (tgt := 60) (pc := 9) C dX12_isRest_9 rfl (fun hc1 => ?_) (fun hc1 => ?_)
    · rw [if_pos hc1] at hF
      exact b_sub [3] rfl (hx _ _ (Option.some.inj hF).symm )
    · rw [if_neg hc1] at hF
      refine b_iload_n (pc := 12) C dX12_isRest_12 rfl 3 rfl ?_
      refine b_if_eq (tgt := 52) (pc := 13) C dX12_isRest_13 rfl (fun hc2 => ?_) (fun hc2 => ?_)
      · rw [if_pos hc2] at hF
        exact b_sub [0, 1, 2, 4] rfl (e_X12_isRest_J52_5 C Hh Rt ih x0 x1 x2 x4 _ _ hF hx)
      · rw [if_neg hc2] at hF
        refine b_iload_n (pc := 16) C dX12_isRest_16 rfl 0 rfl ?_
        refine b_iload (pc := 17) C dX12_isRest_17 4 rfl ?_
        refine b_iload_n (pc := 19) C dX12_isRest_19 rfl 2 rfl ?_
        obtain ⟨v5, σ4, hc3, hF⟩ := bbd_e hF
        refine b_cS3i (d' := (d + 0)) (pc := 20) C dX12_isRest_20 mm_X12_408 (Nat.le_of_ble_eq_true rfl) (by omega) (Hh.2.2 _ _ _ _ _ _ _ _ _ (lvl_eq (by omega) (e_X12_shoutOf (d + 0) x0 x4 x2 _ _ _ hc3))) ?_
        refine b_iload_n (pc := 23) C dX12_isRest_23 rfl 0 rfl ?_
        refine b_iload_n (pc := 24) C dX12_isRest_24 rfl 1 rfl ?_
        refine b_iload_n (pc := 25) C dX12_isRest_25 rfl 2 rfl ?_
        obtain ⟨v8, σ7, hc6, hF⟩ := bbd_e hF
        refine b_cS3i (d' := (d + 0)) (pc := 26) C dX12_isRest_26 mm_X12_408 (Nat.le_of_ble_eq_true rfl) (by omega) (Hh.2.2 _ _ _ _ _ _ _ _ _ (lvl_eq (by omega) (e_X12_shoutOf (d + 0) x0 x1 x2 _ _ _ hc6))) ?_
        refine b_icmp_gt (tgt := 52) (pc := 29) C dX12_isRest_29 rfl (fun hc9 => ?_) (fun hc9 => ?_)
        · rw [if_pos hc9] at hF
          exact b_sub [0, 1, 2, 4] rfl (e_X12_isRest_J52_5 C Hh Rt ih x0 x1 x2 x4 _ _ hF hx)
        · rw [if_neg hc9] at hF
          refine b_iload_n (pc := 32) C dX12_isRest_32 rfl 0 rfl ?_
          refine b_iload (pc := 33) C dX12_isRest_33 4 rfl ?_
          refine b_iload_n (pc := 35) C dX12_isRest_35 rfl 1 rfl ?_
          obtain ⟨v12, σ11, hc10, hF⟩ := bbd_e hF
          refine b_cS3i (d' := (d + 0)) (pc := 36) C dX12_isRest_36 mm_X12_408 (Nat.le_of_ble_eq_true rfl) (by omega) (Hh.2.2 _ _ _ _ _ _ _ _ _ (lvl_eq (by omega) (e_X12_shoutOf (d + 0) x0 x4 x1 _ _ _ hc10))) ?_
          refine b_iload_n (pc := 39) C dX12_isRest_39 rfl 0 rfl ?_
          refine b_iload_n (pc := 40) C dX12_isRest_40 rfl 2 rfl ?_
          refine b_iload_n (pc := 41) C dX12_isRest_41 rfl 1 rfl ?_
          obtain ⟨v15, σ14, hc13, hF⟩ := bbd_e hF
          refine b_cS3i (d' := (d + 0)) (pc := 42) C dX12_isRest_42 mm_X12_408 (Nat.le_of_ble_eq_true rfl) (by omega) (Hh.2.2 _ _ _ _ _ _ _ _ _ (lvl_eq (by omega) (e_X12_shoutOf (d + 0) x0 x2 x1 _ _ _ hc13))) ?_
          refine b_icmp_gt (tgt := 52) (pc := 45) C dX12_isRest_45 rfl (fun hc16 => ?_) (fun hc16 => ?_)
          · rw [if_pos hc16] at hF
            exact b_sub [0, 1, 2, 4] rfl (e_X12_isRest_J52_5 C Hh Rt ih x0 x1 x2 x4 _ _ hF hx)
          · rw [if_neg hc16] at hF
            refine b_iconst (pc := 48) C dX12_isRest_48 ic_1 ?_
            refine b_goto (tgt := 53) (pc := 49) C dX12_isRest_49 rfl ?_
            refine b_istore_n (L' := [(3, .int (1 : Int32)), (0, .int x0), (1, .int x1), (2, .int x2), (4, .int x4)]) (pc := 53) C dX12_isRest_53 rfl rfl (Hh.2.1 _ (Nat.le_of_ble_eq_true rfl)) rfl ?_
            obtain ⟨x4_17, e18, hF⟩ := blet_e hF
            refine b_iinc (L' := [(4, .int x4_17), (3, .int (1 : Int32)), (0, .int x0), (1, .int x1), (2, .int x2)]) (pc := 54) C dX12_isRest_54 4 rfl ic_1 e18 (Hh.2.1 _ (Nat.le_of_ble_eq_true rfl)) rfl ?_
            refine b_goto (tgt := 5) (pc := 57) C dX12_isRest_57 rfl ?_
            exact b_sub [2, 3, 4, 1, 0] rfl (ih x0 x1 x2 (1 : Int32) x4_17 _ _ hF hx)
set_option maxHeartbeats 4000000 in
set_option maxRecDepth 20000 in
theorem e_X12_isRest_0 {X : bX} {l : Launch} {G : bG} {ρ : Nat → Nat} {A : Nat → Prop} {d : Nat} {r : Int32} {σ' : bSto} (C : bCX X cX12_isRest RX12 (d + 1)) (Hh : bH X l G bSHf ρ A 5) (Rt : bRX X (some .boolean) (some (.int r)) σ') (x0 : Int32) (x1 : Int32) (x2 : Int32) (σ : bSto) (hF : f_X12_isRest x0 x1 x2 σ = some (r, σ')) : bAJ X 0 [(0, .int x0), (1, .int x1), (2, .int x2)] [] σ := by
  rw [f_X12_isRest] at hF
  refine b_iconst (pc := 0) C dX12_isRest_0 ic_1 ?_
  refine b_istore_n (L' := [(3, .int (1 : Int32)), (0, .int x0), (1, .int x1), (2, .int x2)]) (pc := 1) C dX12_isRest_1 rfl rfl (Hh.2.1 _ (Nat.le_of_ble_eq_true rfl)) rfl ?_
  refine b_iconst (pc := 2) C dX12_isRest_2 ic_0 ?_
  refine b_istore (L' := [(4, .int (0 : Int32)), (3, .int (1 : Int32)), (0, .int x0), (1, .int x1), (2, .int x2)]) (pc := 3) C dX12_isRest_3 rfl (Hh.2.1 _ (Nat.le_of_ble_eq_true rfl)) rfl ?_
  obtain ⟨x3_1, σ2, hq1, hF⟩ := bl1_e hF
  refine b_sub [2, 3, 4, 1, 0] rfl (e_X12_isRest_L5 C Hh Rt bFU x0 x1 x2 (1 : Int32) (0 : Int32) _ _ hq1 (fun _ _ e  => ?_))
  cases e
  refine b_iload_n (pc := 60) C dX12_isRest_60 rfl 0 rfl ?_
  obtain ⟨hz3, hF⟩ := bif_y hF
  exact b_zret (pc := 61) C Rt dX12_isRest_61 (bz_n hz3) hF
set_option maxHeartbeats 4000000 in
set_option maxRecDepth 20000 in
theorem e_X12_isRest {l : Launch} {G : bG} {ρ : Nat → Nat} {A : Nat → Prop} (d : Nat) (x0 : Int32) (x1 : Int32) (x2 : Int32) (σ : bSto) (r : Int32) (σ' : bSto) (hF : f_X12_isRest x0 x1 x2 σ = some (r, σ')) : bEv l G bSHf ρ A yX12_isRest cX12_isRest 5 (some .boolean) (d + 1) [.int x0, .int x1, .int x2] σ (some (.int r)) σ' := b_met (d := d + 1) (by decide +kernel) (Nat.le_of_ble_eq_true rfl) rfl (fun X C Rt h1 h2 h3 => e_X12_isRest_0 C ⟨fun o q h => by rw [h1]; exact h, fun i h => by rw [h2]; exact h, h3⟩ Rt _ _ _ _ hF)
/-! BenchColonyModel.seekRests -/
def f_X12_seekRests_J54_19 (k : Int32 → Int32 → Int32 → Int32 → bSto → Option (Int32 × Int32 × Int32 × bSto)) (x1 : Int32) (x2 : Int32) (x3 : Int32) (x4 : Int32) (σ : bSto) : Option (Int32 × Int32 × Int32 × bSto) := blet (x2 + (1 : Int32)) (fun x2_1 => blet (x4 + (1 : Int32)) (fun x4_3 => k x1 x2_1 x3 x4_3 σ))
def f_X12_seekRests_L19 : Nat → Int32 → Int32 → Int32 → Int32 → bSto → Option (Int32 × Int32 × Int32 × bSto)
  | 0, _, _, _, _, _ => none
  | n + 1, x1, x2, x3, x4, σ => (if (6 : Int32) < x4 then some (x1, x2, x3, σ) else bbd (f_X12_isRest x1 x3 x4 σ) (fun v4 σ3 => (if v4 = 0 then blet (x4 + (1 : Int32)) (fun x4_9 => f_X12_seekRests_L19 n x1 x2 x3 x4_9 σ3) else (if x2 = 0 then blet (bI σ3 92 33 (((10 : Int32) * x3) + x4)) (fun σ7 => f_X12_seekRests_J54_19 (f_X12_seekRests_L19 n) x1 x2 x3 x4 σ7) else f_X12_seekRests_J54_19 (f_X12_seekRests_L19 n) x1 x2 x3 x4 σ3))))
def f_X12_seekRests_L10 : Nat → Int32 → Int32 → Int32 → bSto → Option (Int32 × bSto)
  | 0, _, _, _, _ => none
  | n + 1, x1, x2, x3, σ => (if (6 : Int32) < x3 then some (x2, σ) else bl3 (f_X12_seekRests_L19 bFU x1 x2 x3 (0 : Int32) σ) (fun x1_2 x2_2 x3_2 σ3 => blet (x3_2 + (1 : Int32)) (fun x3_4 => f_X12_seekRests_L10 n x1_2 x2_2 x3_4 σ3)))
def f_X12_seekRests (x1 : Int32) (σ : bSto) : Option (Int32 × bSto) := blet (bI σ 92 33 (-2 : Int32)) (fun σ1 => bl1 (f_X12_seekRests_L10 bFU x1 (0 : Int32) (0 : Int32) σ1) (fun x2_3 σ4 => some (x2_3, σ4)))
set_option maxHeartbeats 4000000 in
set_option maxRecDepth 20000 in
theorem e_X12_seekRests_J54_19 {X : bX} {l : Launch} {G : bG} {ρ : Nat → Nat} {A : Nat → Prop} {d : Nat} {r : Int32} {σ' : bSto} (C : bCX X cX12_seekRests RX12 (d + 2)) (Hh : bH X l G bSHf ρ A 5) (Rt : bRX X (some .int) (some (.int r)) σ') {k : Int32 → Int32 → Int32 → Int32 → bSto → Option (Int32 × Int32 × Int32 × bSto)} (ih : ∀ (x1 : Int32) (x2 : Int32) (x3 : Int32) (x4 : Int32) (σ : bSto) (q : (Int32 × Int32 × Int32 × bSto)), k x1 x2 x3 x4 σ = some q → (∀ (x1 : Int32) (x2 : Int32) (x3 : Int32) (s : bSto), q = (x1, x2, x3, s) → bAJ X 63 [(0, .ref 92), (1, .int x1), (2, .int x2), (3, .int x3)] [] s) → bAJ X 19 [(0, .ref 92), (1, .int x1), (2, .int x2), (3, .int x3), (4, .int x4)] [] σ) (x1 : Int32) (x2 : Int32) (x3 : Int32) (x4 : Int32) (σ : bSto) (q : (Int32 × Int32 × Int32 × bSto)) (hF : f_X12_seekRests_J54_19 k x1 x2 x3 x4 σ = some q) : (∀ (x1 : Int32) (x2 : Int32) (x3 : Int32) (s : bSto), q = (x1, x2, x3, s) → bAJ X 63 [(0, .ref 92), (1, .int x1), (2, .int x2), (3, .int x3)] [] s) → bAJ X 54 [(0, .ref 92), (1, .int x1), (2, .int x2), (3, .int x3), (4, .int x4)] [] σ := by
  intro hx
  rw [f_X12_seekRests_J54_19] at hF
  obtain ⟨x2_1, e2, hF⟩ := blet_e hF
  refine b_iinc (L' := [(2, .int x2_1), (0, .ref 92), (1, .int x1), (3, .int x3), (4, .int x4)]) (pc := 54) C dX12_seekRests_54 2 rfl ic_1 e2 (Hh.2.1 _ (Nat.le_of_ble_eq_true rfl)) rfl ?_
  obtain ⟨x4_3, e4, hF⟩ := blet_e hF
  refine b_iinc (L' := [(4, .int x4_3), (2, .int x2_1), (0, .ref 92), (1, .int x1), (3, .int x3)]) (pc := 57) C dX12_seekRests_57 4 rfl ic_1 e4 (Hh.2.1 _ (Nat.le_of_ble_eq_true rfl)) rfl ?_
  refine b_goto (tgt := 19) (pc := 60) C dX12_seekRests_60 rfl ?_
  exact b_sub [2, 3, 1, 4, 0] rfl (ih x1 x2_1 x3 x4_3 _ _ hF hx)
set_option maxHeartbeats 4000000 in
set_option maxRecDepth 20000 in
theorem e_X12_seekRests_L19 {X : bX} {l : Launch} {G : bG} {ρ : Nat → Nat} {A : Nat → Prop} {d : Nat} {r : Int32} {σ' : bSto} (C : bCX X cX12_seekRests RX12 (d + 2)) (Hh : bH X l G bSHf ρ A 5) (Rt : bRX X (some .int) (some (.int r)) σ') : ∀ (n : Nat) (x1 : Int32) (x2 : Int32) (x3 : Int32) (x4 : Int32) (σ : bSto) (q : (Int32 × Int32 × Int32 × bSto)), f_X12_seekRests_L19 n x1 x2 x3 x4 σ = some q → (∀ (x1 : Int32) (x2 : Int32) (x3 : Int32) (s : bSto), q = (x1, x2, x3, s) → bAJ X 63 [(0, .ref 92), (1, .int x1), (2, .int x2), (3, .int x3)] [] s) → bAJ X 19 [(0, .ref 92), (1, .int x1), (2, .int x2), (3, .int x3), (4, .int x4)] [] σ := by
  intro n
  induction n with
  | zero => intro x1 x2 x3 x4 σ q hF; rw [f_X12_seekRests_L19] at hF; cases hF
  | succ n ih =>
    intro x1 x2 x3 x4 σ q hF hx
    rw [f_X12_seekRests_L19] at hF
    refine b_iload (pc := 19) C dX12_seekRests_19 4 rfl ?_
    refine b_bipush (pc := 21) C dX12_seekRests_21 bp_6 ?_
    refine b_icmp_gt (tgt := 63) (pc := 23) C dX12_seekRests_23 rfl (fun hc1 => ?_) (fun hc1 => ?_)
    · rw [if_pos hc1] at hF
      exact b_sub [0, 1, 2, 3] rfl (hx _ _ _ _ (Option.some.inj hF).symm )
    · rw [if_neg hc1] at hF
      refine b_iload_n (pc := 26) C dX12_seekRests_26 rfl 1 rfl ?_
      refine b_iload_n (pc := 27) C dX12_seekRests_27 rfl 3 rfl ?_
      refine b_iload (pc := 28) C dX12_seekRests_28 4 rfl ?_
      obtain ⟨v4, σ3, hc2, hF⟩ := bbd_e hF
      refine b_cS3i (d' := (d + 1)) (pc := 30) C dX12_seekRests_30 mm_X12_415 (Nat.le_of_ble_eq_true rfl) (by omega) (Hh.2.2 _ _ _ _ _ _ _ _ _ (lvl_eq (by omega) (e_X12_isRest (d + 0) x1 x3 x4 _ _ _ hc2))) ?_
      refine b_if_ne (tgt := 39) (pc := 33) C dX12_seekRests_33 rfl (fun hc5 => ?_) (fun hc5 => ?_)
      · rw [if_neg hc5] at hF
        refine b_iload_n (pc := 39) C dX12_seekRests_39 rfl 2 rfl ?_
        refine b_if_ne (tgt := 54) (pc := 40) C dX12_seekRests_40 rfl (fun hc6 => ?_) (fun hc6 => ?_)
        · rw [if_neg hc6] at hF
          exact b_sub [0, 1, 2, 3, 4] rfl (e_X12_seekRests_J54_19 C Hh Rt ih x1 x2 x3 x4 _ _ hF hx)
        · rw [if_pos hc6] at hF
          refine b_aload_n (pc := 43) C dX12_seekRests_43 rfl 0 rfl ?_
          refine b_bipush (pc := 44) C dX12_seekRests_44 bp_10 ?_
          refine b_iload_n (pc := 46) C dX12_seekRests_46 rfl 3 rfl ?_
          refine b_imul (pc := 47) C dX12_seekRests_47 ?_
          refine b_iload (pc := 48) C dX12_seekRests_48 4 rfl ?_
          refine b_iadd (pc := 50) C dX12_seekRests_50 ?_
          obtain ⟨σ7, e8, hF⟩ := blet_e hF
          refine b_putI (pc := 51) C dX12_seekRests_51 fp_X12_412 (Hh.1 _ _ sh_92) rfl rfl rfl e8 ?_
          exact b_sub [0, 1, 2, 3, 4] rfl (e_X12_seekRests_J54_19 C Hh Rt ih x1 x2 x3 x4 _ _ hF hx)
      · rw [if_pos hc5] at hF
        refine b_goto (tgt := 57) (pc := 36) C dX12_seekRests_36 rfl ?_
        obtain ⟨x4_9, e10, hF⟩ := blet_e hF
        refine b_iinc (L' := [(4, .int x4_9), (0, .ref 92), (1, .int x1), (2, .int x2), (3, .int x3)]) (pc := 57) C dX12_seekRests_57 4 rfl ic_1 e10 (Hh.2.1 _ (Nat.le_of_ble_eq_true rfl)) rfl ?_
        refine b_goto (tgt := 19) (pc := 60) C dX12_seekRests_60 rfl ?_
        exact b_sub [1, 2, 3, 4, 0] rfl (ih x1 x2 x3 x4_9 _ _ hF hx)
set_option maxHeartbeats 4000000 in
set_option maxRecDepth 20000 in
theorem e_X12_seekRests_L10 {X : bX} {l : Launch} {G : bG} {ρ : Nat → Nat} {A : Nat → Prop} {d : Nat} {r : Int32} {σ' : bSto} (C : bCX X cX12_seekRests RX12 (d + 2)) (Hh : bH X l G bSHf ρ A 5) (Rt : bRX X (some .int) (some (.int r)) σ') : ∀ (n : Nat) (x1 : Int32) (x2 : Int32) (x3 : Int32) (σ : bSto) (q : (Int32 × bSto)), f_X12_seekRests_L10 n x1 x2 x3 σ = some q → (∀ (x2 : Int32) (s : bSto), q = (x2, s) → bAJ X 69 [(2, .int x2)] [] s) → bAJ X 10 [(0, .ref 92), (1, .int x1), (2, .int x2), (3, .int x3)] [] σ := by
  intro n
  induction n with
  | zero => intro x1 x2 x3 σ q hF; rw [f_X12_seekRests_L10] at hF; cases hF
  | succ n ih =>
    intro x1 x2 x3 σ q hF hx
    rw [f_X12_seekRests_L10] at hF
    refine b_iload_n (pc := 10) C dX12_seekRests_10 rfl 3 rfl ?_
    refine b_bipush (pc := 11) C dX12_seekRests_11 bp_6 ?_
    refine b_icmp_gt (tgt := 69) (pc := 13) C dX12_seekRests_13 rfl (fun hc1 => ?_) (fun hc1 => ?_)
    · rw [if_pos hc1] at hF
      exact b_sub [2] rfl (hx _ _ (Option.some.inj hF).symm )
    · rw [if_neg hc1] at hF
      refine b_iconst (pc := 16) C dX12_seekRests_16 ic_0 ?_
      refine b_istore (L' := [(4, .int (0 : Int32)), (0, .ref 92), (1, .int x1), (2, .int x2), (3, .int x3)]) (pc := 17) C dX12_seekRests_17 rfl (Hh.2.1 _ (Nat.le_of_ble_eq_true rfl)) rfl ?_
      obtain ⟨x1_2, x2_2, x3_2, σ3, hq2, hF⟩ := bl3_e hF
      refine b_sub [1, 2, 3, 4, 0] rfl (e_X12_seekRests_L19 C Hh Rt bFU x1 x2 x3 (0 : Int32) _ _ hq2 (fun _ _ _ _ e  => ?_))
      cases e
      obtain ⟨x3_4, e5, hF⟩ := blet_e hF
      refine b_iinc (L' := [(3, .int x3_4), (0, .ref 92), (1, .int x1_2), (2, .int x2_2)]) (pc := 63) C dX12_seekRests_63 3 rfl ic_1 e5 (Hh.2.1 _ (Nat.le_of_ble_eq_true rfl)) rfl ?_
      refine b_goto (tgt := 10) (pc := 66) C dX12_seekRests_66 rfl ?_
      exact b_sub [1, 2, 3, 0] rfl (ih x1_2 x2_2 x3_4 _ _ hF hx)
set_option maxHeartbeats 4000000 in
set_option maxRecDepth 20000 in
theorem e_X12_seekRests_0 {X : bX} {l : Launch} {G : bG} {ρ : Nat → Nat} {A : Nat → Prop} {d : Nat} {r : Int32} {σ' : bSto} (C : bCX X cX12_seekRests RX12 (d + 2)) (Hh : bH X l G bSHf ρ A 5) (Rt : bRX X (some .int) (some (.int r)) σ') (x1 : Int32) (σ : bSto) (hF : f_X12_seekRests x1 σ = some (r, σ')) : bAJ X 0 [(0, .ref 92), (1, .int x1)] [] σ := by
  rw [f_X12_seekRests] at hF
  refine b_iconst (pc := 0) C dX12_seekRests_0 ic_0 ?_
  refine b_istore_n (L' := [(2, .int (0 : Int32)), (0, .ref 92), (1, .int x1)]) (pc := 1) C dX12_seekRests_1 rfl rfl (Hh.2.1 _ (Nat.le_of_ble_eq_true rfl)) rfl ?_
  refine b_aload_n (pc := 2) C dX12_seekRests_2 rfl 1 rfl ?_
  refine b_bipush (pc := 3) C dX12_seekRests_3 bp_m2 ?_
  obtain ⟨σ1, e2, hF⟩ := blet_e hF
  refine b_putI (pc := 5) C dX12_seekRests_5 fp_X12_412 (Hh.1 _ _ sh_92) rfl rfl rfl e2 ?_
  refine b_iconst (pc := 8) C dX12_seekRests_8 ic_0 ?_
  refine b_istore_n (L' := [(3, .int (0 : Int32)), (2, .int (0 : Int32)), (0, .ref 92), (1, .int x1)]) (pc := 9) C dX12_seekRests_9 rfl rfl (Hh.2.1 _ (Nat.le_of_ble_eq_true rfl)) rfl ?_
  obtain ⟨x2_3, σ4, hq3, hF⟩ := bl1_e hF
  refine b_sub [2, 3, 1, 0] rfl (e_X12_seekRests_L10 C Hh Rt bFU x1 (0 : Int32) (0 : Int32) _ _ hq3 (fun _ _ e  => ?_))
  cases e
  refine b_iload_n (pc := 69) C dX12_seekRests_69 rfl 0 rfl ?_
  exact b_iret (pc := 70) C Rt dX12_seekRests_70 hF
set_option maxHeartbeats 4000000 in
set_option maxRecDepth 20000 in
theorem e_X12_seekRests {l : Launch} {G : bG} {ρ : Nat → Nat} {A : Nat → Prop} (d : Nat) (x1 : Int32) (σ : bSto) (r : Int32) (σ' : bSto) (hF : f_X12_seekRests x1 σ = some (r, σ')) : bEv l G bSHf ρ A yX12_seekRests cX12_seekRests 5 (some .int) (d + 2) [.ref 92, .int x1] σ (some (.int r)) σ' := b_met (d := d + 2) (by decide +kernel) (Nat.le_of_ble_eq_true rfl) rfl (fun X C Rt h1 h2 h3 => e_X12_seekRests_0 C ⟨fun o q h => by rw [h1]; exact h, fun i h => by rw [h2]; exact h, h3⟩ Rt _ _ hF)
/-! BenchColonyModel.rests -/
def f_X12_rests (x1 : Int32) (σ : bSto) : Option (Int32 × bSto) := bbv (f_X12_good  σ) (fun σ2 => bbd (f_X12_manyWhy x1 σ2) (fun v5 σ4 => (if v5 = 0 then bbd (f_X12_seekRests x1 σ4) (fun v9 σ8 => some (v9, σ8)) else bbd (f_X12_no v5 σ4) (fun v12 σ11 => some (v12, σ11)))))
set_option maxHeartbeats 4000000 in
set_option maxRecDepth 20000 in
theorem e_X12_rests_0 {X : bX} {l : Launch} {G : bG} {ρ : Nat → Nat} {A : Nat → Prop} {d : Nat} {r : Int32} {σ' : bSto} (C : bCX X cX12_rests RX12 (d + 3)) (Hh : bH X l G bSHf ρ A 3) (Rt : bRX X (some .int) (some (.int r)) σ') (x1 : Int32) (σ : bSto) (hF : f_X12_rests x1 σ = some (r, σ')) : bAJ X 0 [(0, .ref 92), (1, .int x1)] [] σ := by
  rw [f_X12_rests] at hF
  refine b_aload_n (pc := 0) C dX12_rests_0 rfl 0 rfl ?_
  obtain ⟨σ2, hc1, hF⟩ := bbv_e hF
  refine b_cV0v (d' := (d + 2)) (pc := 1) C dX12_rests_1 mm_X12_181 (Hh.1 _ _ sh_92) rfl (Nat.le_of_ble_eq_true rfl) (by omega) (Hh.2.2 _ _ _ _ _ _ _ _ _ (lvl_eq (by omega) (e_X12_good (d + 2)  _ _ hc1))) ?_
  refine b_aload_n (pc := 4) C dX12_rests_4 rfl 0 rfl ?_
  refine b_iload_n (pc := 5) C dX12_rests_5 rfl 1 rfl ?_
  obtain ⟨v5, σ4, hc3, hF⟩ := bbd_e hF
  refine b_cV1i (d' := (d + 2)) (pc := 6) C dX12_rests_6 mm_X12_405 (Hh.1 _ _ sh_92) rfl (Nat.le_of_ble_eq_true rfl) (by omega) (Hh.2.2 _ _ _ _ _ _ _ _ _ (lvl_eq (by omega) (e_X12_manyWhy (d + 1) x1 _ _ _ hc3))) ?_
  refine b_istore_n (L' := [(2, .int v5), (0, .ref 92), (1, .int x1)]) (pc := 9) C dX12_rests_9 rfl rfl (Hh.2.1 _ (Nat.le_of_ble_eq_true rfl)) rfl ?_
  refine b_iload_n (pc := 10) C dX12_rests_10 rfl 0 rfl ?_
  refine b_if_eq (tgt := 22) (pc := 11) C dX12_rests_11 rfl (fun hc6 => ?_) (fun hc6 => ?_)
  · rw [if_pos hc6] at hF
    refine b_aload_n (pc := 22) C dX12_rests_22 rfl 1 rfl ?_
    refine b_iload_n (pc := 23) C dX12_rests_23 rfl 2 rfl ?_
    obtain ⟨v9, σ8, hc7, hF⟩ := bbd_e hF
    refine b_cV1i (d' := (d + 2)) (pc := 24) C dX12_rests_24 mm_X12_418 (Hh.1 _ _ sh_92) rfl (Nat.le_of_ble_eq_true rfl) (by omega) (Hh.2.2 _ _ _ _ _ _ _ _ _ (lvl_eq (by omega) (e_X12_seekRests (d + 0) x1 _ _ _ hc7))) ?_
    exact b_iret (pc := 27) C Rt dX12_rests_27 hF
  · rw [if_neg hc6] at hF
    refine b_aload_n (pc := 14) C dX12_rests_14 rfl 1 rfl ?_
    refine b_iload_n (pc := 15) C dX12_rests_15 rfl 0 rfl ?_
    obtain ⟨v12, σ11, hc10, hF⟩ := bbd_e hF
    refine b_cV1i (d' := (d + 2)) (pc := 16) C dX12_rests_16 mm_X12_184 (Hh.1 _ _ sh_92) rfl (Nat.le_of_ble_eq_true rfl) (by omega) (Hh.2.2 _ _ _ _ _ _ _ _ _ (lvl_eq (by omega) (e_X12_no (d + 2) v5 _ _ _ hc10))) ?_
    refine b_goto (tgt := 27) (pc := 19) C dX12_rests_19 rfl ?_
    exact b_iret (pc := 27) C Rt dX12_rests_27 hF
set_option maxHeartbeats 4000000 in
set_option maxRecDepth 20000 in
theorem e_X12_rests {l : Launch} {G : bG} {ρ : Nat → Nat} {A : Nat → Prop} (d : Nat) (x1 : Int32) (σ : bSto) (r : Int32) (σ' : bSto) (hF : f_X12_rests x1 σ = some (r, σ')) : bEv l G bSHf ρ A yX12_rests cX12_rests 3 (some .int) (d + 3) [.ref 92, .int x1] σ (some (.int r)) σ' := b_met (d := d + 3) (by decide +kernel) (Nat.le_of_ble_eq_true rfl) rfl (fun X C Rt h1 h2 h3 => e_X12_rests_0 C ⟨fun o q h => by rw [h1]; exact h, fun i h => by rw [h2]; exact h, h3⟩ Rt _ _ hF)
/-! BenchColonyModel.rest -/
def f_X12_rest (x1 : Int32) (σ : bSto) : Option (Int32 × bSto) := bbv (f_X12_good  σ) (fun σ2 => bbd (f_X12_manyWhy x1 σ2) (fun v5 σ4 => (if v5 = 0 then bbd (f_X12_seekRests x1 σ4) (fun v9 σ8 => some ((σ8.1 92 33), σ8)) else bbd (f_X12_no v5 σ4) (fun v12 σ11 => some (v12, σ11)))))
set_option maxHeartbeats 4000000 in
set_option maxRecDepth 20000 in
theorem e_X12_rest_0 {X : bX} {l : Launch} {G : bG} {ρ : Nat → Nat} {A : Nat → Prop} {d : Nat} {r : Int32} {σ' : bSto} (C : bCX X cX12_rest RX12 (d + 3)) (Hh : bH X l G bSHf ρ A 3) (Rt : bRX X (some .int) (some (.int r)) σ') (x1 : Int32) (σ : bSto) (hF : f_X12_rest x1 σ = some (r, σ')) : bAJ X 0 [(0, .ref 92), (1, .int x1)] [] σ := by
  rw [f_X12_rest] at hF
  refine b_aload_n (pc := 0) C dX12_rest_0 rfl 0 rfl ?_
  obtain ⟨σ2, hc1, hF⟩ := bbv_e hF
  refine b_cV0v (d' := (d + 2)) (pc := 1) C dX12_rest_1 mm_X12_181 (Hh.1 _ _ sh_92) rfl (Nat.le_of_ble_eq_true rfl) (by omega) (Hh.2.2 _ _ _ _ _ _ _ _ _ (lvl_eq (by omega) (e_X12_good (d + 2)  _ _ hc1))) ?_
  refine b_aload_n (pc := 4) C dX12_rest_4 rfl 0 rfl ?_
  refine b_iload_n (pc := 5) C dX12_rest_5 rfl 1 rfl ?_
  obtain ⟨v5, σ4, hc3, hF⟩ := bbd_e hF
  refine b_cV1i (d' := (d + 2)) (pc := 6) C dX12_rest_6 mm_X12_405 (Hh.1 _ _ sh_92) rfl (Nat.le_of_ble_eq_true rfl) (by omega) (Hh.2.2 _ _ _ _ _ _ _ _ _ (lvl_eq (by omega) (e_X12_manyWhy (d + 1) x1 _ _ _ hc3))) ?_
  refine b_istore_n (L' := [(2, .int v5), (0, .ref 92), (1, .int x1)]) (pc := 9) C dX12_rest_9 rfl rfl (Hh.2.1 _ (Nat.le_of_ble_eq_true rfl)) rfl ?_
  refine b_iload_n (pc := 10) C dX12_rest_10 rfl 0 rfl ?_
  refine b_if_eq (tgt := 20) (pc := 11) C dX12_rest_11 rfl (fun hc6 => ?_) (fun hc6 => ?_)
  · rw [if_pos hc6] at hF
    refine b_aload_n (pc := 20) C dX12_rest_20 rfl 1 rfl ?_
    refine b_iload_n (pc := 21) C dX12_rest_21 rfl 2 rfl ?_
    obtain ⟨v9, σ8, hc7, hF⟩ := bbd_e hF
    refine b_cV1i (d' := (d + 2)) (pc := 22) C dX12_rest_22 mm_X12_418 (Hh.1 _ _ sh_92) rfl (Nat.le_of_ble_eq_true rfl) (by omega) (Hh.2.2 _ _ _ _ _ _ _ _ _ (lvl_eq (by omega) (e_X12_seekRests (d + 0) x1 _ _ _ hc7))) ?_
    refine b_pop (pc := 25) C dX12_rest_25 rfl ?_
    refine b_aload_n (pc := 26) C dX12_rest_26 rfl 1 rfl ?_
    refine b_getI (pc := 27) C dX12_rest_27 fl_X12_412 (Hh.1 _ _ sh_92) rfl ?_
    exact b_iret (pc := 30) C Rt dX12_rest_30 hF
  · rw [if_neg hc6] at hF
    refine b_aload_n (pc := 14) C dX12_rest_14 rfl 1 rfl ?_
    refine b_iload_n (pc := 15) C dX12_rest_15 rfl 0 rfl ?_
    obtain ⟨v12, σ11, hc10, hF⟩ := bbd_e hF
    refine b_cV1i (d' := (d + 2)) (pc := 16) C dX12_rest_16 mm_X12_184 (Hh.1 _ _ sh_92) rfl (Nat.le_of_ble_eq_true rfl) (by omega) (Hh.2.2 _ _ _ _ _ _ _ _ _ (lvl_eq (by omega) (e_X12_no (d + 2) v5 _ _ _ hc10))) ?_
    exact b_iret (pc := 19) C Rt dX12_rest_19 hF
set_option maxHeartbeats 4000000 in
set_option maxRecDepth 20000 in
theorem e_X12_rest {l : Launch} {G : bG} {ρ : Nat → Nat} {A : Nat → Prop} (d : Nat) (x1 : Int32) (σ : bSto) (r : Int32) (σ' : bSto) (hF : f_X12_rest x1 σ = some (r, σ')) : bEv l G bSHf ρ A yX12_rest cX12_rest 3 (some .int) (d + 3) [.ref 92, .int x1] σ (some (.int r)) σ' := b_met (d := d + 3) (by decide +kernel) (Nat.le_of_ble_eq_true rfl) rfl (fun X C Rt h1 h2 h3 => e_X12_rest_0 C ⟨fun o q h => by rw [h1]; exact h, fun i h => by rw [h2]; exact h, h3⟩ Rt _ _ hF)
/-! BenchColonyModel.yearsWhy -/
def f_X12_yearsWhy_L47 : Nat → Int32 → Int32 → Int32 → bSto → Option (Int32 × Int32 × bSto)
  | 0, _, _, _, _ => none
  | n + 1, x2, x3, x4, σ => (if (7 : Int32) ≤ x4 then some (x2, x3, σ) else if x4 < 0 ∨ 7 ≤ x4.toNatClampNeg then none else blet (bI σ 109 x4.toNatClampNeg (0 : Int32)) (fun σ2 => blet (x4 + (1 : Int32)) (fun x4_5 => f_X12_yearsWhy_L47 n x2 x3 x4_5 σ2)))
def f_X12_yearsWhy_J219_176 (k : Int32 → Int32 → Int32 → Int32 → bSto → Option (Int32 × Int32 × Int32 × bSto)) (x3 : Int32) (x4 : Int32) (x5 : Int32) (x8 : Int32) (s1 : Int32) (s2 : Int32) (s3 : Int32) (σ : bSto) : Option (Int32 × Int32 × Int32 × bSto) := if s1 < 0 ∨ 7 ≤ s1.toNatClampNeg then none else blet (bI σ 109 s1.toNatClampNeg (s2 + s3)) (fun σ1 => blet (x8 + (1 : Int32)) (fun x8_4 => k x3 x4 x5 x8_4 σ1))
def f_X12_yearsWhy_L176 : Nat → Int32 → Int32 → Int32 → Int32 → bSto → Option (Int32 × Int32 × Int32 × bSto)
  | 0, _, _, _, _, _ => none
  | n + 1, x3, x4, x5, x8, σ => (if (σ.1 95 4) ≤ x8 then some (x3, x4, x5, σ) else if x8 < 0 ∨ 7 ≤ x8.toNatClampNeg then none else bbd (f_X12_isContent 108 x8 (σ.1 95 2) σ) (fun v5 σ4 => (if v5 = 0 then f_X12_yearsWhy_J219_176 (f_X12_yearsWhy_L176 n) x3 x4 x5 x8 x8 (σ.1 109 x8.toNatClampNeg) (0 : Int32) σ4 else f_X12_yearsWhy_J219_176 (f_X12_yearsWhy_L176 n) x3 x4 x5 x8 x8 (σ.1 109 x8.toNatClampNeg) (1 : Int32) σ4)))
def f_X12_yearsWhy_J173_74 (k : Int32 → Int32 → Int32 → bSto → Option (bSto)) (x3 : Int32) (x4 : Int32) (x5 : Int32) (σ : bSto) : Option (bSto) := bl3 (f_X12_yearsWhy_L176 bFU x3 x4 x5 (0 : Int32) σ) (fun x3_1 x4_1 x5_1 σ2 => blet (x5_1 + (1 : Int32)) (fun x5_3 => k x3_1 x4_1 x5_3 σ2))
def f_X12_yearsWhy_L74 : Nat → Int32 → Int32 → Int32 → bSto → Option (bSto)
  | 0, _, _, _, _ => none
  | n + 1, x3, x4, x5, σ => (if x3 ≤ x5 then some σ else blet ((((75 : Int32) * x4) + (74 : Int32)) - (((75 : Int32) * x4) + (74 : Int32)) / (65537 : Int32) * (65537 : Int32)) (fun x4_2 => if (σ.1 95 4) = 0 then none else blet (x4_2 - x4_2 / (σ.1 95 4) * (σ.1 95 4)) (fun x6_5 => blet ((((75 : Int32) * x4_2) + (74 : Int32)) - (((75 : Int32) * x4_2) + (74 : Int32)) / (65537 : Int32) * (65537 : Int32)) (fun x4_7 => if (σ.1 95 3) = 0 then none else blet (x4_7 - x4_7 / (σ.1 95 3) * (σ.1 95 3)) (fun x7_10 => if x6_5 < 0 ∨ 7 ≤ x6_5.toNatClampNeg then none else blet (bI σ 108 x6_5.toNatClampNeg (0 : Int32)) (fun σ12 => bbd (f_X12_mayOn x6_5 x7_10 σ12) (fun v17 σ16 => (if v17 = 0 then f_X12_yearsWhy_J173_74 (f_X12_yearsWhy_L74 n) x3 x4_7 x5 σ16 else bbd (f_X12_isFree 108 x7_10 σ16) (fun v21 σ20 => (if v21 = 0 then f_X12_yearsWhy_J173_74 (f_X12_yearsWhy_L74 n) x3 x4_7 x5 σ20 else if x6_5 < 0 ∨ 7 ≤ x6_5.toNatClampNeg then none else blet (bI σ20 108 x6_5.toNatClampNeg (x7_10 + (1 : Int32))) (fun σ23 => f_X12_yearsWhy_J173_74 (f_X12_yearsWhy_L74 n) x3 x4_7 x5 σ23)))))))))))
def f_X12_yearsWhy (x1 : Int32) (x2 : Int32) (x3 : Int32) (σ : bSto) : Option (Int32 × bSto) := (if x1 = 0 then some ((1 : Int32), σ) else bbd (f_X12_in x2 (0 : Int32) (65536 : Int32) σ) (fun v4 σ3 => (if v4 = 0 then some ((2 : Int32), σ3) else bbd (f_X12_in x3 (0 : Int32) (90 : Int32) σ3) (fun v8 σ7 => (if v8 = 0 then some ((2 : Int32), σ7) else bbv (f_X12_copy 97 (0 : Int32) 108 (0 : Int32) (7 : Int32) σ7) (fun σ11 => bl2 (f_X12_yearsWhy_L47 bFU x2 x3 (0 : Int32) σ11) (fun x2_12 x3_12 σ13 => bl0 (f_X12_yearsWhy_L74 bFU x3_12 x2_12 (0 : Int32) σ13) (fun σ15 => some ((0 : Int32), σ15)))))))))
set_option maxHeartbeats 4000000 in
set_option maxRecDepth 20000 in
theorem e_X12_yearsWhy_L47 {X : bX} {l : Launch} {G : bG} {ρ : Nat → Nat} {A : Nat → Prop} {d : Nat} {r : Int32} {σ' : bSto} (C : bCX X cX12_yearsWhy RX12 (d + 3)) (Hh : bH X l G bSHf ρ A 9) (Rt : bRX X (some .int) (some (.int r)) σ') : ∀ (n : Nat) (x2 : Int32) (x3 : Int32) (x4 : Int32) (σ : bSto) (q : (Int32 × Int32 × bSto)), f_X12_yearsWhy_L47 n x2 x3 x4 σ = some q → (∀ (x2 : Int32) (x3 : Int32) (s : bSto), q = (x2, x3, s) → bAJ X 68 [(0, .ref 92), (2, .int x2), (3, .int x3)] [] s) → bAJ X 47 [(0, .ref 92), (2, .int x2), (3, .int x3), (4, .int x4)] [] σ := by
  intro n
  induction n with
  | zero => intro x2 x3 x4 σ q hF; rw [f_X12_yearsWhy_L47] at hF; cases hF
  | succ n ih =>
    intro x2 x3 x4 σ q hF hx
    rw [f_X12_yearsWhy_L47] at hF
    refine b_iload (pc := 47) C dX12_yearsWhy_47 3 rfl ?_
    refine b_bipush (pc := 49) C dX12_yearsWhy_49 bp_7 ?_
    refine b_icmp_ge (tgt := 68) (pc := 51) C dX12_yearsWhy_51 rfl (fun hc1 => ?_) (fun hc1 => ?_)
    · rw [if_pos hc1] at hF
      exact b_sub [0, 1, 2] rfl (hx _ _ _ (Option.some.inj hF).symm )
    · rw [if_neg hc1] at hF
      refine b_aload_n (pc := 54) C dX12_yearsWhy_54 rfl 0 rfl ?_
      refine b_getS (pc := 55) C dX12_yearsWhy_55 fl_X12_62 (Hh.1 _ _ sh_92) rfl ?_
      refine b_iload (pc := 58) C dX12_yearsWhy_58 3 rfl ?_
      refine b_iconst (pc := 60) C dX12_yearsWhy_60 ic_0 ?_
      obtain ⟨hb4, hF⟩ := bif_n hF
      obtain ⟨σ2, e3, hF⟩ := blet_e hF
      refine b_iast (pc := 61) C dX12_yearsWhy_61 (Hh.1 _ _ sh_109) hb4 e3 ?_
      obtain ⟨x4_5, e6, hF⟩ := blet_e hF
      refine b_iinc (L' := [(4, .int x4_5), (0, .ref 92), (2, .int x2), (3, .int x3)]) (pc := 62) C dX12_yearsWhy_62 3 rfl ic_1 e6 (Hh.2.1 _ (Nat.le_of_ble_eq_true rfl)) rfl ?_
      refine b_goto (tgt := 47) (pc := 65) C dX12_yearsWhy_65 rfl ?_
      exact b_sub [1, 2, 3, 0] rfl (ih x2 x3 x4_5 _ _ hF hx)
set_option maxHeartbeats 4000000 in
set_option maxRecDepth 20000 in
theorem e_X12_yearsWhy_J219_176 {X : bX} {l : Launch} {G : bG} {ρ : Nat → Nat} {A : Nat → Prop} {d : Nat} {r : Int32} {σ' : bSto} (C : bCX X cX12_yearsWhy RX12 (d + 3)) (Hh : bH X l G bSHf ρ A 9) (Rt : bRX X (some .int) (some (.int r)) σ') {k : Int32 → Int32 → Int32 → Int32 → bSto → Option (Int32 × Int32 × Int32 × bSto)} (ih : ∀ (x3 : Int32) (x4 : Int32) (x5 : Int32) (x8 : Int32) (σ : bSto) (q : (Int32 × Int32 × Int32 × bSto)), k x3 x4 x5 x8 σ = some q → (∀ (x3 : Int32) (x4 : Int32) (x5 : Int32) (s : bSto), q = (x3, x4, x5, s) → bAJ X 227 [(0, .ref 92), (3, .int x3), (4, .int x4), (5, .int x5)] [] s) → bAJ X 176 [(0, .ref 92), (3, .int x3), (4, .int x4), (5, .int x5), (8, .int x8)] [] σ) (x3 : Int32) (x4 : Int32) (x5 : Int32) (x8 : Int32) (s1 : Int32) (s2 : Int32) (s3 : Int32) (σ : bSto) (q : (Int32 × Int32 × Int32 × bSto)) (hF : f_X12_yearsWhy_J219_176 k x3 x4 x5 x8 s1 s2 s3 σ = some q) : (∀ (x3 : Int32) (x4 : Int32) (x5 : Int32) (s : bSto), q = (x3, x4, x5, s) → bAJ X 227 [(0, .ref 92), (3, .int x3), (4, .int x4), (5, .int x5)] [] s) → bAJ X 219 [(0, .ref 92), (3, .int x3), (4, .int x4), (5, .int x5), (8, .int x8)] [.int s3, .int s2, .int s1, .ref 109] σ := by
  intro hx
  rw [f_X12_yearsWhy_J219_176] at hF
  refine b_iadd (pc := 219) C dX12_yearsWhy_219 ?_
  obtain ⟨hb3, hF⟩ := bif_n hF
  obtain ⟨σ1, e2, hF⟩ := blet_e hF
  refine b_iast (pc := 220) C dX12_yearsWhy_220 (Hh.1 _ _ sh_109) hb3 e2 ?_
  obtain ⟨x8_4, e5, hF⟩ := blet_e hF
  refine b_iinc (L' := [(8, .int x8_4), (0, .ref 92), (3, .int x3), (4, .int x4), (5, .int x5)]) (pc := 221) C dX12_yearsWhy_221 4 rfl ic_1 e5 (Hh.2.1 _ (Nat.le_of_ble_eq_true rfl)) rfl ?_
  refine b_goto (tgt := 176) (pc := 224) C dX12_yearsWhy_224 rfl ?_
  exact b_sub [1, 2, 3, 4, 0] rfl (ih x3 x4 x5 x8_4 _ _ hF hx)
set_option maxHeartbeats 4000000 in
set_option maxRecDepth 20000 in
theorem e_X12_yearsWhy_L176 {X : bX} {l : Launch} {G : bG} {ρ : Nat → Nat} {A : Nat → Prop} {d : Nat} {r : Int32} {σ' : bSto} (C : bCX X cX12_yearsWhy RX12 (d + 3)) (Hh : bH X l G bSHf ρ A 9) (Rt : bRX X (some .int) (some (.int r)) σ') : ∀ (n : Nat) (x3 : Int32) (x4 : Int32) (x5 : Int32) (x8 : Int32) (σ : bSto) (q : (Int32 × Int32 × Int32 × bSto)), f_X12_yearsWhy_L176 n x3 x4 x5 x8 σ = some q → (∀ (x3 : Int32) (x4 : Int32) (x5 : Int32) (s : bSto), q = (x3, x4, x5, s) → bAJ X 227 [(0, .ref 92), (3, .int x3), (4, .int x4), (5, .int x5)] [] s) → bAJ X 176 [(0, .ref 92), (3, .int x3), (4, .int x4), (5, .int x5), (8, .int x8)] [] σ := by
  intro n
  induction n with
  | zero => intro x3 x4 x5 x8 σ q hF; rw [f_X12_yearsWhy_L176] at hF; cases hF
  | succ n ih =>
    intro x3 x4 x5 x8 σ q hF hx
    rw [f_X12_yearsWhy_L176] at hF
    refine b_iload (pc := 176) C dX12_yearsWhy_176 4 rfl ?_
    refine b_aload_n (pc := 178) C dX12_yearsWhy_178 rfl 0 rfl ?_
    refine b_getS (pc := 179) C dX12_yearsWhy_179 fl_X12_20 (Hh.1 _ _ sh_92) rfl ?_
    refine b_iconst (pc := 182) C dX12_yearsWhy_182 ic_4 ?_
    refine b_ialdK (pc := 183) C dX12_yearsWhy_183 (Hh.1 _ _ sh_95) tn_4 (by decide) ?_
    refine b_icmp_ge (tgt := 227) (pc := 184) C dX12_yearsWhy_184 rfl (fun hc1 => ?_) (fun hc1 => ?_)
    · rw [if_pos hc1] at hF
      exact b_sub [0, 1, 2, 3] rfl (hx _ _ _ _ (Option.some.inj hF).symm )
    · rw [if_neg hc1] at hF
      refine b_aload_n (pc := 187) C dX12_yearsWhy_187 rfl 0 rfl ?_
      refine b_getS (pc := 188) C dX12_yearsWhy_188 fl_X12_62 (Hh.1 _ _ sh_92) rfl ?_
      refine b_iload (pc := 191) C dX12_yearsWhy_191 4 rfl ?_
      refine b_dup2 (pc := 193) C dX12_yearsWhy_193 rfl rfl ?_
      obtain ⟨hb2, hF⟩ := bif_n hF
      refine b_iald (pc := 194) C dX12_yearsWhy_194 (Hh.1 _ _ sh_109) hb2 ?_
      refine b_aload_n (pc := 195) C dX12_yearsWhy_195 rfl 0 rfl ?_
      refine b_aload_n (pc := 196) C dX12_yearsWhy_196 rfl 0 rfl ?_
      refine b_getS (pc := 197) C dX12_yearsWhy_197 fl_X12_59 (Hh.1 _ _ sh_92) rfl ?_
      refine b_iload (pc := 200) C dX12_yearsWhy_200 4 rfl ?_
      refine b_aload_n (pc := 202) C dX12_yearsWhy_202 rfl 0 rfl ?_
      refine b_getS (pc := 203) C dX12_yearsWhy_203 fl_X12_20 (Hh.1 _ _ sh_92) rfl ?_
      refine b_iconst (pc := 206) C dX12_yearsWhy_206 ic_2 ?_
      refine b_ialdK (pc := 207) C dX12_yearsWhy_207 (Hh.1 _ _ sh_95) tn_2 (by decide) ?_
      obtain ⟨v5, σ4, hc3, hF⟩ := bbd_e hF
      refine b_cV3i (d' := (d + 2)) (pc := 208) C dX12_yearsWhy_208 mm_X12_308 (Hh.1 _ _ sh_92) rfl (Nat.le_of_ble_eq_true rfl) (by omega) (Hh.2.2 _ _ _ _ _ _ _ _ _ (lvl_eq (by omega) (e_X12_isContent (d + 0) _ (show kIA 108 from sh_108) x8 (σ.1 95 2) _ _ _ hc3))) ?_
      refine b_if_eq (tgt := 218) (pc := 211) C dX12_yearsWhy_211 rfl (fun hc6 => ?_) (fun hc6 => ?_)
      · rw [if_pos hc6] at hF
        refine b_iconst (pc := 218) C dX12_yearsWhy_218 ic_0 ?_
        exact b_sub [0, 1, 2, 3, 4] rfl (e_X12_yearsWhy_J219_176 C Hh Rt ih x3 x4 x5 x8 x8 (σ.1 109 x8.toNatClampNeg) (0 : Int32) _ _ hF hx)
      · rw [if_neg hc6] at hF
        refine b_iconst (pc := 214) C dX12_yearsWhy_214 ic_1 ?_
        refine b_goto (tgt := 219) (pc := 215) C dX12_yearsWhy_215 rfl ?_
        exact b_sub [0, 1, 2, 3, 4] rfl (e_X12_yearsWhy_J219_176 C Hh Rt ih x3 x4 x5 x8 x8 (σ.1 109 x8.toNatClampNeg) (1 : Int32) _ _ hF hx)
set_option maxHeartbeats 4000000 in
set_option maxRecDepth 20000 in
theorem e_X12_yearsWhy_J173_74 {X : bX} {l : Launch} {G : bG} {ρ : Nat → Nat} {A : Nat → Prop} {d : Nat} {r : Int32} {σ' : bSto} (C : bCX X cX12_yearsWhy RX12 (d + 3)) (Hh : bH X l G bSHf ρ A 9) (Rt : bRX X (some .int) (some (.int r)) σ') {k : Int32 → Int32 → Int32 → bSto → Option (bSto)} (ih : ∀ (x3 : Int32) (x4 : Int32) (x5 : Int32) (σ : bSto) (q : (bSto)), k x3 x4 x5 σ = some q → (∀  (s : bSto), q = s → bAJ X 233 [] [] s) → bAJ X 74 [(0, .ref 92), (3, .int x3), (4, .int x4), (5, .int x5)] [] σ) (x3 : Int32) (x4 : Int32) (x5 : Int32) (σ : bSto) (q : (bSto)) (hF : f_X12_yearsWhy_J173_74 k x3 x4 x5 σ = some q) : (∀  (s : bSto), q = s → bAJ X 233 [] [] s) → bAJ X 173 [(0, .ref 92), (3, .int x3), (4, .int x4), (5, .int x5)] [] σ := by
  intro hx
  rw [f_X12_yearsWhy_J173_74] at hF
  refine b_iconst (pc := 173) C dX12_yearsWhy_173 ic_0 ?_
  refine b_istore (L' := [(8, .int (0 : Int32)), (0, .ref 92), (3, .int x3), (4, .int x4), (5, .int x5)]) (pc := 174) C dX12_yearsWhy_174 rfl (Hh.2.1 _ (Nat.le_of_ble_eq_true rfl)) rfl ?_
  obtain ⟨x3_1, x4_1, x5_1, σ2, hq1, hF⟩ := bl3_e hF
  refine b_sub [1, 2, 3, 4, 0] rfl (e_X12_yearsWhy_L176 C Hh Rt bFU x3 x4 x5 (0 : Int32) _ _ hq1 (fun _ _ _ _ e  => ?_))
  cases e
  obtain ⟨x5_3, e4, hF⟩ := blet_e hF
  refine b_iinc (L' := [(5, .int x5_3), (0, .ref 92), (3, .int x3_1), (4, .int x4_1)]) (pc := 227) C dX12_yearsWhy_227 3 rfl ic_1 e4 (Hh.2.1 _ (Nat.le_of_ble_eq_true rfl)) rfl ?_
  refine b_goto (tgt := 74) (pc := 230) C dX12_yearsWhy_230 rfl ?_
  exact b_sub [1, 2, 3, 0] rfl (ih x3_1 x4_1 x5_3 _ _ hF hx)
set_option maxHeartbeats 4000000 in
set_option maxRecDepth 20000 in
theorem e_X12_yearsWhy_L74 {X : bX} {l : Launch} {G : bG} {ρ : Nat → Nat} {A : Nat → Prop} {d : Nat} {r : Int32} {σ' : bSto} (C : bCX X cX12_yearsWhy RX12 (d + 3)) (Hh : bH X l G bSHf ρ A 9) (Rt : bRX X (some .int) (some (.int r)) σ') : ∀ (n : Nat) (x3 : Int32) (x4 : Int32) (x5 : Int32) (σ : bSto) (q : (bSto)), f_X12_yearsWhy_L74 n x3 x4 x5 σ = some q → (∀  (s : bSto), q = s → bAJ X 233 [] [] s) → bAJ X 74 [(0, .ref 92), (3, .int x3), (4, .int x4), (5, .int x5)] [] σ := by
  intro n
  induction n with
  | zero => intro x3 x4 x5 σ q hF; rw [f_X12_yearsWhy_L74] at hF; cases hF
  | succ n ih =>
    intro x3 x4 x5 σ q hF hx
    rw [f_X12_yearsWhy_L74] at hF
    refine b_iload (pc := 74) C dX12_yearsWhy_74 3 rfl ?_
    refine b_iload_n (pc := 76) C dX12_yearsWhy_76 rfl 1 rfl ?_
    refine b_icmp_ge (tgt := 233) (pc := 77) C dX12_yearsWhy_77 rfl (fun hc1 => ?_) (fun hc1 => ?_)
    · rw [if_pos hc1] at hF
      exact b_sub [] rfl (hx  _ (Option.some.inj hF).symm )
    · rw [if_neg hc1] at hF
      refine b_bipush (pc := 80) C dX12_yearsWhy_80 bp_75 ?_
      refine b_iload (pc := 82) C dX12_yearsWhy_82 2 rfl ?_
      refine b_imul (pc := 84) C dX12_yearsWhy_84 ?_
      refine b_bipush (pc := 85) C dX12_yearsWhy_85 bp_74 ?_
      refine b_iadd (pc := 87) C dX12_yearsWhy_87 ?_
      refine b_ldcw (pc := 88) C dX12_yearsWhy_88 ww_X12_422 ?_
      refine b_irem (pc := 91) C dX12_yearsWhy_91 (by decide) ?_
      obtain ⟨x4_2, e3, hF⟩ := blet_e hF
      refine b_istore (L' := [(4, .int x4_2), (0, .ref 92), (3, .int x3), (5, .int x5)]) (pc := 92) C dX12_yearsWhy_92 e3 (Hh.2.1 _ (Nat.le_of_ble_eq_true rfl)) rfl ?_
      refine b_iload (pc := 94) C dX12_yearsWhy_94 0 rfl ?_
      refine b_aload_n (pc := 96) C dX12_yearsWhy_96 rfl 1 rfl ?_
      refine b_getS (pc := 97) C dX12_yearsWhy_97 fl_X12_20 (Hh.1 _ _ sh_92) rfl ?_
      refine b_iconst (pc := 100) C dX12_yearsWhy_100 ic_4 ?_
      refine b_ialdK (pc := 101) C dX12_yearsWhy_101 (Hh.1 _ _ sh_95) tn_4 (by decide) ?_
      obtain ⟨hz4, hF⟩ := bif_n hF
      refine b_irem (pc := 102) C dX12_yearsWhy_102 hz4 ?_
      obtain ⟨x6_5, e6, hF⟩ := blet_e hF
      refine b_istore (L' := [(6, .int x6_5), (4, .int x4_2), (0, .ref 92), (3, .int x3), (5, .int x5)]) (pc := 103) C dX12_yearsWhy_103 e6 (Hh.2.1 _ (Nat.le_of_ble_eq_true rfl)) rfl ?_
      refine b_bipush (pc := 105) C dX12_yearsWhy_105 bp_75 ?_
      refine b_iload (pc := 107) C dX12_yearsWhy_107 1 rfl ?_
      refine b_imul (pc := 109) C dX12_yearsWhy_109 ?_
      refine b_bipush (pc := 110) C dX12_yearsWhy_110 bp_74 ?_
      refine b_iadd (pc := 112) C dX12_yearsWhy_112 ?_
      refine b_ldcw (pc := 113) C dX12_yearsWhy_113 ww_X12_422 ?_
      refine b_irem (pc := 116) C dX12_yearsWhy_116 (by decide) ?_
      obtain ⟨x4_7, e8, hF⟩ := blet_e hF
      refine b_istore (L' := [(4, .int x4_7), (6, .int x6_5), (0, .ref 92), (3, .int x3), (5, .int x5)]) (pc := 117) C dX12_yearsWhy_117 e8 (Hh.2.1 _ (Nat.le_of_ble_eq_true rfl)) rfl ?_
      refine b_iload (pc := 119) C dX12_yearsWhy_119 0 rfl ?_
      refine b_aload_n (pc := 121) C dX12_yearsWhy_121 rfl 2 rfl ?_
      refine b_getS (pc := 122) C dX12_yearsWhy_122 fl_X12_20 (Hh.1 _ _ sh_92) rfl ?_
      refine b_iconst (pc := 125) C dX12_yearsWhy_125 ic_3 ?_
      refine b_ialdK (pc := 126) C dX12_yearsWhy_126 (Hh.1 _ _ sh_95) tn_3 (by decide) ?_
      obtain ⟨hz9, hF⟩ := bif_n hF
      refine b_irem (pc := 127) C dX12_yearsWhy_127 hz9 ?_
      obtain ⟨x7_10, e11, hF⟩ := blet_e hF
      refine b_istore (L' := [(7, .int x7_10), (4, .int x4_7), (6, .int x6_5), (0, .ref 92), (3, .int x3), (5, .int x5)]) (pc := 128) C dX12_yearsWhy_128 e11 (Hh.2.1 _ (Nat.le_of_ble_eq_true rfl)) rfl ?_
      refine b_aload_n (pc := 130) C dX12_yearsWhy_130 rfl 3 rfl ?_
      refine b_getS (pc := 131) C dX12_yearsWhy_131 fl_X12_59 (Hh.1 _ _ sh_92) rfl ?_
      refine b_iload (pc := 134) C dX12_yearsWhy_134 2 rfl ?_
      refine b_iconst (pc := 136) C dX12_yearsWhy_136 ic_0 ?_
      obtain ⟨hb14, hF⟩ := bif_n hF
      obtain ⟨σ12, e13, hF⟩ := blet_e hF
      refine b_iast (pc := 137) C dX12_yearsWhy_137 (Hh.1 _ _ sh_108) hb14 e13 ?_
      refine b_aload_n (pc := 138) C dX12_yearsWhy_138 rfl 3 rfl ?_
      refine b_iload (pc := 139) C dX12_yearsWhy_139 2 rfl ?_
      refine b_iload (pc := 141) C dX12_yearsWhy_141 0 rfl ?_
      obtain ⟨v17, σ16, hc15, hF⟩ := bbd_e hF
      refine b_cV2i (d' := (d + 2)) (pc := 143) C dX12_yearsWhy_143 mm_X12_327 (Hh.1 _ _ sh_92) rfl (Nat.le_of_ble_eq_true rfl) (by omega) (Hh.2.2 _ _ _ _ _ _ _ _ _ (lvl_eq (by omega) (e_X12_mayOn (d + 1) x6_5 x7_10 _ _ _ hc15))) ?_
      refine b_if_eq (tgt := 173) (pc := 146) C dX12_yearsWhy_146 rfl (fun hc18 => ?_) (fun hc18 => ?_)
      · rw [if_pos hc18] at hF
        exact b_sub [3, 4, 1, 5] rfl (e_X12_yearsWhy_J173_74 C Hh Rt ih x3 x4_7 x5 _ _ hF hx)
      · rw [if_neg hc18] at hF
        refine b_aload_n (pc := 149) C dX12_yearsWhy_149 rfl 3 rfl ?_
        refine b_aload_n (pc := 150) C dX12_yearsWhy_150 rfl 3 rfl ?_
        refine b_getS (pc := 151) C dX12_yearsWhy_151 fl_X12_59 (Hh.1 _ _ sh_92) rfl ?_
        refine b_iload (pc := 154) C dX12_yearsWhy_154 0 rfl ?_
        obtain ⟨v21, σ20, hc19, hF⟩ := bbd_e hF
        refine b_cV2i (d' := (d + 2)) (pc := 156) C dX12_yearsWhy_156 mm_X12_336 (Hh.1 _ _ sh_92) rfl (Nat.le_of_ble_eq_true rfl) (by omega) (Hh.2.2 _ _ _ _ _ _ _ _ _ (lvl_eq (by omega) (e_X12_isFree (d + 1) _ (show kIA 108 from sh_108) x7_10 _ _ _ hc19))) ?_
        refine b_if_eq (tgt := 173) (pc := 159) C dX12_yearsWhy_159 rfl (fun hc22 => ?_) (fun hc22 => ?_)
        · rw [if_pos hc22] at hF
          exact b_sub [3, 4, 1, 5] rfl (e_X12_yearsWhy_J173_74 C Hh Rt ih x3 x4_7 x5 _ _ hF hx)
        · rw [if_neg hc22] at hF
          refine b_aload_n (pc := 162) C dX12_yearsWhy_162 rfl 3 rfl ?_
          refine b_getS (pc := 163) C dX12_yearsWhy_163 fl_X12_59 (Hh.1 _ _ sh_92) rfl ?_
          refine b_iload (pc := 166) C dX12_yearsWhy_166 2 rfl ?_
          refine b_iload (pc := 168) C dX12_yearsWhy_168 0 rfl ?_
          refine b_iconst (pc := 170) C dX12_yearsWhy_170 ic_1 ?_
          refine b_iadd (pc := 171) C dX12_yearsWhy_171 ?_
          obtain ⟨hb25, hF⟩ := bif_n hF
          obtain ⟨σ23, e24, hF⟩ := blet_e hF
          refine b_iast (pc := 172) C dX12_yearsWhy_172 (Hh.1 _ _ sh_108) hb25 e24 ?_
          exact b_sub [3, 4, 1, 5] rfl (e_X12_yearsWhy_J173_74 C Hh Rt ih x3 x4_7 x5 _ _ hF hx)
set_option maxHeartbeats 4000000 in
set_option maxRecDepth 20000 in
theorem e_X12_yearsWhy_0 {X : bX} {l : Launch} {G : bG} {ρ : Nat → Nat} {A : Nat → Prop} {d : Nat} {r : Int32} {σ' : bSto} (C : bCX X cX12_yearsWhy RX12 (d + 3)) (Hh : bH X l G bSHf ρ A 9) (Rt : bRX X (some .int) (some (.int r)) σ') (x1 : Int32) (x2 : Int32) (x3 : Int32) (σ : bSto) (hF : f_X12_yearsWhy x1 x2 x3 σ = some (r, σ')) : bAJ X 0 [(0, .ref 92), (1, .int x1), (2, .int x2), (3, .int x3)] [] σ := by
  rw [f_X12_yearsWhy] at hF
  refine b_iload_n (pc := 0) C dX12_yearsWhy_0 rfl 1 rfl ?_
  refine b_if_ne (tgt := 6) (pc := 1) C dX12_yearsWhy_1 rfl (fun hc1 => ?_) (fun hc1 => ?_)
  · rw [if_neg hc1] at hF
    refine b_iload_n (pc := 6) C dX12_yearsWhy_6 rfl 2 rfl ?_
    refine b_iconst (pc := 7) C dX12_yearsWhy_7 ic_0 ?_
    refine b_ldcw (pc := 8) C dX12_yearsWhy_8 ww_X12_421 ?_
    obtain ⟨v4, σ3, hc2, hF⟩ := bbd_e hF
    refine b_cS3i (d' := (d + 2)) (pc := 11) C dX12_yearsWhy_11 mm_X12_160 (Nat.le_of_ble_eq_true rfl) (by omega) (Hh.2.2 _ _ _ _ _ _ _ _ _ (lvl_eq (by omega) (e_X12_in (d + 2) x2 (0 : Int32) (65536 : Int32) _ _ _ hc2))) ?_
    refine b_if_eq (tgt := 27) (pc := 14) C dX12_yearsWhy_14 rfl (fun hc5 => ?_) (fun hc5 => ?_)
    · rw [if_pos hc5] at hF
      refine b_iconst (pc := 27) C dX12_yearsWhy_27 ic_2 ?_
      exact b_iret (pc := 28) C Rt dX12_yearsWhy_28 hF
    · rw [if_neg hc5] at hF
      refine b_iload_n (pc := 17) C dX12_yearsWhy_17 rfl 3 rfl ?_
      refine b_iconst (pc := 18) C dX12_yearsWhy_18 ic_0 ?_
      refine b_bipush (pc := 19) C dX12_yearsWhy_19 bp_90 ?_
      obtain ⟨v8, σ7, hc6, hF⟩ := bbd_e hF
      refine b_cS3i (d' := (d + 2)) (pc := 21) C dX12_yearsWhy_21 mm_X12_160 (Nat.le_of_ble_eq_true rfl) (by omega) (Hh.2.2 _ _ _ _ _ _ _ _ _ (lvl_eq (by omega) (e_X12_in (d + 2) x3 (0 : Int32) (90 : Int32) _ _ _ hc6))) ?_
      refine b_if_ne (tgt := 29) (pc := 24) C dX12_yearsWhy_24 rfl (fun hc9 => ?_) (fun hc9 => ?_)
      · rw [if_neg hc9] at hF
        refine b_aload_n (pc := 29) C dX12_yearsWhy_29 rfl 0 rfl ?_
        refine b_getS (pc := 30) C dX12_yearsWhy_30 fl_X12_26 (Hh.1 _ _ sh_92) rfl ?_
        refine b_iconst (pc := 33) C dX12_yearsWhy_33 ic_0 ?_
        refine b_aload_n (pc := 34) C dX12_yearsWhy_34 rfl 0 rfl ?_
        refine b_getS (pc := 35) C dX12_yearsWhy_35 fl_X12_59 (Hh.1 _ _ sh_92) rfl ?_
        refine b_iconst (pc := 38) C dX12_yearsWhy_38 ic_0 ?_
        refine b_bipush (pc := 39) C dX12_yearsWhy_39 bp_7 ?_
        obtain ⟨σ11, hc10, hF⟩ := bbv_e hF
        refine b_cS5v (d' := (d + 2)) (pc := 41) C dX12_yearsWhy_41 mm_X12_190 (Nat.le_of_ble_eq_true rfl) (by omega) (Hh.2.2 _ _ _ _ _ _ _ _ _ (lvl_eq (by omega) (e_X12_copy (d + 2) _ (show kIA 97 from sh_97) (0 : Int32) _ (show kIA 108 from sh_108) (0 : Int32) (7 : Int32) _ _ hc10))) ?_
        refine b_iconst (pc := 44) C dX12_yearsWhy_44 ic_0 ?_
        refine b_istore (L' := [(4, .int (0 : Int32)), (0, .ref 92), (1, .int x1), (2, .int x2), (3, .int x3)]) (pc := 45) C dX12_yearsWhy_45 rfl (Hh.2.1 _ (Nat.le_of_ble_eq_true rfl)) rfl ?_
        obtain ⟨x2_12, x3_12, σ13, hq12, hF⟩ := bl2_e hF
        refine b_sub [1, 3, 4, 0] rfl (e_X12_yearsWhy_L47 C Hh Rt bFU x2 x3 (0 : Int32) _ _ hq12 (fun _ _ _ e  => ?_))
        cases e
        refine b_iload_n (pc := 68) C dX12_yearsWhy_68 rfl 1 rfl ?_
        refine b_istore (L' := [(4, .int x2_12), (0, .ref 92), (2, .int x2_12), (3, .int x3_12)]) (pc := 69) C dX12_yearsWhy_69 rfl (Hh.2.1 _ (Nat.le_of_ble_eq_true rfl)) rfl ?_
        refine b_iconst (pc := 71) C dX12_yearsWhy_71 ic_0 ?_
        refine b_istore (L' := [(5, .int (0 : Int32)), (4, .int x2_12), (0, .ref 92), (2, .int x2_12), (3, .int x3_12)]) (pc := 72) C dX12_yearsWhy_72 rfl (Hh.2.1 _ (Nat.le_of_ble_eq_true rfl)) rfl ?_
        obtain ⟨σ15, hq14, hF⟩ := bl0_e hF
        refine b_sub [2, 4, 1, 0] rfl (e_X12_yearsWhy_L74 C Hh Rt bFU x3_12 x2_12 (0 : Int32) _ _ hq14 (fun  _ e  => ?_))
        cases e
        refine b_iconst (pc := 233) C dX12_yearsWhy_233 ic_0 ?_
        exact b_iret (pc := 234) C Rt dX12_yearsWhy_234 hF
      · rw [if_pos hc9] at hF
        refine b_iconst (pc := 27) C dX12_yearsWhy_27 ic_2 ?_
        exact b_iret (pc := 28) C Rt dX12_yearsWhy_28 hF
  · rw [if_pos hc1] at hF
    refine b_iconst (pc := 4) C dX12_yearsWhy_4 ic_1 ?_
    exact b_iret (pc := 5) C Rt dX12_yearsWhy_5 hF
set_option maxHeartbeats 4000000 in
set_option maxRecDepth 20000 in
theorem e_X12_yearsWhy {l : Launch} {G : bG} {ρ : Nat → Nat} {A : Nat → Prop} (d : Nat) (x1 : Int32) (x2 : Int32) (x3 : Int32) (σ : bSto) (r : Int32) (σ' : bSto) (hF : f_X12_yearsWhy x1 x2 x3 σ = some (r, σ')) : bEv l G bSHf ρ A yX12_yearsWhy cX12_yearsWhy 9 (some .int) (d + 3) [.ref 92, .int x1, .int x2, .int x3] σ (some (.int r)) σ' := b_met (d := d + 3) (by decide +kernel) (Nat.le_of_ble_eq_true rfl) rfl (fun X C Rt h1 h2 h3 => e_X12_yearsWhy_0 C ⟨fun o q h => by rw [h1]; exact h, fun i h => by rw [h2]; exact h, h3⟩ Rt _ _ _ _ hF)
/-! BenchColonyModel.years -/
def f_X12_years_J26 (x1 : Int32) (x2 : Int32) (s1 : Int32) (σ : bSto) : Option (Int32 × bSto) := bbd (f_X12_yearsWhy s1 x1 x2 σ) (fun v3 σ2 => (if v3 = 0 then bbd (f_X12_contentOn 108 (σ2.1 95 2) σ2) (fun v7 σ6 => bbd (f_X12_ones v7 σ6) (fun v10 σ9 => some (v10, σ9))) else bbd (f_X12_no v3 σ2) (fun v13 σ12 => some (v13, σ12))))
def f_X12_years_J25 (x1 : Int32) (x2 : Int32) (σ : bSto) : Option (Int32 × bSto) := f_X12_years_J26 x1 x2 (0 : Int32) σ
def f_X12_years (x1 : Int32) (x2 : Int32) (σ : bSto) : Option (Int32 × bSto) := bbv (f_X12_good  σ) (fun σ2 => (if (σ2.1 92 14) = 0 then f_X12_years_J25 x1 x2 σ2 else (if (σ2.1 95 4) ≤ 0 then f_X12_years_J25 x1 x2 σ2 else f_X12_years_J26 x1 x2 (1 : Int32) σ2)))
set_option maxHeartbeats 4000000 in
set_option maxRecDepth 20000 in
theorem e_X12_years_J26 {X : bX} {l : Launch} {G : bG} {ρ : Nat → Nat} {A : Nat → Prop} {d : Nat} {r : Int32} {σ' : bSto} (C : bCX X cX12_years RX12 (d + 4)) (Hh : bH X l G bSHf ρ A 4) (Rt : bRX X (some .int) (some (.int r)) σ') (x1 : Int32) (x2 : Int32) (s1 : Int32) (σ : bSto) (hF : f_X12_years_J26 x1 x2 s1 σ = some (r, σ')) : bAJ X 26 [(0, .ref 92), (1, .int x1), (2, .int x2)] [.int s1, .ref 92] σ := by
  rw [f_X12_years_J26] at hF
  refine b_iload_n (pc := 26) C dX12_years_26 rfl 1 rfl ?_
  refine b_iload_n (pc := 27) C dX12_years_27 rfl 2 rfl ?_
  obtain ⟨v3, σ2, hc1, hF⟩ := bbd_e hF
  refine b_cV3i (d' := (d + 3)) (pc := 28) C dX12_years_28 mm_X12_423 (Hh.1 _ _ sh_92) rfl (Nat.le_of_ble_eq_true rfl) (by omega) (Hh.2.2 _ _ _ _ _ _ _ _ _ (lvl_eq (by omega) (e_X12_yearsWhy (d + 0) s1 x1 x2 _ _ _ hc1))) ?_
  refine b_istore_n (L' := [(3, .int v3), (0, .ref 92), (1, .int x1), (2, .int x2)]) (pc := 31) C dX12_years_31 rfl rfl (Hh.2.1 _ (Nat.le_of_ble_eq_true rfl)) rfl ?_
  refine b_iload_n (pc := 32) C dX12_years_32 rfl 0 rfl ?_
  refine b_if_eq (tgt := 44) (pc := 33) C dX12_years_33 rfl (fun hc4 => ?_) (fun hc4 => ?_)
  · rw [if_pos hc4] at hF
    refine b_aload_n (pc := 44) C dX12_years_44 rfl 1 rfl ?_
    refine b_aload_n (pc := 45) C dX12_years_45 rfl 1 rfl ?_
    refine b_getS (pc := 46) C dX12_years_46 fl_X12_59 (Hh.1 _ _ sh_92) rfl ?_
    refine b_aload_n (pc := 49) C dX12_years_49 rfl 1 rfl ?_
    refine b_getS (pc := 50) C dX12_years_50 fl_X12_20 (Hh.1 _ _ sh_92) rfl ?_
    refine b_iconst (pc := 53) C dX12_years_53 ic_2 ?_
    refine b_ialdK (pc := 54) C dX12_years_54 (Hh.1 _ _ sh_95) tn_2 (by decide) ?_
    obtain ⟨v7, σ6, hc5, hF⟩ := bbd_e hF
    refine b_cV2i (d' := (d + 3)) (pc := 55) C dX12_years_55 mm_X12_330 (Hh.1 _ _ sh_92) rfl (Nat.le_of_ble_eq_true rfl) (by omega) (Hh.2.2 _ _ _ _ _ _ _ _ _ (lvl_eq (by omega) (e_X12_contentOn (d + 0) _ (show kIA 108 from sh_108) (σ2.1 95 2) _ _ _ hc5))) ?_
    obtain ⟨v10, σ9, hc8, hF⟩ := bbd_e hF
    refine b_cS1i (d' := (d + 3)) (pc := 58) C dX12_years_58 mm_X12_299 (Nat.le_of_ble_eq_true rfl) (by omega) (Hh.2.2 _ _ _ _ _ _ _ _ _ (lvl_eq (by omega) (e_X12_ones (d + 3) v7 _ _ _ hc8))) ?_
    exact b_iret (pc := 61) C Rt dX12_years_61 hF
  · rw [if_neg hc4] at hF
    refine b_aload_n (pc := 36) C dX12_years_36 rfl 1 rfl ?_
    refine b_iload_n (pc := 37) C dX12_years_37 rfl 0 rfl ?_
    obtain ⟨v13, σ12, hc11, hF⟩ := bbd_e hF
    refine b_cV1i (d' := (d + 3)) (pc := 38) C dX12_years_38 mm_X12_184 (Hh.1 _ _ sh_92) rfl (Nat.le_of_ble_eq_true rfl) (by omega) (Hh.2.2 _ _ _ _ _ _ _ _ _ (lvl_eq (by omega) (e_X12_no (d + 3) v3 _ _ _ hc11))) ?_
    refine b_goto (tgt := 61) (pc := 41) C dX12_years_41 rfl ?_
    exact b_iret (pc := 61) C Rt dX12_years_61 hF
set_option maxHeartbeats 4000000 in
set_option maxRecDepth 20000 in
theorem e_X12_years_J25 {X : bX} {l : Launch} {G : bG} {ρ : Nat → Nat} {A : Nat → Prop} {d : Nat} {r : Int32} {σ' : bSto} (C : bCX X cX12_years RX12 (d + 4)) (Hh : bH X l G bSHf ρ A 4) (Rt : bRX X (some .int) (some (.int r)) σ') (x1 : Int32) (x2 : Int32) (σ : bSto) (hF : f_X12_years_J25 x1 x2 σ = some (r, σ')) : bAJ X 25 [(0, .ref 92), (1, .int x1), (2, .int x2)] [.ref 92] σ := by
  rw [f_X12_years_J25] at hF
  refine b_iconst (pc := 25) C dX12_years_25 ic_0 ?_
  exact b_sub [0, 1, 2] rfl (e_X12_years_J26 C Hh Rt x1 x2 (0 : Int32) _ hF)
set_option maxHeartbeats 4000000 in
set_option maxRecDepth 20000 in
theorem e_X12_years_0 {X : bX} {l : Launch} {G : bG} {ρ : Nat → Nat} {A : Nat → Prop} {d : Nat} {r : Int32} {σ' : bSto} (C : bCX X cX12_years RX12 (d + 4)) (Hh : bH X l G bSHf ρ A 4) (Rt : bRX X (some .int) (some (.int r)) σ') (x1 : Int32) (x2 : Int32) (σ : bSto) (hF : f_X12_years x1 x2 σ = some (r, σ')) : bAJ X 0 [(0, .ref 92), (1, .int x1), (2, .int x2)] [] σ := by
  rw [f_X12_years] at hF
  refine b_aload_n (pc := 0) C dX12_years_0 rfl 0 rfl ?_
  obtain ⟨σ2, hc1, hF⟩ := bbv_e hF
  refine b_cV0v (d' := (d + 3)) (pc := 1) C dX12_years_1 mm_X12_181 (Hh.1 _ _ sh_92) rfl (Nat.le_of_ble_eq_true rfl) (by omega) (Hh.2.2 _ _ _ _ _ _ _ _ _ (lvl_eq (by omega) (e_X12_good (d + 3)  _ _ hc1))) ?_
  refine b_aload_n (pc := 4) C dX12_years_4 rfl 0 rfl ?_
  refine b_aload_n (pc := 5) C dX12_years_5 rfl 0 rfl ?_
  refine b_getI (pc := 6) C dX12_years_6 fl_X12_194 (Hh.1 _ _ sh_92) rfl ?_
  refine b_if_eq (tgt := 25) (pc := 9) C dX12_years_9 rfl (fun hc3 => ?_) (fun hc3 => ?_)
  · rw [if_pos hc3] at hF
    exact b_sub [0, 1, 2] rfl (e_X12_years_J25 C Hh Rt x1 x2 _ hF)
  · rw [if_neg hc3] at hF
    refine b_aload_n (pc := 12) C dX12_years_12 rfl 0 rfl ?_
    refine b_getS (pc := 13) C dX12_years_13 fl_X12_20 (Hh.1 _ _ sh_92) rfl ?_
    refine b_iconst (pc := 16) C dX12_years_16 ic_4 ?_
    refine b_ialdK (pc := 17) C dX12_years_17 (Hh.1 _ _ sh_95) tn_4 (by decide) ?_
    refine b_if_le (tgt := 25) (pc := 18) C dX12_years_18 rfl (fun hc4 => ?_) (fun hc4 => ?_)
    · rw [if_pos hc4] at hF
      exact b_sub [0, 1, 2] rfl (e_X12_years_J25 C Hh Rt x1 x2 _ hF)
    · rw [if_neg hc4] at hF
      refine b_iconst (pc := 21) C dX12_years_21 ic_1 ?_
      refine b_goto (tgt := 26) (pc := 22) C dX12_years_22 rfl ?_
      exact b_sub [0, 1, 2] rfl (e_X12_years_J26 C Hh Rt x1 x2 (1 : Int32) _ hF)
set_option maxHeartbeats 4000000 in
set_option maxRecDepth 20000 in
theorem e_X12_years {l : Launch} {G : bG} {ρ : Nat → Nat} {A : Nat → Prop} (d : Nat) (x1 : Int32) (x2 : Int32) (σ : bSto) (r : Int32) (σ' : bSto) (hF : f_X12_years x1 x2 σ = some (r, σ')) : bEv l G bSHf ρ A yX12_years cX12_years 4 (some .int) (d + 4) [.ref 92, .int x1, .int x2] σ (some (.int r)) σ' := b_met (d := d + 4) (by decide +kernel) (Nat.le_of_ble_eq_true rfl) rfl (fun X C Rt h1 h2 h3 => e_X12_years_0 C ⟨fun o q h => by rw [h1]; exact h, fun i h => by rw [h2]; exact h, h3⟩ Rt _ _ _ hF)
/-! BenchColonyModel.yearsAt -/
def f_X12_yearsAt (x1 : Int32) (x2 : Int32) (x3 : Int32) (σ : bSto) : Option (Int32 × bSto) := bbv (f_X12_good  σ) (fun σ2 => bbd (f_X12_isPerson x1 σ2) (fun v5 σ4 => bbd (f_X12_yearsWhy v5 x2 x3 σ4) (fun v8 σ7 => (if v8 = 0 then if x1 < 0 ∨ 7 ≤ x1.toNatClampNeg then none else (if (σ7.1 108 x1.toNatClampNeg) = 0 then some ((-2 : Int32), σ7) else if x1 < 0 ∨ 7 ≤ x1.toNatClampNeg then none else some (((σ7.1 108 x1.toNatClampNeg) - (1 : Int32)), σ7)) else bbd (f_X12_no v8 σ7) (fun v15 σ14 => some (v15, σ14))))))
set_option maxHeartbeats 4000000 in
set_option maxRecDepth 20000 in
theorem e_X12_yearsAt_0 {X : bX} {l : Launch} {G : bG} {ρ : Nat → Nat} {A : Nat → Prop} {d : Nat} {r : Int32} {σ' : bSto} (C : bCX X cX12_yearsAt RX12 (d + 4)) (Hh : bH X l G bSHf ρ A 5) (Rt : bRX X (some .int) (some (.int r)) σ') (x1 : Int32) (x2 : Int32) (x3 : Int32) (σ : bSto) (hF : f_X12_yearsAt x1 x2 x3 σ = some (r, σ')) : bAJ X 0 [(0, .ref 92), (1, .int x1), (2, .int x2), (3, .int x3)] [] σ := by
  rw [f_X12_yearsAt] at hF
  refine b_aload_n (pc := 0) C dX12_yearsAt_0 rfl 0 rfl ?_
  obtain ⟨σ2, hc1, hF⟩ := bbv_e hF
  refine b_cV0v (d' := (d + 3)) (pc := 1) C dX12_yearsAt_1 mm_X12_181 (Hh.1 _ _ sh_92) rfl (Nat.le_of_ble_eq_true rfl) (by omega) (Hh.2.2 _ _ _ _ _ _ _ _ _ (lvl_eq (by omega) (e_X12_good (d + 3)  _ _ hc1))) ?_
  refine b_aload_n (pc := 4) C dX12_yearsAt_4 rfl 0 rfl ?_
  refine b_aload_n (pc := 5) C dX12_yearsAt_5 rfl 0 rfl ?_
  refine b_iload_n (pc := 6) C dX12_yearsAt_6 rfl 1 rfl ?_
  obtain ⟨v5, σ4, hc3, hF⟩ := bbd_e hF
  refine b_cV1i (d' := (d + 3)) (pc := 7) C dX12_yearsAt_7 mm_X12_318 (Hh.1 _ _ sh_92) rfl (Nat.le_of_ble_eq_true rfl) (by omega) (Hh.2.2 _ _ _ _ _ _ _ _ _ (lvl_eq (by omega) (e_X12_isPerson (d + 2) x1 _ _ _ hc3))) ?_
  refine b_iload_n (pc := 10) C dX12_yearsAt_10 rfl 2 rfl ?_
  refine b_iload_n (pc := 11) C dX12_yearsAt_11 rfl 3 rfl ?_
  obtain ⟨v8, σ7, hc6, hF⟩ := bbd_e hF
  refine b_cV3i (d' := (d + 3)) (pc := 12) C dX12_yearsAt_12 mm_X12_423 (Hh.1 _ _ sh_92) rfl (Nat.le_of_ble_eq_true rfl) (by omega) (Hh.2.2 _ _ _ _ _ _ _ _ _ (lvl_eq (by omega) (e_X12_yearsWhy (d + 0) v5 x2 x3 _ _ _ hc6))) ?_
  refine b_istore (L' := [(4, .int v8), (0, .ref 92), (1, .int x1), (2, .int x2), (3, .int x3)]) (pc := 15) C dX12_yearsAt_15 rfl (Hh.2.1 _ (Nat.le_of_ble_eq_true rfl)) rfl ?_
  refine b_iload (pc := 17) C dX12_yearsAt_17 0 rfl ?_
  refine b_if_eq (tgt := 31) (pc := 19) C dX12_yearsAt_19 rfl (fun hc9 => ?_) (fun hc9 => ?_)
  · rw [if_pos hc9] at hF
    refine b_aload_n (pc := 31) C dX12_yearsAt_31 rfl 1 rfl ?_
    refine b_getS (pc := 32) C dX12_yearsAt_32 fl_X12_59 (Hh.1 _ _ sh_92) rfl ?_
    refine b_iload_n (pc := 35) C dX12_yearsAt_35 rfl 2 rfl ?_
    obtain ⟨hb10, hF⟩ := bif_n hF
    refine b_iald (pc := 36) C dX12_yearsAt_36 (Hh.1 _ _ sh_108) hb10 ?_
    refine b_if_ne (tgt := 45) (pc := 37) C dX12_yearsAt_37 rfl (fun hc11 => ?_) (fun hc11 => ?_)
    · rw [if_neg hc11] at hF
      refine b_aload_n (pc := 45) C dX12_yearsAt_45 rfl 1 rfl ?_
      refine b_getS (pc := 46) C dX12_yearsAt_46 fl_X12_59 (Hh.1 _ _ sh_92) rfl ?_
      refine b_iload_n (pc := 49) C dX12_yearsAt_49 rfl 2 rfl ?_
      obtain ⟨hb12, hF⟩ := bif_n hF
      refine b_iald (pc := 50) C dX12_yearsAt_50 (Hh.1 _ _ sh_108) hb12 ?_
      refine b_iconst (pc := 51) C dX12_yearsAt_51 ic_1 ?_
      refine b_isub (pc := 52) C dX12_yearsAt_52 ?_
      exact b_iret (pc := 53) C Rt dX12_yearsAt_53 hF
    · rw [if_pos hc11] at hF
      refine b_bipush (pc := 40) C dX12_yearsAt_40 bp_m2 ?_
      refine b_goto (tgt := 53) (pc := 42) C dX12_yearsAt_42 rfl ?_
      exact b_iret (pc := 53) C Rt dX12_yearsAt_53 hF
  · rw [if_neg hc9] at hF
    refine b_aload_n (pc := 22) C dX12_yearsAt_22 rfl 1 rfl ?_
    refine b_iload (pc := 23) C dX12_yearsAt_23 0 rfl ?_
    obtain ⟨v15, σ14, hc13, hF⟩ := bbd_e hF
    refine b_cV1i (d' := (d + 3)) (pc := 25) C dX12_yearsAt_25 mm_X12_184 (Hh.1 _ _ sh_92) rfl (Nat.le_of_ble_eq_true rfl) (by omega) (Hh.2.2 _ _ _ _ _ _ _ _ _ (lvl_eq (by omega) (e_X12_no (d + 3) v8 _ _ _ hc13))) ?_
    refine b_goto (tgt := 53) (pc := 28) C dX12_yearsAt_28 rfl ?_
    exact b_iret (pc := 53) C Rt dX12_yearsAt_53 hF
set_option maxHeartbeats 4000000 in
set_option maxRecDepth 20000 in
theorem e_X12_yearsAt {l : Launch} {G : bG} {ρ : Nat → Nat} {A : Nat → Prop} (d : Nat) (x1 : Int32) (x2 : Int32) (x3 : Int32) (σ : bSto) (r : Int32) (σ' : bSto) (hF : f_X12_yearsAt x1 x2 x3 σ = some (r, σ')) : bEv l G bSHf ρ A yX12_yearsAt cX12_yearsAt 5 (some .int) (d + 4) [.ref 92, .int x1, .int x2, .int x3] σ (some (.int r)) σ' := b_met (d := d + 4) (by decide +kernel) (Nat.le_of_ble_eq_true rfl) rfl (fun X C Rt h1 h2 h3 => e_X12_yearsAt_0 C ⟨fun o q h => by rw [h1]; exact h, fun i h => by rw [h2]; exact h, h3⟩ Rt _ _ _ _ hF)
/-! BenchColonyModel.happy -/
def f_X12_happy (x1 : Int32) (x2 : Int32) (x3 : Int32) (σ : bSto) : Option (Int32 × bSto) := bbv (f_X12_good  σ) (fun σ2 => bbd (f_X12_isPerson x1 σ2) (fun v5 σ4 => bbd (f_X12_yearsWhy v5 x2 x3 σ4) (fun v8 σ7 => (if v8 = 0 then if x1 < 0 ∨ 7 ≤ x1.toNatClampNeg then none else some ((σ7.1 109 x1.toNatClampNeg), σ7) else bbd (f_X12_no v8 σ7) (fun v13 σ12 => some (v13, σ12))))))
set_option maxHeartbeats 4000000 in
set_option maxRecDepth 20000 in
theorem e_X12_happy_0 {X : bX} {l : Launch} {G : bG} {ρ : Nat → Nat} {A : Nat → Prop} {d : Nat} {r : Int32} {σ' : bSto} (C : bCX X cX12_happy RX12 (d + 4)) (Hh : bH X l G bSHf ρ A 5) (Rt : bRX X (some .int) (some (.int r)) σ') (x1 : Int32) (x2 : Int32) (x3 : Int32) (σ : bSto) (hF : f_X12_happy x1 x2 x3 σ = some (r, σ')) : bAJ X 0 [(0, .ref 92), (1, .int x1), (2, .int x2), (3, .int x3)] [] σ := by
  rw [f_X12_happy] at hF
  refine b_aload_n (pc := 0) C dX12_happy_0 rfl 0 rfl ?_
  obtain ⟨σ2, hc1, hF⟩ := bbv_e hF
  refine b_cV0v (d' := (d + 3)) (pc := 1) C dX12_happy_1 mm_X12_181 (Hh.1 _ _ sh_92) rfl (Nat.le_of_ble_eq_true rfl) (by omega) (Hh.2.2 _ _ _ _ _ _ _ _ _ (lvl_eq (by omega) (e_X12_good (d + 3)  _ _ hc1))) ?_
  refine b_aload_n (pc := 4) C dX12_happy_4 rfl 0 rfl ?_
  refine b_aload_n (pc := 5) C dX12_happy_5 rfl 0 rfl ?_
  refine b_iload_n (pc := 6) C dX12_happy_6 rfl 1 rfl ?_
  obtain ⟨v5, σ4, hc3, hF⟩ := bbd_e hF
  refine b_cV1i (d' := (d + 3)) (pc := 7) C dX12_happy_7 mm_X12_318 (Hh.1 _ _ sh_92) rfl (Nat.le_of_ble_eq_true rfl) (by omega) (Hh.2.2 _ _ _ _ _ _ _ _ _ (lvl_eq (by omega) (e_X12_isPerson (d + 2) x1 _ _ _ hc3))) ?_
  refine b_iload_n (pc := 10) C dX12_happy_10 rfl 2 rfl ?_
  refine b_iload_n (pc := 11) C dX12_happy_11 rfl 3 rfl ?_
  obtain ⟨v8, σ7, hc6, hF⟩ := bbd_e hF
  refine b_cV3i (d' := (d + 3)) (pc := 12) C dX12_happy_12 mm_X12_423 (Hh.1 _ _ sh_92) rfl (Nat.le_of_ble_eq_true rfl) (by omega) (Hh.2.2 _ _ _ _ _ _ _ _ _ (lvl_eq (by omega) (e_X12_yearsWhy (d + 0) v5 x2 x3 _ _ _ hc6))) ?_
  refine b_istore (L' := [(4, .int v8), (0, .ref 92), (1, .int x1), (2, .int x2), (3, .int x3)]) (pc := 15) C dX12_happy_15 rfl (Hh.2.1 _ (Nat.le_of_ble_eq_true rfl)) rfl ?_
  refine b_iload (pc := 17) C dX12_happy_17 0 rfl ?_
  refine b_if_eq (tgt := 31) (pc := 19) C dX12_happy_19 rfl (fun hc9 => ?_) (fun hc9 => ?_)
  · rw [if_pos hc9] at hF
    refine b_aload_n (pc := 31) C dX12_happy_31 rfl 1 rfl ?_
    refine b_getS (pc := 32) C dX12_happy_32 fl_X12_62 (Hh.1 _ _ sh_92) rfl ?_
    refine b_iload_n (pc := 35) C dX12_happy_35 rfl 2 rfl ?_
    obtain ⟨hb10, hF⟩ := bif_n hF
    refine b_iald (pc := 36) C dX12_happy_36 (Hh.1 _ _ sh_109) hb10 ?_
    exact b_iret (pc := 37) C Rt dX12_happy_37 hF
  · rw [if_neg hc9] at hF
    refine b_aload_n (pc := 22) C dX12_happy_22 rfl 1 rfl ?_
    refine b_iload (pc := 23) C dX12_happy_23 0 rfl ?_
    obtain ⟨v13, σ12, hc11, hF⟩ := bbd_e hF
    refine b_cV1i (d' := (d + 3)) (pc := 25) C dX12_happy_25 mm_X12_184 (Hh.1 _ _ sh_92) rfl (Nat.le_of_ble_eq_true rfl) (by omega) (Hh.2.2 _ _ _ _ _ _ _ _ _ (lvl_eq (by omega) (e_X12_no (d + 3) v8 _ _ _ hc11))) ?_
    refine b_goto (tgt := 37) (pc := 28) C dX12_happy_28 rfl ?_
    exact b_iret (pc := 37) C Rt dX12_happy_37 hF
set_option maxHeartbeats 4000000 in
set_option maxRecDepth 20000 in
theorem e_X12_happy {l : Launch} {G : bG} {ρ : Nat → Nat} {A : Nat → Prop} (d : Nat) (x1 : Int32) (x2 : Int32) (x3 : Int32) (σ : bSto) (r : Int32) (σ' : bSto) (hF : f_X12_happy x1 x2 x3 σ = some (r, σ')) : bEv l G bSHf ρ A yX12_happy cX12_happy 5 (some .int) (d + 4) [.ref 92, .int x1, .int x2, .int x3] σ (some (.int r)) σ' := b_met (d := d + 4) (by decide +kernel) (Nat.le_of_ble_eq_true rfl) rfl (fun X C Rt h1 h2 h3 => e_X12_happy_0 C ⟨fun o q h => by rw [h1]; exact h, fun i h => by rw [h2]; exact h, h3⟩ Rt _ _ _ _ hF)
/-! BenchColonyModel.note -/
def f_X12_note_J49  (σ : bSto) : Option bSto := bbv (f_X12_copy 97 (0 : Int32) 98 ((16 : Int32) * (σ.1 92 20)) (16 : Int32) σ) (fun σ2 => blet (bI σ2 92 20 ((σ2.1 92 20) + (1 : Int32))) (fun σ3 => some σ3))
def f_X12_note_L11 : Nat → Int32 → bSto → Option (bSto)
  | 0, _, _ => none
  | n + 1, x1, σ => (if (240 : Int32) ≤ x1 then some σ else if (x1 + (16 : Int32)) < 0 ∨ 256 ≤ (x1 + (16 : Int32)).toNatClampNeg then none else if x1 < 0 ∨ 256 ≤ x1.toNatClampNeg then none else blet (bI σ 98 x1.toNatClampNeg (σ.1 98 (x1 + (16 : Int32)).toNatClampNeg)) (fun σ3 => blet (x1 + (1 : Int32)) (fun x1_6 => f_X12_note_L11 n x1_6 σ3)))
def f_X12_note  (σ : bSto) : Option bSto := (if (σ.1 92 20) = (16 : Int32) then bl0 (f_X12_note_L11 bFU (0 : Int32) σ) (fun σ3 => blet (bI σ3 92 20 ((σ3.1 92 20) - (1 : Int32))) (fun σ4 => f_X12_note_J49  σ4)) else f_X12_note_J49  σ)
set_option maxHeartbeats 4000000 in
set_option maxRecDepth 20000 in
theorem e_X12_note_J49 {X : bX} {l : Launch} {G : bG} {ρ : Nat → Nat} {A : Nat → Prop} {d : Nat} {σ' : bSto} (C : bCX X cX12_note RX12 (d + 1)) (Hh : bH X l G bSHf ρ A 2) (Rt : bRX X none none σ')  (σ : bSto) (hF : f_X12_note_J49  σ = some σ') : bAJ X 49 [(0, .ref 92)] [] σ := by
  rw [f_X12_note_J49] at hF
  refine b_aload_n (pc := 49) C dX12_note_49 rfl 0 rfl ?_
  refine b_getS (pc := 50) C dX12_note_50 fl_X12_26 (Hh.1 _ _ sh_92) rfl ?_
  refine b_iconst (pc := 53) C dX12_note_53 ic_0 ?_
  refine b_aload_n (pc := 54) C dX12_note_54 rfl 0 rfl ?_
  refine b_getS (pc := 55) C dX12_note_55 fl_X12_29 (Hh.1 _ _ sh_92) rfl ?_
  refine b_bipush (pc := 58) C dX12_note_58 bp_16 ?_
  refine b_aload_n (pc := 60) C dX12_note_60 rfl 0 rfl ?_
  refine b_getI (pc := 61) C dX12_note_61 fl_X12_197 (Hh.1 _ _ sh_92) rfl ?_
  refine b_imul (pc := 64) C dX12_note_64 ?_
  refine b_bipush (pc := 65) C dX12_note_65 bp_16 ?_
  obtain ⟨σ2, hc1, hF⟩ := bbv_e hF
  refine b_cS5v (d' := (d + 0)) (pc := 67) C dX12_note_67 mm_X12_190 (Nat.le_of_ble_eq_true rfl) (by omega) (Hh.2.2 _ _ _ _ _ _ _ _ _ (lvl_eq (by omega) (e_X12_copy (d + 0) _ (show kIA 97 from sh_97) (0 : Int32) _ (show kIA 98 from sh_98) ((16 : Int32) * (σ.1 92 20)) (16 : Int32) _ _ hc1))) ?_
  refine b_aload_n (pc := 70) C dX12_note_70 rfl 0 rfl ?_
  refine b_dup (pc := 71) C dX12_note_71 rfl ?_
  refine b_getI (pc := 72) C dX12_note_72 fl_X12_197 (Hh.1 _ _ sh_92) rfl ?_
  refine b_iconst (pc := 75) C dX12_note_75 ic_1 ?_
  refine b_iadd (pc := 76) C dX12_note_76 ?_
  obtain ⟨σ3, e4, hF⟩ := blet_e hF
  refine b_putI (pc := 77) C dX12_note_77 fp_X12_197 (Hh.1 _ _ sh_92) rfl rfl rfl e4 ?_
  exact b_vret (pc := 80) C Rt dX12_note_80 hF
set_option maxHeartbeats 4000000 in
set_option maxRecDepth 20000 in
theorem e_X12_note_L11 {X : bX} {l : Launch} {G : bG} {ρ : Nat → Nat} {A : Nat → Prop} {d : Nat} {σ' : bSto} (C : bCX X cX12_note RX12 (d + 1)) (Hh : bH X l G bSHf ρ A 2) (Rt : bRX X none none σ') : ∀ (n : Nat) (x1 : Int32) (σ : bSto) (q : (bSto)), f_X12_note_L11 n x1 σ = some q → (∀  (s : bSto), q = s → bAJ X 39 [(0, .ref 92)] [] s) → bAJ X 11 [(0, .ref 92), (1, .int x1)] [] σ := by
  intro n
  induction n with
  | zero => intro x1 σ q hF; rw [f_X12_note_L11] at hF; cases hF
  | succ n ih =>
    intro x1 σ q hF hx
    rw [f_X12_note_L11] at hF
    refine b_iload_n (pc := 11) C dX12_note_11 rfl 1 rfl ?_
    refine b_sipush (pc := 12) C dX12_note_12 sp_240 ?_
    refine b_icmp_ge (tgt := 39) (pc := 15) C dX12_note_15 rfl (fun hc1 => ?_) (fun hc1 => ?_)
    · rw [if_pos hc1] at hF
      exact b_sub [0] rfl (hx  _ (Option.some.inj hF).symm )
    · rw [if_neg hc1] at hF
      refine b_aload_n (pc := 18) C dX12_note_18 rfl 0 rfl ?_
      refine b_getS (pc := 19) C dX12_note_19 fl_X12_29 (Hh.1 _ _ sh_92) rfl ?_
      refine b_iload_n (pc := 22) C dX12_note_22 rfl 1 rfl ?_
      refine b_aload_n (pc := 23) C dX12_note_23 rfl 0 rfl ?_
      refine b_getS (pc := 24) C dX12_note_24 fl_X12_29 (Hh.1 _ _ sh_92) rfl ?_
      refine b_iload_n (pc := 27) C dX12_note_27 rfl 1 rfl ?_
      refine b_bipush (pc := 28) C dX12_note_28 bp_16 ?_
      refine b_iadd (pc := 30) C dX12_note_30 ?_
      obtain ⟨hb2, hF⟩ := bif_n hF
      refine b_iald (pc := 31) C dX12_note_31 (Hh.1 _ _ sh_98) hb2 ?_
      obtain ⟨hb5, hF⟩ := bif_n hF
      obtain ⟨σ3, e4, hF⟩ := blet_e hF
      refine b_iast (pc := 32) C dX12_note_32 (Hh.1 _ _ sh_98) hb5 e4 ?_
      obtain ⟨x1_6, e7, hF⟩ := blet_e hF
      refine b_iinc (L' := [(1, .int x1_6), (0, .ref 92)]) (pc := 33) C dX12_note_33 1 rfl ic_1 e7 (Hh.2.1 _ (Nat.le_of_ble_eq_true rfl)) rfl ?_
      refine b_goto (tgt := 11) (pc := 36) C dX12_note_36 rfl ?_
      exact b_sub [1, 0] rfl (ih x1_6 _ _ hF hx)
set_option maxHeartbeats 4000000 in
set_option maxRecDepth 20000 in
theorem e_X12_note_0 {X : bX} {l : Launch} {G : bG} {ρ : Nat → Nat} {A : Nat → Prop} {d : Nat} {σ' : bSto} (C : bCX X cX12_note RX12 (d + 1)) (Hh : bH X l G bSHf ρ A 2) (Rt : bRX X none none σ')  (σ : bSto) (hF : f_X12_note  σ = some σ') : bAJ X 0 [(0, .ref 92)] [] σ := by
  rw [f_X12_note] at hF
  refine b_aload_n (pc := 0) C dX12_note_0 rfl 0 rfl ?_
  refine b_getI (pc := 1) C dX12_note_1 fl_X12_197 (Hh.1 _ _ sh_92) rfl ?_
  refine b_bipush (pc := 4) C dX12_note_4 bp_16 ?_
  refine b_icmp_ne (tgt := 49) (pc := 6) C dX12_note_6 rfl (fun hc1 => ?_) (fun hc1 => ?_)
  · rw [if_neg hc1] at hF
    exact b_sub [0] rfl (e_X12_note_J49 C Hh Rt  _ hF)
  · rw [if_pos hc1] at hF
    refine b_iconst (pc := 9) C dX12_note_9 ic_0 ?_
    refine b_istore_n (L' := [(1, .int (0 : Int32)), (0, .ref 92)]) (pc := 10) C dX12_note_10 rfl rfl (Hh.2.1 _ (Nat.le_of_ble_eq_true rfl)) rfl ?_
    obtain ⟨σ3, hq2, hF⟩ := bl0_e hF
    refine b_sub [1, 0] rfl (e_X12_note_L11 C Hh Rt bFU (0 : Int32) _ _ hq2 (fun  _ e  => ?_))
    cases e
    refine b_aload_n (pc := 39) C dX12_note_39 rfl 0 rfl ?_
    refine b_dup (pc := 40) C dX12_note_40 rfl ?_
    refine b_getI (pc := 41) C dX12_note_41 fl_X12_197 (Hh.1 _ _ sh_92) rfl ?_
    refine b_iconst (pc := 44) C dX12_note_44 ic_1 ?_
    refine b_isub (pc := 45) C dX12_note_45 ?_
    obtain ⟨σ4, e5, hF⟩ := blet_e hF
    refine b_putI (pc := 46) C dX12_note_46 fp_X12_197 (Hh.1 _ _ sh_92) rfl rfl rfl e5 ?_
    exact b_sub [0] rfl (e_X12_note_J49 C Hh Rt  _ hF)
set_option maxHeartbeats 4000000 in
set_option maxRecDepth 20000 in
theorem e_X12_note {l : Launch} {G : bG} {ρ : Nat → Nat} {A : Nat → Prop} (d : Nat)  (σ : bSto) (σ' : bSto) (hF : f_X12_note  σ = some σ') : bEv l G bSHf ρ A yX12_note cX12_note 2 none (d + 1) [.ref 92] σ none σ' := b_met (d := d + 1) (by decide +kernel) (Nat.le_of_ble_eq_true rfl) rfl (fun X C Rt h1 h2 h3 => e_X12_note_0 C ⟨fun o q h => by rw [h1]; exact h, fun i h => by rw [h2]; exact h, h3⟩ Rt  _ hF)
/-! BenchColonyModel.sit -/
def f_X12_sit_J20  (σ : bSto) : Option (Int32 × bSto) := bbd (f_X12_isNot (1 : Int32) σ) (fun v3 σ2 => if v3 = 0 ∨ v3 = 1 then some (v3, σ2) else none)
def f_X12_sit_J47  (σ : bSto) : Option (Int32 × bSto) := bbd (f_X12_isNot (5 : Int32) σ) (fun v3 σ2 => if v3 = 0 ∨ v3 = 1 then some (v3, σ2) else none)
def f_X12_sit (x1 : Int32) (x2 : Int32) (σ : bSto) : Option (Int32 × bSto) := bbv (f_X12_good  σ) (fun σ2 => bbd (f_X12_isPerson x1 σ2) (fun v5 σ4 => (if v5 = 0 then f_X12_sit_J20  σ4 else bbd (f_X12_isBench x2 σ4) (fun v9 σ8 => (if v9 = 0 then f_X12_sit_J20  σ8 else if x1 < 0 ∨ 16 ≤ x1.toNatClampNeg then none else (if (σ8.1 97 x1.toNatClampNeg) = (x2 + (1 : Int32)) then f_X12_sit_J47  σ8 else bbd (f_X12_mayOn x1 x2 σ8) (fun v15 σ14 => (if v15 = 0 then f_X12_sit_J47  σ14 else bbd (f_X12_isFree 97 x2 σ14) (fun v19 σ18 => (if v19 = 0 then bbd (f_X12_isNot (3 : Int32) σ18) (fun v28 σ27 => if v28 = 0 ∨ v28 = 1 then some (v28, σ27) else none) else bbv (f_X12_note  σ18) (fun σ22 => if x1 < 0 ∨ 16 ≤ x1.toNatClampNeg then none else blet (bI σ22 97 x1.toNatClampNeg (x2 + (1 : Int32))) (fun σ23 => some ((1 : Int32), σ23)))))))))))))
set_option maxHeartbeats 4000000 in
set_option maxRecDepth 20000 in
theorem e_X12_sit_J20 {X : bX} {l : Launch} {G : bG} {ρ : Nat → Nat} {A : Nat → Prop} {d : Nat} {r : Int32} {σ' : bSto} (C : bCX X cX12_sit RX12 (d + 2)) (Hh : bH X l G bSHf ρ A 3) (Rt : bRX X (some .boolean) (some (.int r)) σ')  (σ : bSto) (hF : f_X12_sit_J20  σ = some (r, σ')) : bAJ X 20 [(0, .ref 92)] [] σ := by
  rw [f_X12_sit_J20] at hF
  refine b_aload_n (pc := 20) C dX12_sit_20 rfl 0 rfl ?_
  refine b_iconst (pc := 21) C dX12_sit_21 ic_1 ?_
  obtain ⟨v3, σ2, hc1, hF⟩ := bbd_e hF
  refine b_cV1i (d' := (d + 1)) (pc := 22) C dX12_sit_22 mm_X12_427 (Hh.1 _ _ sh_92) rfl (Nat.le_of_ble_eq_true rfl) (by omega) (Hh.2.2 _ _ _ _ _ _ _ _ _ (lvl_eq (by omega) (e_X12_isNot (d + 1) (1 : Int32) _ _ _ hc1))) ?_
  obtain ⟨hz4, hF⟩ := bif_y hF
  exact b_zret (pc := 25) C Rt dX12_sit_25 (bz_n hz4) hF
set_option maxHeartbeats 4000000 in
set_option maxRecDepth 20000 in
theorem e_X12_sit_J47 {X : bX} {l : Launch} {G : bG} {ρ : Nat → Nat} {A : Nat → Prop} {d : Nat} {r : Int32} {σ' : bSto} (C : bCX X cX12_sit RX12 (d + 2)) (Hh : bH X l G bSHf ρ A 3) (Rt : bRX X (some .boolean) (some (.int r)) σ')  (σ : bSto) (hF : f_X12_sit_J47  σ = some (r, σ')) : bAJ X 47 [(0, .ref 92)] [] σ := by
  rw [f_X12_sit_J47] at hF
  refine b_aload_n (pc := 47) C dX12_sit_47 rfl 0 rfl ?_
  refine b_iconst (pc := 48) C dX12_sit_48 ic_5 ?_
  obtain ⟨v3, σ2, hc1, hF⟩ := bbd_e hF
  refine b_cV1i (d' := (d + 1)) (pc := 49) C dX12_sit_49 mm_X12_427 (Hh.1 _ _ sh_92) rfl (Nat.le_of_ble_eq_true rfl) (by omega) (Hh.2.2 _ _ _ _ _ _ _ _ _ (lvl_eq (by omega) (e_X12_isNot (d + 1) (5 : Int32) _ _ _ hc1))) ?_
  obtain ⟨hz4, hF⟩ := bif_y hF
  exact b_zret (pc := 52) C Rt dX12_sit_52 (bz_n hz4) hF
set_option maxHeartbeats 4000000 in
set_option maxRecDepth 20000 in
theorem e_X12_sit_0 {X : bX} {l : Launch} {G : bG} {ρ : Nat → Nat} {A : Nat → Prop} {d : Nat} {r : Int32} {σ' : bSto} (C : bCX X cX12_sit RX12 (d + 2)) (Hh : bH X l G bSHf ρ A 3) (Rt : bRX X (some .boolean) (some (.int r)) σ') (x1 : Int32) (x2 : Int32) (σ : bSto) (hF : f_X12_sit x1 x2 σ = some (r, σ')) : bAJ X 0 [(0, .ref 92), (1, .int x1), (2, .int x2)] [] σ := by
  rw [f_X12_sit] at hF
  refine b_aload_n (pc := 0) C dX12_sit_0 rfl 0 rfl ?_
  obtain ⟨σ2, hc1, hF⟩ := bbv_e hF
  refine b_cV0v (d' := (d + 1)) (pc := 1) C dX12_sit_1 mm_X12_181 (Hh.1 _ _ sh_92) rfl (Nat.le_of_ble_eq_true rfl) (by omega) (Hh.2.2 _ _ _ _ _ _ _ _ _ (lvl_eq (by omega) (e_X12_good (d + 1)  _ _ hc1))) ?_
  refine b_aload_n (pc := 4) C dX12_sit_4 rfl 0 rfl ?_
  refine b_iload_n (pc := 5) C dX12_sit_5 rfl 1 rfl ?_
  obtain ⟨v5, σ4, hc3, hF⟩ := bbd_e hF
  refine b_cV1i (d' := (d + 1)) (pc := 6) C dX12_sit_6 mm_X12_318 (Hh.1 _ _ sh_92) rfl (Nat.le_of_ble_eq_true rfl) (by omega) (Hh.2.2 _ _ _ _ _ _ _ _ _ (lvl_eq (by omega) (e_X12_isPerson (d + 0) x1 _ _ _ hc3))) ?_
  refine b_if_eq (tgt := 20) (pc := 9) C dX12_sit_9 rfl (fun hc6 => ?_) (fun hc6 => ?_)
  · rw [if_pos hc6] at hF
    exact b_sub [0] rfl (e_X12_sit_J20 C Hh Rt  _ hF)
  · rw [if_neg hc6] at hF
    refine b_aload_n (pc := 12) C dX12_sit_12 rfl 0 rfl ?_
    refine b_iload_n (pc := 13) C dX12_sit_13 rfl 2 rfl ?_
    obtain ⟨v9, σ8, hc7, hF⟩ := bbd_e hF
    refine b_cV1i (d' := (d + 1)) (pc := 14) C dX12_sit_14 mm_X12_312 (Hh.1 _ _ sh_92) rfl (Nat.le_of_ble_eq_true rfl) (by omega) (Hh.2.2 _ _ _ _ _ _ _ _ _ (lvl_eq (by omega) (e_X12_isBench (d + 0) x2 _ _ _ hc7))) ?_
    refine b_if_ne (tgt := 26) (pc := 17) C dX12_sit_17 rfl (fun hc10 => ?_) (fun hc10 => ?_)
    · rw [if_neg hc10] at hF
      refine b_aload_n (pc := 26) C dX12_sit_26 rfl 0 rfl ?_
      refine b_getS (pc := 27) C dX12_sit_27 fl_X12_26 (Hh.1 _ _ sh_92) rfl ?_
      refine b_iload_n (pc := 30) C dX12_sit_30 rfl 1 rfl ?_
      obtain ⟨hb11, hF⟩ := bif_n hF
      refine b_iald (pc := 31) C dX12_sit_31 (Hh.1 _ _ sh_97) hb11 ?_
      refine b_iload_n (pc := 32) C dX12_sit_32 rfl 2 rfl ?_
      refine b_iconst (pc := 33) C dX12_sit_33 ic_1 ?_
      refine b_iadd (pc := 34) C dX12_sit_34 ?_
      refine b_icmp_eq (tgt := 47) (pc := 35) C dX12_sit_35 rfl (fun hc12 => ?_) (fun hc12 => ?_)
      · rw [if_pos hc12] at hF
        exact b_sub [0] rfl (e_X12_sit_J47 C Hh Rt  _ hF)
      · rw [if_neg hc12] at hF
        refine b_aload_n (pc := 38) C dX12_sit_38 rfl 0 rfl ?_
        refine b_iload_n (pc := 39) C dX12_sit_39 rfl 1 rfl ?_
        refine b_iload_n (pc := 40) C dX12_sit_40 rfl 2 rfl ?_
        obtain ⟨v15, σ14, hc13, hF⟩ := bbd_e hF
        refine b_cV2i (d' := (d + 1)) (pc := 41) C dX12_sit_41 mm_X12_327 (Hh.1 _ _ sh_92) rfl (Nat.le_of_ble_eq_true rfl) (by omega) (Hh.2.2 _ _ _ _ _ _ _ _ _ (lvl_eq (by omega) (e_X12_mayOn (d + 0) x1 x2 _ _ _ hc13))) ?_
        refine b_if_ne (tgt := 53) (pc := 44) C dX12_sit_44 rfl (fun hc16 => ?_) (fun hc16 => ?_)
        · rw [if_neg hc16] at hF
          refine b_aload_n (pc := 53) C dX12_sit_53 rfl 0 rfl ?_
          refine b_aload_n (pc := 54) C dX12_sit_54 rfl 0 rfl ?_
          refine b_getS (pc := 55) C dX12_sit_55 fl_X12_26 (Hh.1 _ _ sh_92) rfl ?_
          refine b_iload_n (pc := 58) C dX12_sit_58 rfl 2 rfl ?_
          obtain ⟨v19, σ18, hc17, hF⟩ := bbd_e hF
          refine b_cV2i (d' := (d + 1)) (pc := 59) C dX12_sit_59 mm_X12_336 (Hh.1 _ _ sh_92) rfl (Nat.le_of_ble_eq_true rfl) (by omega) (Hh.2.2 _ _ _ _ _ _ _ _ _ (lvl_eq (by omega) (e_X12_isFree (d + 0) _ (show kIA 97 from sh_97) x2 _ _ _ hc17))) ?_
          refine b_if_ne (tgt := 71) (pc := 62) C dX12_sit_62 rfl (fun hc20 => ?_) (fun hc20 => ?_)
          · rw [if_neg hc20] at hF
            refine b_aload_n (pc := 71) C dX12_sit_71 rfl 0 rfl ?_
            obtain ⟨σ22, hc21, hF⟩ := bbv_e hF
            refine b_cV0v (d' := (d + 1)) (pc := 72) C dX12_sit_72 mm_X12_430 (Hh.1 _ _ sh_92) rfl (Nat.le_of_ble_eq_true rfl) (by omega) (Hh.2.2 _ _ _ _ _ _ _ _ _ (lvl_eq (by omega) (e_X12_note (d + 0)  _ _ hc21))) ?_
            refine b_aload_n (pc := 75) C dX12_sit_75 rfl 0 rfl ?_
            refine b_getS (pc := 76) C dX12_sit_76 fl_X12_26 (Hh.1 _ _ sh_92) rfl ?_
            refine b_iload_n (pc := 79) C dX12_sit_79 rfl 1 rfl ?_
            refine b_iload_n (pc := 80) C dX12_sit_80 rfl 2 rfl ?_
            refine b_iconst (pc := 81) C dX12_sit_81 ic_1 ?_
            refine b_iadd (pc := 82) C dX12_sit_82 ?_
            obtain ⟨hb25, hF⟩ := bif_n hF
            obtain ⟨σ23, e24, hF⟩ := blet_e hF
            refine b_iast (pc := 83) C dX12_sit_83 (Hh.1 _ _ sh_97) hb25 e24 ?_
            refine b_iconst (pc := 84) C dX12_sit_84 ic_1 ?_
            exact b_zret (pc := 85) C Rt dX12_sit_85 rfl hF
          · rw [if_pos hc20] at hF
            refine b_aload_n (pc := 65) C dX12_sit_65 rfl 0 rfl ?_
            refine b_iconst (pc := 66) C dX12_sit_66 ic_3 ?_
            obtain ⟨v28, σ27, hc26, hF⟩ := bbd_e hF
            refine b_cV1i (d' := (d + 1)) (pc := 67) C dX12_sit_67 mm_X12_427 (Hh.1 _ _ sh_92) rfl (Nat.le_of_ble_eq_true rfl) (by omega) (Hh.2.2 _ _ _ _ _ _ _ _ _ (lvl_eq (by omega) (e_X12_isNot (d + 1) (3 : Int32) _ _ _ hc26))) ?_
            obtain ⟨hz29, hF⟩ := bif_y hF
            exact b_zret (pc := 70) C Rt dX12_sit_70 (bz_n hz29) hF
        · rw [if_pos hc16] at hF
          exact b_sub [0] rfl (e_X12_sit_J47 C Hh Rt  _ hF)
    · rw [if_pos hc10] at hF
      exact b_sub [0] rfl (e_X12_sit_J20 C Hh Rt  _ hF)
set_option maxHeartbeats 4000000 in
set_option maxRecDepth 20000 in
theorem e_X12_sit {l : Launch} {G : bG} {ρ : Nat → Nat} {A : Nat → Prop} (d : Nat) (x1 : Int32) (x2 : Int32) (σ : bSto) (r : Int32) (σ' : bSto) (hF : f_X12_sit x1 x2 σ = some (r, σ')) : bEv l G bSHf ρ A yX12_sit cX12_sit 3 (some .boolean) (d + 2) [.ref 92, .int x1, .int x2] σ (some (.int r)) σ' := b_met (d := d + 2) (by decide +kernel) (Nat.le_of_ble_eq_true rfl) rfl (fun X C Rt h1 h2 h3 => e_X12_sit_0 C ⟨fun o q h => by rw [h1]; exact h, fun i h => by rw [h2]; exact h, h3⟩ Rt _ _ _ hF)
/-! BenchColonyModel.stand -/
def f_X12_stand (x1 : Int32) (σ : bSto) : Option (Int32 × bSto) := bbv (f_X12_good  σ) (fun σ2 => bbd (f_X12_isPerson x1 σ2) (fun v5 σ4 => (if v5 = 0 then bbd (f_X12_isNot (1 : Int32) σ4) (fun v20 σ19 => if v20 = 0 ∨ v20 = 1 then some (v20, σ19) else none) else if x1 < 0 ∨ 16 ≤ x1.toNatClampNeg then none else (if (σ4.1 97 x1.toNatClampNeg) = 0 then bbd (f_X12_isNot (5 : Int32) σ4) (fun v16 σ15 => if v16 = 0 ∨ v16 = 1 then some (v16, σ15) else none) else bbv (f_X12_note  σ4) (fun σ10 => if x1 < 0 ∨ 16 ≤ x1.toNatClampNeg then none else blet (bI σ10 97 x1.toNatClampNeg (0 : Int32)) (fun σ11 => some ((1 : Int32), σ11)))))))
set_option maxHeartbeats 4000000 in
set_option maxRecDepth 20000 in
theorem e_X12_stand_0 {X : bX} {l : Launch} {G : bG} {ρ : Nat → Nat} {A : Nat → Prop} {d : Nat} {r : Int32} {σ' : bSto} (C : bCX X cX12_stand RX12 (d + 2)) (Hh : bH X l G bSHf ρ A 2) (Rt : bRX X (some .boolean) (some (.int r)) σ') (x1 : Int32) (σ : bSto) (hF : f_X12_stand x1 σ = some (r, σ')) : bAJ X 0 [(0, .ref 92), (1, .int x1)] [] σ := by
  rw [f_X12_stand] at hF
  refine b_aload_n (pc := 0) C dX12_stand_0 rfl 0 rfl ?_
  obtain ⟨σ2, hc1, hF⟩ := bbv_e hF
  refine b_cV0v (d' := (d + 1)) (pc := 1) C dX12_stand_1 mm_X12_181 (Hh.1 _ _ sh_92) rfl (Nat.le_of_ble_eq_true rfl) (by omega) (Hh.2.2 _ _ _ _ _ _ _ _ _ (lvl_eq (by omega) (e_X12_good (d + 1)  _ _ hc1))) ?_
  refine b_aload_n (pc := 4) C dX12_stand_4 rfl 0 rfl ?_
  refine b_iload_n (pc := 5) C dX12_stand_5 rfl 1 rfl ?_
  obtain ⟨v5, σ4, hc3, hF⟩ := bbd_e hF
  refine b_cV1i (d' := (d + 1)) (pc := 6) C dX12_stand_6 mm_X12_318 (Hh.1 _ _ sh_92) rfl (Nat.le_of_ble_eq_true rfl) (by omega) (Hh.2.2 _ _ _ _ _ _ _ _ _ (lvl_eq (by omega) (e_X12_isPerson (d + 0) x1 _ _ _ hc3))) ?_
  refine b_if_ne (tgt := 18) (pc := 9) C dX12_stand_9 rfl (fun hc6 => ?_) (fun hc6 => ?_)
  · rw [if_neg hc6] at hF
    refine b_aload_n (pc := 18) C dX12_stand_18 rfl 0 rfl ?_
    refine b_getS (pc := 19) C dX12_stand_19 fl_X12_26 (Hh.1 _ _ sh_92) rfl ?_
    refine b_iload_n (pc := 22) C dX12_stand_22 rfl 1 rfl ?_
    obtain ⟨hb7, hF⟩ := bif_n hF
    refine b_iald (pc := 23) C dX12_stand_23 (Hh.1 _ _ sh_97) hb7 ?_
    refine b_if_ne (tgt := 33) (pc := 24) C dX12_stand_24 rfl (fun hc8 => ?_) (fun hc8 => ?_)
    · rw [if_neg hc8] at hF
      refine b_aload_n (pc := 33) C dX12_stand_33 rfl 0 rfl ?_
      obtain ⟨σ10, hc9, hF⟩ := bbv_e hF
      refine b_cV0v (d' := (d + 1)) (pc := 34) C dX12_stand_34 mm_X12_430 (Hh.1 _ _ sh_92) rfl (Nat.le_of_ble_eq_true rfl) (by omega) (Hh.2.2 _ _ _ _ _ _ _ _ _ (lvl_eq (by omega) (e_X12_note (d + 0)  _ _ hc9))) ?_
      refine b_aload_n (pc := 37) C dX12_stand_37 rfl 0 rfl ?_
      refine b_getS (pc := 38) C dX12_stand_38 fl_X12_26 (Hh.1 _ _ sh_92) rfl ?_
      refine b_iload_n (pc := 41) C dX12_stand_41 rfl 1 rfl ?_
      refine b_iconst (pc := 42) C dX12_stand_42 ic_0 ?_
      obtain ⟨hb13, hF⟩ := bif_n hF
      obtain ⟨σ11, e12, hF⟩ := blet_e hF
      refine b_iast (pc := 43) C dX12_stand_43 (Hh.1 _ _ sh_97) hb13 e12 ?_
      refine b_iconst (pc := 44) C dX12_stand_44 ic_1 ?_
      exact b_zret (pc := 45) C Rt dX12_stand_45 rfl hF
    · rw [if_pos hc8] at hF
      refine b_aload_n (pc := 27) C dX12_stand_27 rfl 0 rfl ?_
      refine b_iconst (pc := 28) C dX12_stand_28 ic_5 ?_
      obtain ⟨v16, σ15, hc14, hF⟩ := bbd_e hF
      refine b_cV1i (d' := (d + 1)) (pc := 29) C dX12_stand_29 mm_X12_427 (Hh.1 _ _ sh_92) rfl (Nat.le_of_ble_eq_true rfl) (by omega) (Hh.2.2 _ _ _ _ _ _ _ _ _ (lvl_eq (by omega) (e_X12_isNot (d + 1) (5 : Int32) _ _ _ hc14))) ?_
      obtain ⟨hz17, hF⟩ := bif_y hF
      exact b_zret (pc := 32) C Rt dX12_stand_32 (bz_n hz17) hF
  · rw [if_pos hc6] at hF
    refine b_aload_n (pc := 12) C dX12_stand_12 rfl 0 rfl ?_
    refine b_iconst (pc := 13) C dX12_stand_13 ic_1 ?_
    obtain ⟨v20, σ19, hc18, hF⟩ := bbd_e hF
    refine b_cV1i (d' := (d + 1)) (pc := 14) C dX12_stand_14 mm_X12_427 (Hh.1 _ _ sh_92) rfl (Nat.le_of_ble_eq_true rfl) (by omega) (Hh.2.2 _ _ _ _ _ _ _ _ _ (lvl_eq (by omega) (e_X12_isNot (d + 1) (1 : Int32) _ _ _ hc18))) ?_
    obtain ⟨hz21, hF⟩ := bif_y hF
    exact b_zret (pc := 17) C Rt dX12_stand_17 (bz_n hz21) hF
set_option maxHeartbeats 4000000 in
set_option maxRecDepth 20000 in
theorem e_X12_stand {l : Launch} {G : bG} {ρ : Nat → Nat} {A : Nat → Prop} (d : Nat) (x1 : Int32) (σ : bSto) (r : Int32) (σ' : bSto) (hF : f_X12_stand x1 σ = some (r, σ')) : bEv l G bSHf ρ A yX12_stand cX12_stand 2 (some .boolean) (d + 2) [.ref 92, .int x1] σ (some (.int r)) σ' := b_met (d := d + 2) (by decide +kernel) (Nat.le_of_ble_eq_true rfl) rfl (fun X C Rt h1 h2 h3 => e_X12_stand_0 C ⟨fun o q h => by rw [h1]; exact h, fun i h => by rw [h2]; exact h, h3⟩ Rt _ _ hF)
/-! BenchColonyModel.preach -/
def f_X12_preach (x1 : Int32) (x2 : Int32) (σ : bSto) : Option (Int32 × bSto) := bbv (f_X12_good  σ) (fun σ2 => bbd (f_X12_isPerson x1 σ2) (fun v5 σ4 => (if v5 = 0 then bbd (f_X12_isNot (1 : Int32) σ4) (fun v28 σ27 => if v28 = 0 ∨ v28 = 1 then some (v28, σ27) else none) else bbd (f_X12_in x2 (-1 : Int32) (1 : Int32) σ4) (fun v9 σ8 => (if v9 = 0 then bbd (f_X12_isNot (2 : Int32) σ8) (fun v24 σ23 => if v24 = 0 ∨ v24 = 1 then some (v24, σ23) else none) else if ((7 : Int32) + x1) < 0 ∨ 16 ≤ ((7 : Int32) + x1).toNatClampNeg then none else (if (σ8.1 97 ((7 : Int32) + x1).toNatClampNeg) = x2 then bbd (f_X12_isNot (5 : Int32) σ8) (fun v20 σ19 => if v20 = 0 ∨ v20 = 1 then some (v20, σ19) else none) else bbv (f_X12_note  σ8) (fun σ14 => if ((7 : Int32) + x1) < 0 ∨ 16 ≤ ((7 : Int32) + x1).toNatClampNeg then none else blet (bI σ14 97 ((7 : Int32) + x1).toNatClampNeg x2) (fun σ15 => some ((1 : Int32), σ15)))))))))
set_option maxHeartbeats 4000000 in
set_option maxRecDepth 20000 in
theorem e_X12_preach_0 {X : bX} {l : Launch} {G : bG} {ρ : Nat → Nat} {A : Nat → Prop} {d : Nat} {r : Int32} {σ' : bSto} (C : bCX X cX12_preach RX12 (d + 2)) (Hh : bH X l G bSHf ρ A 3) (Rt : bRX X (some .boolean) (some (.int r)) σ') (x1 : Int32) (x2 : Int32) (σ : bSto) (hF : f_X12_preach x1 x2 σ = some (r, σ')) : bAJ X 0 [(0, .ref 92), (1, .int x1), (2, .int x2)] [] σ := by
  rw [f_X12_preach] at hF
  refine b_aload_n (pc := 0) C dX12_preach_0 rfl 0 rfl ?_
  obtain ⟨σ2, hc1, hF⟩ := bbv_e hF
  refine b_cV0v (d' := (d + 1)) (pc := 1) C dX12_preach_1 mm_X12_181 (Hh.1 _ _ sh_92) rfl (Nat.le_of_ble_eq_true rfl) (by omega) (Hh.2.2 _ _ _ _ _ _ _ _ _ (lvl_eq (by omega) (e_X12_good (d + 1)  _ _ hc1))) ?_
  refine b_aload_n (pc := 4) C dX12_preach_4 rfl 0 rfl ?_
  refine b_iload_n (pc := 5) C dX12_preach_5 rfl 1 rfl ?_
  obtain ⟨v5, σ4, hc3, hF⟩ := bbd_e hF
  refine b_cV1i (d' := (d + 1)) (pc := 6) C dX12_preach_6 mm_X12_318 (Hh.1 _ _ sh_92) rfl (Nat.le_of_ble_eq_true rfl) (by omega) (Hh.2.2 _ _ _ _ _ _ _ _ _ (lvl_eq (by omega) (e_X12_isPerson (d + 0) x1 _ _ _ hc3))) ?_
  refine b_if_ne (tgt := 18) (pc := 9) C dX12_preach_9 rfl (fun hc6 => ?_) (fun hc6 => ?_)
  · rw [if_neg hc6] at hF
    refine b_iload_n (pc := 18) C dX12_preach_18 rfl 2 rfl ?_
    refine b_iconst (pc := 19) C dX12_preach_19 ic_m1 ?_
    refine b_iconst (pc := 20) C dX12_preach_20 ic_1 ?_
    obtain ⟨v9, σ8, hc7, hF⟩ := bbd_e hF
    refine b_cS3i (d' := (d + 1)) (pc := 21) C dX12_preach_21 mm_X12_160 (Nat.le_of_ble_eq_true rfl) (by omega) (Hh.2.2 _ _ _ _ _ _ _ _ _ (lvl_eq (by omega) (e_X12_in (d + 1) x2 (-1 : Int32) (1 : Int32) _ _ _ hc7))) ?_
    refine b_if_ne (tgt := 33) (pc := 24) C dX12_preach_24 rfl (fun hc10 => ?_) (fun hc10 => ?_)
    · rw [if_neg hc10] at hF
      refine b_aload_n (pc := 33) C dX12_preach_33 rfl 0 rfl ?_
      refine b_getS (pc := 34) C dX12_preach_34 fl_X12_26 (Hh.1 _ _ sh_92) rfl ?_
      refine b_bipush (pc := 37) C dX12_preach_37 bp_7 ?_
      refine b_iload_n (pc := 39) C dX12_preach_39 rfl 1 rfl ?_
      refine b_iadd (pc := 40) C dX12_preach_40 ?_
      obtain ⟨hb11, hF⟩ := bif_n hF
      refine b_iald (pc := 41) C dX12_preach_41 (Hh.1 _ _ sh_97) hb11 ?_
      refine b_iload_n (pc := 42) C dX12_preach_42 rfl 2 rfl ?_
      refine b_icmp_ne (tgt := 52) (pc := 43) C dX12_preach_43 rfl (fun hc12 => ?_) (fun hc12 => ?_)
      · rw [if_neg hc12] at hF
        refine b_aload_n (pc := 52) C dX12_preach_52 rfl 0 rfl ?_
        obtain ⟨σ14, hc13, hF⟩ := bbv_e hF
        refine b_cV0v (d' := (d + 1)) (pc := 53) C dX12_preach_53 mm_X12_430 (Hh.1 _ _ sh_92) rfl (Nat.le_of_ble_eq_true rfl) (by omega) (Hh.2.2 _ _ _ _ _ _ _ _ _ (lvl_eq (by omega) (e_X12_note (d + 0)  _ _ hc13))) ?_
        refine b_aload_n (pc := 56) C dX12_preach_56 rfl 0 rfl ?_
        refine b_getS (pc := 57) C dX12_preach_57 fl_X12_26 (Hh.1 _ _ sh_92) rfl ?_
        refine b_bipush (pc := 60) C dX12_preach_60 bp_7 ?_
        refine b_iload_n (pc := 62) C dX12_preach_62 rfl 1 rfl ?_
        refine b_iadd (pc := 63) C dX12_preach_63 ?_
        refine b_iload_n (pc := 64) C dX12_preach_64 rfl 2 rfl ?_
        obtain ⟨hb17, hF⟩ := bif_n hF
        obtain ⟨σ15, e16, hF⟩ := blet_e hF
        refine b_iast (pc := 65) C dX12_preach_65 (Hh.1 _ _ sh_97) hb17 e16 ?_
        refine b_iconst (pc := 66) C dX12_preach_66 ic_1 ?_
        exact b_zret (pc := 67) C Rt dX12_preach_67 rfl hF
      · rw [if_pos hc12] at hF
        refine b_aload_n (pc := 46) C dX12_preach_46 rfl 0 rfl ?_
        refine b_iconst (pc := 47) C dX12_preach_47 ic_5 ?_
        obtain ⟨v20, σ19, hc18, hF⟩ := bbd_e hF
        refine b_cV1i (d' := (d + 1)) (pc := 48) C dX12_preach_48 mm_X12_427 (Hh.1 _ _ sh_92) rfl (Nat.le_of_ble_eq_true rfl) (by omega) (Hh.2.2 _ _ _ _ _ _ _ _ _ (lvl_eq (by omega) (e_X12_isNot (d + 1) (5 : Int32) _ _ _ hc18))) ?_
        obtain ⟨hz21, hF⟩ := bif_y hF
        exact b_zret (pc := 51) C Rt dX12_preach_51 (bz_n hz21) hF
    · rw [if_pos hc10] at hF
      refine b_aload_n (pc := 27) C dX12_preach_27 rfl 0 rfl ?_
      refine b_iconst (pc := 28) C dX12_preach_28 ic_2 ?_
      obtain ⟨v24, σ23, hc22, hF⟩ := bbd_e hF
      refine b_cV1i (d' := (d + 1)) (pc := 29) C dX12_preach_29 mm_X12_427 (Hh.1 _ _ sh_92) rfl (Nat.le_of_ble_eq_true rfl) (by omega) (Hh.2.2 _ _ _ _ _ _ _ _ _ (lvl_eq (by omega) (e_X12_isNot (d + 1) (2 : Int32) _ _ _ hc22))) ?_
      obtain ⟨hz25, hF⟩ := bif_y hF
      exact b_zret (pc := 32) C Rt dX12_preach_32 (bz_n hz25) hF
  · rw [if_pos hc6] at hF
    refine b_aload_n (pc := 12) C dX12_preach_12 rfl 0 rfl ?_
    refine b_iconst (pc := 13) C dX12_preach_13 ic_1 ?_
    obtain ⟨v28, σ27, hc26, hF⟩ := bbd_e hF
    refine b_cV1i (d' := (d + 1)) (pc := 14) C dX12_preach_14 mm_X12_427 (Hh.1 _ _ sh_92) rfl (Nat.le_of_ble_eq_true rfl) (by omega) (Hh.2.2 _ _ _ _ _ _ _ _ _ (lvl_eq (by omega) (e_X12_isNot (d + 1) (1 : Int32) _ _ _ hc26))) ?_
    obtain ⟨hz29, hF⟩ := bif_y hF
    exact b_zret (pc := 17) C Rt dX12_preach_17 (bz_n hz29) hF
set_option maxHeartbeats 4000000 in
set_option maxRecDepth 20000 in
theorem e_X12_preach {l : Launch} {G : bG} {ρ : Nat → Nat} {A : Nat → Prop} (d : Nat) (x1 : Int32) (x2 : Int32) (σ : bSto) (r : Int32) (σ' : bSto) (hF : f_X12_preach x1 x2 σ = some (r, σ')) : bEv l G bSHf ρ A yX12_preach cX12_preach 3 (some .boolean) (d + 2) [.ref 92, .int x1, .int x2] σ (some (.int r)) σ' := b_met (d := d + 2) (by decide +kernel) (Nat.le_of_ble_eq_true rfl) rfl (fun X C Rt h1 h2 h3 => e_X12_preach_0 C ⟨fun o q h => by rw [h1]; exact h, fun i h => by rw [h2]; exact h, h3⟩ Rt _ _ _ hF)
/-! BenchColonyModel.round -/
def f_X12_round  (σ : bSto) : Option (Int32 × bSto) := bbv (f_X12_good  σ) (fun σ2 => (if (σ2.1 92 14) = 0 then bbd (f_X12_no (1 : Int32) σ2) (fun v11 σ10 => some (v11, σ10)) else bbv (f_X12_note  σ2) (fun σ5 => bbd (f_X12_roundOf 97 (7 : Int32) σ5) (fun v8 σ7 => some (v8, σ7)))))
set_option maxHeartbeats 4000000 in
set_option maxRecDepth 20000 in
theorem e_X12_round_0 {X : bX} {l : Launch} {G : bG} {ρ : Nat → Nat} {A : Nat → Prop} {d : Nat} {r : Int32} {σ' : bSto} (C : bCX X cX12_round RX12 (d + 2)) (Hh : bH X l G bSHf ρ A 1) (Rt : bRX X (some .int) (some (.int r)) σ')  (σ : bSto) (hF : f_X12_round  σ = some (r, σ')) : bAJ X 0 [(0, .ref 92)] [] σ := by
  rw [f_X12_round] at hF
  refine b_aload_n (pc := 0) C dX12_round_0 rfl 0 rfl ?_
  obtain ⟨σ2, hc1, hF⟩ := bbv_e hF
  refine b_cV0v (d' := (d + 1)) (pc := 1) C dX12_round_1 mm_X12_181 (Hh.1 _ _ sh_92) rfl (Nat.le_of_ble_eq_true rfl) (by omega) (Hh.2.2 _ _ _ _ _ _ _ _ _ (lvl_eq (by omega) (e_X12_good (d + 1)  _ _ hc1))) ?_
  refine b_aload_n (pc := 4) C dX12_round_4 rfl 0 rfl ?_
  refine b_getI (pc := 5) C dX12_round_5 fl_X12_194 (Hh.1 _ _ sh_92) rfl ?_
  refine b_if_ne (tgt := 17) (pc := 8) C dX12_round_8 rfl (fun hc3 => ?_) (fun hc3 => ?_)
  · rw [if_neg hc3] at hF
    refine b_aload_n (pc := 17) C dX12_round_17 rfl 0 rfl ?_
    obtain ⟨σ5, hc4, hF⟩ := bbv_e hF
    refine b_cV0v (d' := (d + 1)) (pc := 18) C dX12_round_18 mm_X12_430 (Hh.1 _ _ sh_92) rfl (Nat.le_of_ble_eq_true rfl) (by omega) (Hh.2.2 _ _ _ _ _ _ _ _ _ (lvl_eq (by omega) (e_X12_note (d + 0)  _ _ hc4))) ?_
    refine b_aload_n (pc := 21) C dX12_round_21 rfl 0 rfl ?_
    refine b_aload_n (pc := 22) C dX12_round_22 rfl 0 rfl ?_
    refine b_getS (pc := 23) C dX12_round_23 fl_X12_26 (Hh.1 _ _ sh_92) rfl ?_
    refine b_bipush (pc := 26) C dX12_round_26 bp_7 ?_
    obtain ⟨v8, σ7, hc6, hF⟩ := bbd_e hF
    refine b_cV2i (d' := (d + 1)) (pc := 28) C dX12_round_28 mm_X12_396 (Hh.1 _ _ sh_92) rfl (Nat.le_of_ble_eq_true rfl) (by omega) (Hh.2.2 _ _ _ _ _ _ _ _ _ (lvl_eq (by omega) (e_X12_roundOf (d + 0) _ (show kIA 97 from sh_97) (7 : Int32) _ _ _ hc6))) ?_
    exact b_iret (pc := 31) C Rt dX12_round_31 hF
  · rw [if_pos hc3] at hF
    refine b_aload_n (pc := 11) C dX12_round_11 rfl 0 rfl ?_
    refine b_iconst (pc := 12) C dX12_round_12 ic_1 ?_
    obtain ⟨v11, σ10, hc9, hF⟩ := bbd_e hF
    refine b_cV1i (d' := (d + 1)) (pc := 13) C dX12_round_13 mm_X12_184 (Hh.1 _ _ sh_92) rfl (Nat.le_of_ble_eq_true rfl) (by omega) (Hh.2.2 _ _ _ _ _ _ _ _ _ (lvl_eq (by omega) (e_X12_no (d + 1) (1 : Int32) _ _ _ hc9))) ?_
    exact b_iret (pc := 16) C Rt dX12_round_16 hF
set_option maxHeartbeats 4000000 in
set_option maxRecDepth 20000 in
theorem e_X12_round {l : Launch} {G : bG} {ρ : Nat → Nat} {A : Nat → Prop} (d : Nat)  (σ : bSto) (r : Int32) (σ' : bSto) (hF : f_X12_round  σ = some (r, σ')) : bEv l G bSHf ρ A yX12_round cX12_round 1 (some .int) (d + 2) [.ref 92] σ (some (.int r)) σ' := b_met (d := d + 2) (by decide +kernel) (Nat.le_of_ble_eq_true rfl) rfl (fun X C Rt h1 h2 h3 => e_X12_round_0 C ⟨fun o q h => by rw [h1]; exact h, fun i h => by rw [h2]; exact h, h3⟩ Rt  _ hF)
/-! BenchColonyModel.day -/
def f_X12_day  (σ : bSto) : Option (Int32 × bSto) := bbv (f_X12_good  σ) (fun σ2 => (if (σ2.1 92 14) = 0 then bbd (f_X12_no (1 : Int32) σ2) (fun v22 σ21 => some (v22, σ21)) else (if (σ2.1 97 15) = (99 : Int32) then bbd (f_X12_no (3 : Int32) σ2) (fun v19 σ18 => some (v19, σ18)) else bbv (f_X12_note  σ2) (fun σ6 => bbd (f_X12_whoEats (σ6.1 97 14) σ6) (fun v9 σ8 => bbd (f_X12_ones v9 σ8) (fun v12 σ11 => blet (bI σ11 97 14 ((σ8.1 97 14) - v12)) (fun σ13 => blet (bI σ13 97 15 ((σ13.1 97 15) + (1 : Int32))) (fun σ15 => some (v9, σ15)))))))))
set_option maxHeartbeats 4000000 in
set_option maxRecDepth 20000 in
theorem e_X12_day_0 {X : bX} {l : Launch} {G : bG} {ρ : Nat → Nat} {A : Nat → Prop} {d : Nat} {r : Int32} {σ' : bSto} (C : bCX X cX12_day RX12 (d + 2)) (Hh : bH X l G bSHf ρ A 2) (Rt : bRX X (some .int) (some (.int r)) σ')  (σ : bSto) (hF : f_X12_day  σ = some (r, σ')) : bAJ X 0 [(0, .ref 92)] [] σ := by
  rw [f_X12_day] at hF
  refine b_aload_n (pc := 0) C dX12_day_0 rfl 0 rfl ?_
  obtain ⟨σ2, hc1, hF⟩ := bbv_e hF
  refine b_cV0v (d' := (d + 1)) (pc := 1) C dX12_day_1 mm_X12_181 (Hh.1 _ _ sh_92) rfl (Nat.le_of_ble_eq_true rfl) (by omega) (Hh.2.2 _ _ _ _ _ _ _ _ _ (lvl_eq (by omega) (e_X12_good (d + 1)  _ _ hc1))) ?_
  refine b_aload_n (pc := 4) C dX12_day_4 rfl 0 rfl ?_
  refine b_getI (pc := 5) C dX12_day_5 fl_X12_194 (Hh.1 _ _ sh_92) rfl ?_
  refine b_if_ne (tgt := 17) (pc := 8) C dX12_day_8 rfl (fun hc3 => ?_) (fun hc3 => ?_)
  · rw [if_neg hc3] at hF
    refine b_aload_n (pc := 17) C dX12_day_17 rfl 0 rfl ?_
    refine b_getS (pc := 18) C dX12_day_18 fl_X12_26 (Hh.1 _ _ sh_92) rfl ?_
    refine b_bipush (pc := 21) C dX12_day_21 bp_15 ?_
    refine b_ialdK (pc := 23) C dX12_day_23 (Hh.1 _ _ sh_97) tn_15 (by decide) ?_
    refine b_bipush (pc := 24) C dX12_day_24 bp_99 ?_
    refine b_icmp_ne (tgt := 35) (pc := 26) C dX12_day_26 rfl (fun hc4 => ?_) (fun hc4 => ?_)
    · rw [if_neg hc4] at hF
      refine b_aload_n (pc := 35) C dX12_day_35 rfl 0 rfl ?_
      obtain ⟨σ6, hc5, hF⟩ := bbv_e hF
      refine b_cV0v (d' := (d + 1)) (pc := 36) C dX12_day_36 mm_X12_430 (Hh.1 _ _ sh_92) rfl (Nat.le_of_ble_eq_true rfl) (by omega) (Hh.2.2 _ _ _ _ _ _ _ _ _ (lvl_eq (by omega) (e_X12_note (d + 0)  _ _ hc5))) ?_
      refine b_aload_n (pc := 39) C dX12_day_39 rfl 0 rfl ?_
      refine b_aload_n (pc := 40) C dX12_day_40 rfl 0 rfl ?_
      refine b_getS (pc := 41) C dX12_day_41 fl_X12_26 (Hh.1 _ _ sh_92) rfl ?_
      refine b_bipush (pc := 44) C dX12_day_44 bp_14 ?_
      refine b_ialdK (pc := 46) C dX12_day_46 (Hh.1 _ _ sh_97) tn_14 (by decide) ?_
      obtain ⟨v9, σ8, hc7, hF⟩ := bbd_e hF
      refine b_cV1i (d' := (d + 1)) (pc := 47) C dX12_day_47 mm_X12_373 (Hh.1 _ _ sh_92) rfl (Nat.le_of_ble_eq_true rfl) (by omega) (Hh.2.2 _ _ _ _ _ _ _ _ _ (lvl_eq (by omega) (e_X12_whoEats (d + 0) (σ6.1 97 14) _ _ _ hc7))) ?_
      refine b_istore_n (L' := [(1, .int v9), (0, .ref 92)]) (pc := 50) C dX12_day_50 rfl rfl (Hh.2.1 _ (Nat.le_of_ble_eq_true rfl)) rfl ?_
      refine b_aload_n (pc := 51) C dX12_day_51 rfl 1 rfl ?_
      refine b_getS (pc := 52) C dX12_day_52 fl_X12_26 (Hh.1 _ _ sh_92) rfl ?_
      refine b_bipush (pc := 55) C dX12_day_55 bp_14 ?_
      refine b_dup2 (pc := 57) C dX12_day_57 rfl rfl ?_
      refine b_ialdK (pc := 58) C dX12_day_58 (Hh.1 _ _ sh_97) tn_14 (by decide) ?_
      refine b_iload_n (pc := 59) C dX12_day_59 rfl 0 rfl ?_
      obtain ⟨v12, σ11, hc10, hF⟩ := bbd_e hF
      refine b_cS1i (d' := (d + 1)) (pc := 60) C dX12_day_60 mm_X12_299 (Nat.le_of_ble_eq_true rfl) (by omega) (Hh.2.2 _ _ _ _ _ _ _ _ _ (lvl_eq (by omega) (e_X12_ones (d + 1) v9 _ _ _ hc10))) ?_
      refine b_isub (pc := 63) C dX12_day_63 ?_
      obtain ⟨σ13, e14, hF⟩ := blet_e hF
      refine b_iastK (pc := 64) C dX12_day_64 (Hh.1 _ _ sh_97) tn_14 (by decide) e14 ?_
      refine b_aload_n (pc := 65) C dX12_day_65 rfl 1 rfl ?_
      refine b_getS (pc := 66) C dX12_day_66 fl_X12_26 (Hh.1 _ _ sh_92) rfl ?_
      refine b_bipush (pc := 69) C dX12_day_69 bp_15 ?_
      refine b_dup2 (pc := 71) C dX12_day_71 rfl rfl ?_
      refine b_ialdK (pc := 72) C dX12_day_72 (Hh.1 _ _ sh_97) tn_15 (by decide) ?_
      refine b_iconst (pc := 73) C dX12_day_73 ic_1 ?_
      refine b_iadd (pc := 74) C dX12_day_74 ?_
      obtain ⟨σ15, e16, hF⟩ := blet_e hF
      refine b_iastK (pc := 75) C dX12_day_75 (Hh.1 _ _ sh_97) tn_15 (by decide) e16 ?_
      refine b_iload_n (pc := 76) C dX12_day_76 rfl 0 rfl ?_
      exact b_iret (pc := 77) C Rt dX12_day_77 hF
    · rw [if_pos hc4] at hF
      refine b_aload_n (pc := 29) C dX12_day_29 rfl 0 rfl ?_
      refine b_iconst (pc := 30) C dX12_day_30 ic_3 ?_
      obtain ⟨v19, σ18, hc17, hF⟩ := bbd_e hF
      refine b_cV1i (d' := (d + 1)) (pc := 31) C dX12_day_31 mm_X12_184 (Hh.1 _ _ sh_92) rfl (Nat.le_of_ble_eq_true rfl) (by omega) (Hh.2.2 _ _ _ _ _ _ _ _ _ (lvl_eq (by omega) (e_X12_no (d + 1) (3 : Int32) _ _ _ hc17))) ?_
      exact b_iret (pc := 34) C Rt dX12_day_34 hF
  · rw [if_pos hc3] at hF
    refine b_aload_n (pc := 11) C dX12_day_11 rfl 0 rfl ?_
    refine b_iconst (pc := 12) C dX12_day_12 ic_1 ?_
    obtain ⟨v22, σ21, hc20, hF⟩ := bbd_e hF
    refine b_cV1i (d' := (d + 1)) (pc := 13) C dX12_day_13 mm_X12_184 (Hh.1 _ _ sh_92) rfl (Nat.le_of_ble_eq_true rfl) (by omega) (Hh.2.2 _ _ _ _ _ _ _ _ _ (lvl_eq (by omega) (e_X12_no (d + 1) (1 : Int32) _ _ _ hc20))) ?_
    exact b_iret (pc := 16) C Rt dX12_day_16 hF
set_option maxHeartbeats 4000000 in
set_option maxRecDepth 20000 in
theorem e_X12_day {l : Launch} {G : bG} {ρ : Nat → Nat} {A : Nat → Prop} (d : Nat)  (σ : bSto) (r : Int32) (σ' : bSto) (hF : f_X12_day  σ = some (r, σ')) : bEv l G bSHf ρ A yX12_day cX12_day 2 (some .int) (d + 2) [.ref 92] σ (some (.int r)) σ' := b_met (d := d + 2) (by decide +kernel) (Nat.le_of_ble_eq_true rfl) rfl (fun X C Rt h1 h2 h3 => e_X12_day_0 C ⟨fun o q h => by rw [h1]; exact h, fun i h => by rw [h2]; exact h, h3⟩ Rt  _ hF)
/-! BenchColonyModel.undo -/
def f_X12_undo  (σ : bSto) : Option (Int32 × bSto) := bbv (f_X12_good  σ) (fun σ2 => (if (σ2.1 92 20) = 0 then bbd (f_X12_isNot (6 : Int32) σ2) (fun v10 σ9 => if v10 = 0 ∨ v10 = 1 then some (v10, σ9) else none) else blet (bI σ2 92 20 ((σ2.1 92 20) - (1 : Int32))) (fun σ4 => bbv (f_X12_copy 98 ((16 : Int32) * (σ4.1 92 20)) 97 (0 : Int32) (16 : Int32) σ4) (fun σ7 => some ((1 : Int32), σ7)))))
set_option maxHeartbeats 4000000 in
set_option maxRecDepth 20000 in
theorem e_X12_undo_0 {X : bX} {l : Launch} {G : bG} {ρ : Nat → Nat} {A : Nat → Prop} {d : Nat} {r : Int32} {σ' : bSto} (C : bCX X cX12_undo RX12 (d + 1)) (Hh : bH X l G bSHf ρ A 1) (Rt : bRX X (some .boolean) (some (.int r)) σ')  (σ : bSto) (hF : f_X12_undo  σ = some (r, σ')) : bAJ X 0 [(0, .ref 92)] [] σ := by
  rw [f_X12_undo] at hF
  refine b_aload_n (pc := 0) C dX12_undo_0 rfl 0 rfl ?_
  obtain ⟨σ2, hc1, hF⟩ := bbv_e hF
  refine b_cV0v (d' := (d + 0)) (pc := 1) C dX12_undo_1 mm_X12_181 (Hh.1 _ _ sh_92) rfl (Nat.le_of_ble_eq_true rfl) (by omega) (Hh.2.2 _ _ _ _ _ _ _ _ _ (lvl_eq (by omega) (e_X12_good (d + 0)  _ _ hc1))) ?_
  refine b_aload_n (pc := 4) C dX12_undo_4 rfl 0 rfl ?_
  refine b_getI (pc := 5) C dX12_undo_5 fl_X12_197 (Hh.1 _ _ sh_92) rfl ?_
  refine b_if_ne (tgt := 18) (pc := 8) C dX12_undo_8 rfl (fun hc3 => ?_) (fun hc3 => ?_)
  · rw [if_neg hc3] at hF
    refine b_aload_n (pc := 18) C dX12_undo_18 rfl 0 rfl ?_
    refine b_dup (pc := 19) C dX12_undo_19 rfl ?_
    refine b_getI (pc := 20) C dX12_undo_20 fl_X12_197 (Hh.1 _ _ sh_92) rfl ?_
    refine b_iconst (pc := 23) C dX12_undo_23 ic_1 ?_
    refine b_isub (pc := 24) C dX12_undo_24 ?_
    obtain ⟨σ4, e5, hF⟩ := blet_e hF
    refine b_putI (pc := 25) C dX12_undo_25 fp_X12_197 (Hh.1 _ _ sh_92) rfl rfl rfl e5 ?_
    refine b_aload_n (pc := 28) C dX12_undo_28 rfl 0 rfl ?_
    refine b_getS (pc := 29) C dX12_undo_29 fl_X12_29 (Hh.1 _ _ sh_92) rfl ?_
    refine b_bipush (pc := 32) C dX12_undo_32 bp_16 ?_
    refine b_aload_n (pc := 34) C dX12_undo_34 rfl 0 rfl ?_
    refine b_getI (pc := 35) C dX12_undo_35 fl_X12_197 (Hh.1 _ _ sh_92) rfl ?_
    refine b_imul (pc := 38) C dX12_undo_38 ?_
    refine b_aload_n (pc := 39) C dX12_undo_39 rfl 0 rfl ?_
    refine b_getS (pc := 40) C dX12_undo_40 fl_X12_26 (Hh.1 _ _ sh_92) rfl ?_
    refine b_iconst (pc := 43) C dX12_undo_43 ic_0 ?_
    refine b_bipush (pc := 44) C dX12_undo_44 bp_16 ?_
    obtain ⟨σ7, hc6, hF⟩ := bbv_e hF
    refine b_cS5v (d' := (d + 0)) (pc := 46) C dX12_undo_46 mm_X12_190 (Nat.le_of_ble_eq_true rfl) (by omega) (Hh.2.2 _ _ _ _ _ _ _ _ _ (lvl_eq (by omega) (e_X12_copy (d + 0) _ (show kIA 98 from sh_98) ((16 : Int32) * (σ4.1 92 20)) _ (show kIA 97 from sh_97) (0 : Int32) (16 : Int32) _ _ hc6))) ?_
    refine b_iconst (pc := 49) C dX12_undo_49 ic_1 ?_
    exact b_zret (pc := 50) C Rt dX12_undo_50 rfl hF
  · rw [if_pos hc3] at hF
    refine b_aload_n (pc := 11) C dX12_undo_11 rfl 0 rfl ?_
    refine b_bipush (pc := 12) C dX12_undo_12 bp_6 ?_
    obtain ⟨v10, σ9, hc8, hF⟩ := bbd_e hF
    refine b_cV1i (d' := (d + 0)) (pc := 14) C dX12_undo_14 mm_X12_427 (Hh.1 _ _ sh_92) rfl (Nat.le_of_ble_eq_true rfl) (by omega) (Hh.2.2 _ _ _ _ _ _ _ _ _ (lvl_eq (by omega) (e_X12_isNot (d + 0) (6 : Int32) _ _ _ hc8))) ?_
    obtain ⟨hz11, hF⟩ := bif_y hF
    exact b_zret (pc := 17) C Rt dX12_undo_17 (bz_n hz11) hF
set_option maxHeartbeats 4000000 in
set_option maxRecDepth 20000 in
theorem e_X12_undo {l : Launch} {G : bG} {ρ : Nat → Nat} {A : Nat → Prop} (d : Nat)  (σ : bSto) (r : Int32) (σ' : bSto) (hF : f_X12_undo  σ = some (r, σ')) : bEv l G bSHf ρ A yX12_undo cX12_undo 1 (some .boolean) (d + 1) [.ref 92] σ (some (.int r)) σ' := b_met (d := d + 1) (by decide +kernel) (Nat.le_of_ble_eq_true rfl) rfl (fun X C Rt h1 h2 h3 => e_X12_undo_0 C ⟨fun o q h => by rw [h1]; exact h, fun i h => by rw [h2]; exact h, h3⟩ Rt  _ hF)
/-! BenchColonyModel.image -/
def f_X12_image  (σ : bSto) : Option (Int32 × bSto) := bbv (f_X12_good  σ) (fun σ2 => (if (σ2.1 92 14) = 0 then bbd (f_X12_no (1 : Int32) σ2) (fun v14 σ13 => some (v14, σ13)) else (if (σ2.1 92 21) = (3 : Int32) then bbd (f_X12_no (3 : Int32) σ2) (fun v11 σ10 => some (v11, σ10)) else bbv (f_X12_copy 97 (0 : Int32) 99 ((16 : Int32) * (σ2.1 92 21)) (16 : Int32) σ2) (fun σ6 => blet (bI σ6 92 21 ((σ6.1 92 21) + (1 : Int32))) (fun σ7 => some (((σ7.1 92 21) - (1 : Int32)), σ7))))))
set_option maxHeartbeats 4000000 in
set_option maxRecDepth 20000 in
theorem e_X12_image_0 {X : bX} {l : Launch} {G : bG} {ρ : Nat → Nat} {A : Nat → Prop} {d : Nat} {r : Int32} {σ' : bSto} (C : bCX X cX12_image RX12 (d + 1)) (Hh : bH X l G bSHf ρ A 1) (Rt : bRX X (some .int) (some (.int r)) σ')  (σ : bSto) (hF : f_X12_image  σ = some (r, σ')) : bAJ X 0 [(0, .ref 92)] [] σ := by
  rw [f_X12_image] at hF
  refine b_aload_n (pc := 0) C dX12_image_0 rfl 0 rfl ?_
  obtain ⟨σ2, hc1, hF⟩ := bbv_e hF
  refine b_cV0v (d' := (d + 0)) (pc := 1) C dX12_image_1 mm_X12_181 (Hh.1 _ _ sh_92) rfl (Nat.le_of_ble_eq_true rfl) (by omega) (Hh.2.2 _ _ _ _ _ _ _ _ _ (lvl_eq (by omega) (e_X12_good (d + 0)  _ _ hc1))) ?_
  refine b_aload_n (pc := 4) C dX12_image_4 rfl 0 rfl ?_
  refine b_getI (pc := 5) C dX12_image_5 fl_X12_194 (Hh.1 _ _ sh_92) rfl ?_
  refine b_if_ne (tgt := 17) (pc := 8) C dX12_image_8 rfl (fun hc3 => ?_) (fun hc3 => ?_)
  · rw [if_neg hc3] at hF
    refine b_aload_n (pc := 17) C dX12_image_17 rfl 0 rfl ?_
    refine b_getI (pc := 18) C dX12_image_18 fl_X12_200 (Hh.1 _ _ sh_92) rfl ?_
    refine b_iconst (pc := 21) C dX12_image_21 ic_3 ?_
    refine b_icmp_ne (tgt := 31) (pc := 22) C dX12_image_22 rfl (fun hc4 => ?_) (fun hc4 => ?_)
    · rw [if_neg hc4] at hF
      refine b_aload_n (pc := 31) C dX12_image_31 rfl 0 rfl ?_
      refine b_getS (pc := 32) C dX12_image_32 fl_X12_26 (Hh.1 _ _ sh_92) rfl ?_
      refine b_iconst (pc := 35) C dX12_image_35 ic_0 ?_
      refine b_aload_n (pc := 36) C dX12_image_36 rfl 0 rfl ?_
      refine b_getS (pc := 37) C dX12_image_37 fl_X12_32 (Hh.1 _ _ sh_92) rfl ?_
      refine b_bipush (pc := 40) C dX12_image_40 bp_16 ?_
      refine b_aload_n (pc := 42) C dX12_image_42 rfl 0 rfl ?_
      refine b_getI (pc := 43) C dX12_image_43 fl_X12_200 (Hh.1 _ _ sh_92) rfl ?_
      refine b_imul (pc := 46) C dX12_image_46 ?_
      refine b_bipush (pc := 47) C dX12_image_47 bp_16 ?_
      obtain ⟨σ6, hc5, hF⟩ := bbv_e hF
      refine b_cS5v (d' := (d + 0)) (pc := 49) C dX12_image_49 mm_X12_190 (Nat.le_of_ble_eq_true rfl) (by omega) (Hh.2.2 _ _ _ _ _ _ _ _ _ (lvl_eq (by omega) (e_X12_copy (d + 0) _ (show kIA 97 from sh_97) (0 : Int32) _ (show kIA 99 from sh_99) ((16 : Int32) * (σ2.1 92 21)) (16 : Int32) _ _ hc5))) ?_
      refine b_aload_n (pc := 52) C dX12_image_52 rfl 0 rfl ?_
      refine b_dup (pc := 53) C dX12_image_53 rfl ?_
      refine b_getI (pc := 54) C dX12_image_54 fl_X12_200 (Hh.1 _ _ sh_92) rfl ?_
      refine b_iconst (pc := 57) C dX12_image_57 ic_1 ?_
      refine b_iadd (pc := 58) C dX12_image_58 ?_
      obtain ⟨σ7, e8, hF⟩ := blet_e hF
      refine b_putI (pc := 59) C dX12_image_59 fp_X12_200 (Hh.1 _ _ sh_92) rfl rfl rfl e8 ?_
      refine b_aload_n (pc := 62) C dX12_image_62 rfl 0 rfl ?_
      refine b_getI (pc := 63) C dX12_image_63 fl_X12_200 (Hh.1 _ _ sh_92) rfl ?_
      refine b_iconst (pc := 66) C dX12_image_66 ic_1 ?_
      refine b_isub (pc := 67) C dX12_image_67 ?_
      exact b_iret (pc := 68) C Rt dX12_image_68 hF
    · rw [if_pos hc4] at hF
      refine b_aload_n (pc := 25) C dX12_image_25 rfl 0 rfl ?_
      refine b_iconst (pc := 26) C dX12_image_26 ic_3 ?_
      obtain ⟨v11, σ10, hc9, hF⟩ := bbd_e hF
      refine b_cV1i (d' := (d + 0)) (pc := 27) C dX12_image_27 mm_X12_184 (Hh.1 _ _ sh_92) rfl (Nat.le_of_ble_eq_true rfl) (by omega) (Hh.2.2 _ _ _ _ _ _ _ _ _ (lvl_eq (by omega) (e_X12_no (d + 0) (3 : Int32) _ _ _ hc9))) ?_
      exact b_iret (pc := 30) C Rt dX12_image_30 hF
  · rw [if_pos hc3] at hF
    refine b_aload_n (pc := 11) C dX12_image_11 rfl 0 rfl ?_
    refine b_iconst (pc := 12) C dX12_image_12 ic_1 ?_
    obtain ⟨v14, σ13, hc12, hF⟩ := bbd_e hF
    refine b_cV1i (d' := (d + 0)) (pc := 13) C dX12_image_13 mm_X12_184 (Hh.1 _ _ sh_92) rfl (Nat.le_of_ble_eq_true rfl) (by omega) (Hh.2.2 _ _ _ _ _ _ _ _ _ (lvl_eq (by omega) (e_X12_no (d + 0) (1 : Int32) _ _ _ hc12))) ?_
    exact b_iret (pc := 16) C Rt dX12_image_16 hF
set_option maxHeartbeats 4000000 in
set_option maxRecDepth 20000 in
theorem e_X12_image {l : Launch} {G : bG} {ρ : Nat → Nat} {A : Nat → Prop} (d : Nat)  (σ : bSto) (r : Int32) (σ' : bSto) (hF : f_X12_image  σ = some (r, σ')) : bEv l G bSHf ρ A yX12_image cX12_image 1 (some .int) (d + 1) [.ref 92] σ (some (.int r)) σ' := b_met (d := d + 1) (by decide +kernel) (Nat.le_of_ble_eq_true rfl) rfl (fun X C Rt h1 h2 h3 => e_X12_image_0 C ⟨fun o q h => by rw [h1]; exact h, fun i h => by rw [h2]; exact h, h3⟩ Rt  _ hF)
/-! BenchColonyModel.back -/
def f_X12_back (x1 : Int32) (σ : bSto) : Option (Int32 × bSto) := bbv (f_X12_good  σ) (fun σ2 => bbd (f_X12_in x1 (0 : Int32) ((σ2.1 92 21) - (1 : Int32)) σ2) (fun v5 σ4 => (if v5 = 0 then bbd (f_X12_isNot (1 : Int32) σ4) (fun v13 σ12 => if v13 = 0 ∨ v13 = 1 then some (v13, σ12) else none) else bbv (f_X12_copy 99 ((16 : Int32) * x1) 97 (0 : Int32) (16 : Int32) σ4) (fun σ8 => blet (bI σ8 92 20 (0 : Int32)) (fun σ9 => some ((1 : Int32), σ9))))))
set_option maxHeartbeats 4000000 in
set_option maxRecDepth 20000 in
theorem e_X12_back_0 {X : bX} {l : Launch} {G : bG} {ρ : Nat → Nat} {A : Nat → Prop} {d : Nat} {r : Int32} {σ' : bSto} (C : bCX X cX12_back RX12 (d + 1)) (Hh : bH X l G bSHf ρ A 2) (Rt : bRX X (some .boolean) (some (.int r)) σ') (x1 : Int32) (σ : bSto) (hF : f_X12_back x1 σ = some (r, σ')) : bAJ X 0 [(0, .ref 92), (1, .int x1)] [] σ := by
  rw [f_X12_back] at hF
  refine b_aload_n (pc := 0) C dX12_back_0 rfl 0 rfl ?_
  obtain ⟨σ2, hc1, hF⟩ := bbv_e hF
  refine b_cV0v (d' := (d + 0)) (pc := 1) C dX12_back_1 mm_X12_181 (Hh.1 _ _ sh_92) rfl (Nat.le_of_ble_eq_true rfl) (by omega) (Hh.2.2 _ _ _ _ _ _ _ _ _ (lvl_eq (by omega) (e_X12_good (d + 0)  _ _ hc1))) ?_
  refine b_iload_n (pc := 4) C dX12_back_4 rfl 1 rfl ?_
  refine b_iconst (pc := 5) C dX12_back_5 ic_0 ?_
  refine b_aload_n (pc := 6) C dX12_back_6 rfl 0 rfl ?_
  refine b_getI (pc := 7) C dX12_back_7 fl_X12_200 (Hh.1 _ _ sh_92) rfl ?_
  refine b_iconst (pc := 10) C dX12_back_10 ic_1 ?_
  refine b_isub (pc := 11) C dX12_back_11 ?_
  obtain ⟨v5, σ4, hc3, hF⟩ := bbd_e hF
  refine b_cS3i (d' := (d + 0)) (pc := 12) C dX12_back_12 mm_X12_160 (Nat.le_of_ble_eq_true rfl) (by omega) (Hh.2.2 _ _ _ _ _ _ _ _ _ (lvl_eq (by omega) (e_X12_in (d + 0) x1 (0 : Int32) ((σ2.1 92 21) - (1 : Int32)) _ _ _ hc3))) ?_
  refine b_if_ne (tgt := 24) (pc := 15) C dX12_back_15 rfl (fun hc6 => ?_) (fun hc6 => ?_)
  · rw [if_neg hc6] at hF
    refine b_aload_n (pc := 24) C dX12_back_24 rfl 0 rfl ?_
    refine b_getS (pc := 25) C dX12_back_25 fl_X12_32 (Hh.1 _ _ sh_92) rfl ?_
    refine b_bipush (pc := 28) C dX12_back_28 bp_16 ?_
    refine b_iload_n (pc := 30) C dX12_back_30 rfl 1 rfl ?_
    refine b_imul (pc := 31) C dX12_back_31 ?_
    refine b_aload_n (pc := 32) C dX12_back_32 rfl 0 rfl ?_
    refine b_getS (pc := 33) C dX12_back_33 fl_X12_26 (Hh.1 _ _ sh_92) rfl ?_
    refine b_iconst (pc := 36) C dX12_back_36 ic_0 ?_
    refine b_bipush (pc := 37) C dX12_back_37 bp_16 ?_
    obtain ⟨σ8, hc7, hF⟩ := bbv_e hF
    refine b_cS5v (d' := (d + 0)) (pc := 39) C dX12_back_39 mm_X12_190 (Nat.le_of_ble_eq_true rfl) (by omega) (Hh.2.2 _ _ _ _ _ _ _ _ _ (lvl_eq (by omega) (e_X12_copy (d + 0) _ (show kIA 99 from sh_99) ((16 : Int32) * x1) _ (show kIA 97 from sh_97) (0 : Int32) (16 : Int32) _ _ hc7))) ?_
    refine b_aload_n (pc := 42) C dX12_back_42 rfl 0 rfl ?_
    refine b_iconst (pc := 43) C dX12_back_43 ic_0 ?_
    obtain ⟨σ9, e10, hF⟩ := blet_e hF
    refine b_putI (pc := 44) C dX12_back_44 fp_X12_197 (Hh.1 _ _ sh_92) rfl rfl rfl e10 ?_
    refine b_iconst (pc := 47) C dX12_back_47 ic_1 ?_
    exact b_zret (pc := 48) C Rt dX12_back_48 rfl hF
  · rw [if_pos hc6] at hF
    refine b_aload_n (pc := 18) C dX12_back_18 rfl 0 rfl ?_
    refine b_iconst (pc := 19) C dX12_back_19 ic_1 ?_
    obtain ⟨v13, σ12, hc11, hF⟩ := bbd_e hF
    refine b_cV1i (d' := (d + 0)) (pc := 20) C dX12_back_20 mm_X12_427 (Hh.1 _ _ sh_92) rfl (Nat.le_of_ble_eq_true rfl) (by omega) (Hh.2.2 _ _ _ _ _ _ _ _ _ (lvl_eq (by omega) (e_X12_isNot (d + 0) (1 : Int32) _ _ _ hc11))) ?_
    obtain ⟨hz14, hF⟩ := bif_y hF
    exact b_zret (pc := 23) C Rt dX12_back_23 (bz_n hz14) hF
set_option maxHeartbeats 4000000 in
set_option maxRecDepth 20000 in
theorem e_X12_back {l : Launch} {G : bG} {ρ : Nat → Nat} {A : Nat → Prop} (d : Nat) (x1 : Int32) (σ : bSto) (r : Int32) (σ' : bSto) (hF : f_X12_back x1 σ = some (r, σ')) : bEv l G bSHf ρ A yX12_back cX12_back 2 (some .boolean) (d + 1) [.ref 92, .int x1] σ (some (.int r)) σ' := b_met (d := d + 1) (by decide +kernel) (Nat.le_of_ble_eq_true rfl) rfl (fun X C Rt h1 h2 h3 => e_X12_back_0 C ⟨fun o q h => by rw [h1]; exact h, fun i h => by rw [h2]; exact h, h3⟩ Rt _ _ hF)
/-! BenchColonyModel.led -/
def f_X12_led_L4 : Nat → Int32 → Int32 → Int32 → bSto → Option ((Int32 × bSto) ⊕ (bSto))
  | 0, _, _, _, _ => none
  | n + 1, x1, x2, x3, σ => (if (σ.1 92 14) = 0 then some (.inr σ) else (if (σ.1 95 4) ≤ x3 then some (.inr σ) else if x3 < 0 ∨ 16 ≤ x3.toNatClampNeg then none else (if (σ.1 97 x3.toNatClampNeg) ≤ 0 then (if x2 = x1 then blet (bI σ 92 0 (0 : Int32)) (fun σ10 => some (.inl (x3, σ10))) else blet (x2 + (1 : Int32)) (fun x2_6 => blet (x3 + (1 : Int32)) (fun x3_8 => f_X12_led_L4 n x1 x2_6 x3_8 σ))) else blet (x3 + (1 : Int32)) (fun x3_12 => f_X12_led_L4 n x1 x2 x3_12 σ))))
def f_X12_led_J54  (σ : bSto) : Option (Int32 × bSto) := blet (bI σ 92 0 (1 : Int32)) (fun σ1 => some ((0 : Int32), σ1))
def f_X12_led (x1 : Int32) (σ : bSto) : Option (Int32 × bSto) := br0 (f_X12_led_L4 bFU x1 (0 : Int32) (0 : Int32) σ) (fun v s => some (v, s)) (fun σ2 => f_X12_led_J54  σ2)
set_option maxHeartbeats 4000000 in
set_option maxRecDepth 20000 in
theorem e_X12_led_L4 {X : bX} {l : Launch} {G : bG} {ρ : Nat → Nat} {A : Nat → Prop} {d : Nat} {r : Int32} {σ' : bSto} (C : bCX X cX12_led RX12 (d + 0)) (Hh : bH X l G bSHf ρ A 4) (Rt : bRX X (some .int) (some (.int r)) σ') : ∀ (n : Nat) (x1 : Int32) (x2 : Int32) (x3 : Int32) (σ : bSto) (q : ((Int32 × bSto) ⊕ (bSto))), f_X12_led_L4 n x1 x2 x3 σ = some q → (∀ (v : Int32) (s : bSto), q = .inl (v, s) → some (v, s) = some (r, σ')) → (∀  (s : bSto), q = .inr s → bAJ X 54 [(0, .ref 92)] [] s) → bAJ X 4 [(0, .ref 92), (1, .int x1), (2, .int x2), (3, .int x3)] [] σ := by
  intro n
  induction n with
  | zero => intro x1 x2 x3 σ q hF; rw [f_X12_led_L4] at hF; cases hF
  | succ n ih =>
    intro x1 x2 x3 σ q hF hr hx
    rw [f_X12_led_L4] at hF
    refine b_aload_n (pc := 4) C dX12_led_4 rfl 0 rfl ?_
    refine b_getI (pc := 5) C dX12_led_5 fl_X12_194 (Hh.1 _ _ sh_92) rfl ?_
    refine b_if_eq (tgt := 54) (pc := 8) C dX12_led_8 rfl (fun hc1 => ?_) (fun hc1 => ?_)
    · rw [if_pos hc1] at hF
      exact b_sub [0] rfl (hx  _ (Option.some.inj hF).symm )
    · rw [if_neg hc1] at hF
      refine b_iload_n (pc := 11) C dX12_led_11 rfl 3 rfl ?_
      refine b_aload_n (pc := 12) C dX12_led_12 rfl 0 rfl ?_
      refine b_getS (pc := 13) C dX12_led_13 fl_X12_20 (Hh.1 _ _ sh_92) rfl ?_
      refine b_iconst (pc := 16) C dX12_led_16 ic_4 ?_
      refine b_ialdK (pc := 17) C dX12_led_17 (Hh.1 _ _ sh_95) tn_4 (by decide) ?_
      refine b_icmp_ge (tgt := 54) (pc := 18) C dX12_led_18 rfl (fun hc2 => ?_) (fun hc2 => ?_)
      · rw [if_pos hc2] at hF
        exact b_sub [0] rfl (hx  _ (Option.some.inj hF).symm )
      · rw [if_neg hc2] at hF
        refine b_aload_n (pc := 21) C dX12_led_21 rfl 0 rfl ?_
        refine b_getS (pc := 22) C dX12_led_22 fl_X12_26 (Hh.1 _ _ sh_92) rfl ?_
        refine b_iload_n (pc := 25) C dX12_led_25 rfl 3 rfl ?_
        obtain ⟨hb3, hF⟩ := bif_n hF
        refine b_iald (pc := 26) C dX12_led_26 (Hh.1 _ _ sh_97) hb3 ?_
        refine b_if_le (tgt := 33) (pc := 27) C dX12_led_27 rfl (fun hc4 => ?_) (fun hc4 => ?_)
        · rw [if_pos hc4] at hF
          refine b_iload_n (pc := 33) C dX12_led_33 rfl 2 rfl ?_
          refine b_iload_n (pc := 34) C dX12_led_34 rfl 1 rfl ?_
          refine b_icmp_ne (tgt := 45) (pc := 35) C dX12_led_35 rfl (fun hc5 => ?_) (fun hc5 => ?_)
          · rw [if_neg hc5] at hF
            obtain ⟨x2_6, e7, hF⟩ := blet_e hF
            refine b_iinc (L' := [(2, .int x2_6), (0, .ref 92), (1, .int x1), (3, .int x3)]) (pc := 45) C dX12_led_45 2 rfl ic_1 e7 (Hh.2.1 _ (Nat.le_of_ble_eq_true rfl)) rfl ?_
            obtain ⟨x3_8, e9, hF⟩ := blet_e hF
            refine b_iinc (L' := [(3, .int x3_8), (2, .int x2_6), (0, .ref 92), (1, .int x1)]) (pc := 48) C dX12_led_48 3 rfl ic_1 e9 (Hh.2.1 _ (Nat.le_of_ble_eq_true rfl)) rfl ?_
            refine b_goto (tgt := 4) (pc := 51) C dX12_led_51 rfl ?_
            exact b_sub [2, 3, 1, 0] rfl (ih x1 x2_6 x3_8 _ _ hF hr hx)
          · rw [if_pos hc5] at hF
            refine b_aload_n (pc := 38) C dX12_led_38 rfl 0 rfl ?_
            refine b_iconst (pc := 39) C dX12_led_39 ic_0 ?_
            obtain ⟨σ10, e11, hF⟩ := blet_e hF
            refine b_putI (pc := 40) C dX12_led_40 fp_X12_65 (Hh.1 _ _ sh_92) rfl rfl rfl e11 ?_
            refine b_iload_n (pc := 43) C dX12_led_43 rfl 3 rfl ?_
            exact b_iret (pc := 44) C Rt dX12_led_44 (hr _ _ (Option.some.inj hF).symm)
        · rw [if_neg hc4] at hF
          refine b_goto (tgt := 48) (pc := 30) C dX12_led_30 rfl ?_
          obtain ⟨x3_12, e13, hF⟩ := blet_e hF
          refine b_iinc (L' := [(3, .int x3_12), (0, .ref 92), (1, .int x1), (2, .int x2)]) (pc := 48) C dX12_led_48 3 rfl ic_1 e13 (Hh.2.1 _ (Nat.le_of_ble_eq_true rfl)) rfl ?_
          refine b_goto (tgt := 4) (pc := 51) C dX12_led_51 rfl ?_
          exact b_sub [1, 2, 3, 0] rfl (ih x1 x2 x3_12 _ _ hF hr hx)
set_option maxHeartbeats 4000000 in
set_option maxRecDepth 20000 in
theorem e_X12_led_J54 {X : bX} {l : Launch} {G : bG} {ρ : Nat → Nat} {A : Nat → Prop} {d : Nat} {r : Int32} {σ' : bSto} (C : bCX X cX12_led RX12 (d + 0)) (Hh : bH X l G bSHf ρ A 4) (Rt : bRX X (some .int) (some (.int r)) σ')  (σ : bSto) (hF : f_X12_led_J54  σ = some (r, σ')) : bAJ X 54 [(0, .ref 92)] [] σ := by
  rw [f_X12_led_J54] at hF
  refine b_aload_n (pc := 54) C dX12_led_54 rfl 0 rfl ?_
  refine b_iconst (pc := 55) C dX12_led_55 ic_1 ?_
  obtain ⟨σ1, e2, hF⟩ := blet_e hF
  refine b_putI (pc := 56) C dX12_led_56 fp_X12_65 (Hh.1 _ _ sh_92) rfl rfl rfl e2 ?_
  refine b_iconst (pc := 59) C dX12_led_59 ic_0 ?_
  exact b_iret (pc := 60) C Rt dX12_led_60 hF
set_option maxHeartbeats 4000000 in
set_option maxRecDepth 20000 in
theorem e_X12_led_0 {X : bX} {l : Launch} {G : bG} {ρ : Nat → Nat} {A : Nat → Prop} {d : Nat} {r : Int32} {σ' : bSto} (C : bCX X cX12_led RX12 (d + 0)) (Hh : bH X l G bSHf ρ A 4) (Rt : bRX X (some .int) (some (.int r)) σ') (x1 : Int32) (σ : bSto) (hF : f_X12_led x1 σ = some (r, σ')) : bAJ X 0 [(0, .ref 92), (1, .int x1)] [] σ := by
  rw [f_X12_led] at hF
  refine b_iconst (pc := 0) C dX12_led_0 ic_0 ?_
  refine b_istore_n (L' := [(2, .int (0 : Int32)), (0, .ref 92), (1, .int x1)]) (pc := 1) C dX12_led_1 rfl rfl (Hh.2.1 _ (Nat.le_of_ble_eq_true rfl)) rfl ?_
  refine b_iconst (pc := 2) C dX12_led_2 ic_0 ?_
  refine b_istore_n (L' := [(3, .int (0 : Int32)), (2, .int (0 : Int32)), (0, .ref 92), (1, .int x1)]) (pc := 3) C dX12_led_3 rfl rfl (Hh.2.1 _ (Nat.le_of_ble_eq_true rfl)) rfl ?_
  rcases br0_e hF with ⟨v, s, hq1, hF⟩ | ⟨σ2, hq1, hF⟩
  · exact b_sub [2, 3, 1, 0] rfl (e_X12_led_L4 C Hh Rt bFU x1 (0 : Int32) (0 : Int32) _ _ hq1 (fun v s e => by cases e; exact hF) (fun  _ e => by cases e))
  · refine b_sub [2, 3, 1, 0] rfl (e_X12_led_L4 C Hh Rt bFU x1 (0 : Int32) (0 : Int32) _ _ hq1 (fun v s e => by cases e) (fun  _ e  => ?_))
    cases e
    exact b_sub [0] rfl (e_X12_led_J54 C Hh Rt  _ hF)
set_option maxHeartbeats 4000000 in
set_option maxRecDepth 20000 in
theorem e_X12_led {l : Launch} {G : bG} {ρ : Nat → Nat} {A : Nat → Prop} (d : Nat) (x1 : Int32) (σ : bSto) (r : Int32) (σ' : bSto) (hF : f_X12_led x1 σ = some (r, σ')) : bEv l G bSHf ρ A yX12_led cX12_led 4 (some .int) (d + 0) [.ref 92, .int x1] σ (some (.int r)) σ' := b_met (d := d + 0) (by decide +kernel) (Nat.le_of_ble_eq_true rfl) rfl (fun X C Rt h1 h2 h3 => e_X12_led_0 C ⟨fun o q h => by rw [h1]; exact h, fun i h => by rw [h2]; exact h, h3⟩ Rt _ _ hF)
/-! BenchColonyModel.size -/
def f_X12_size (x1 : Int32) (σ : bSto) : Option (Int32 × bSto) := blet (bI σ 92 0 (0 : Int32)) (fun σ1 => (if x1 = (13 : Int32) then some ((σ1.1 92 2), σ1) else (if (σ1.1 92 14) = 0 then bbd (f_X12_in x1 (0 : Int32) (12 : Int32) σ1) (fun v16 σ15 => (if v16 = 0 then some ((-1 : Int32), σ15) else some ((0 : Int32), σ15))) else bbd (f_X12_in x1 (0 : Int32) (8 : Int32) σ1) (fun v7 σ6 => (if v7 = 0 then (if x1 = (9 : Int32) then some ((σ6.1 97 14), σ6) else (if x1 = (10 : Int32) then some ((σ6.1 97 15), σ6) else (if x1 = (11 : Int32) then some ((σ6.1 92 20), σ6) else (if x1 = (12 : Int32) then some ((σ6.1 92 21), σ6) else some ((-1 : Int32), σ6))))) else if x1 < 0 ∨ 406 ≤ x1.toNatClampNeg then none else some ((σ6.1 95 x1.toNatClampNeg), σ6))))))
set_option maxHeartbeats 4000000 in
set_option maxRecDepth 20000 in
theorem e_X12_size_0 {X : bX} {l : Launch} {G : bG} {ρ : Nat → Nat} {A : Nat → Prop} {d : Nat} {r : Int32} {σ' : bSto} (C : bCX X cX12_size RX12 (d + 1)) (Hh : bH X l G bSHf ρ A 2) (Rt : bRX X (some .int) (some (.int r)) σ') (x1 : Int32) (σ : bSto) (hF : f_X12_size x1 σ = some (r, σ')) : bAJ X 0 [(0, .ref 92), (1, .int x1)] [] σ := by
  rw [f_X12_size] at hF
  refine b_aload_n (pc := 0) C dX12_size_0 rfl 0 rfl ?_
  refine b_iconst (pc := 1) C dX12_size_1 ic_0 ?_
  obtain ⟨σ1, e2, hF⟩ := blet_e hF
  refine b_putI (pc := 2) C dX12_size_2 fp_X12_65 (Hh.1 _ _ sh_92) rfl rfl rfl e2 ?_
  refine b_iload_n (pc := 5) C dX12_size_5 rfl 1 rfl ?_
  refine b_bipush (pc := 6) C dX12_size_6 bp_13 ?_
  refine b_icmp_ne (tgt := 16) (pc := 8) C dX12_size_8 rfl (fun hc3 => ?_) (fun hc3 => ?_)
  · rw [if_neg hc3] at hF
    refine b_aload_n (pc := 16) C dX12_size_16 rfl 0 rfl ?_
    refine b_getI (pc := 17) C dX12_size_17 fl_X12_194 (Hh.1 _ _ sh_92) rfl ?_
    refine b_if_ne (tgt := 39) (pc := 20) C dX12_size_20 rfl (fun hc4 => ?_) (fun hc4 => ?_)
    · rw [if_neg hc4] at hF
      refine b_iload_n (pc := 39) C dX12_size_39 rfl 1 rfl ?_
      refine b_iconst (pc := 40) C dX12_size_40 ic_0 ?_
      refine b_bipush (pc := 41) C dX12_size_41 bp_8 ?_
      obtain ⟨v7, σ6, hc5, hF⟩ := bbd_e hF
      refine b_cS3i (d' := (d + 0)) (pc := 43) C dX12_size_43 mm_X12_160 (Nat.le_of_ble_eq_true rfl) (by omega) (Hh.2.2 _ _ _ _ _ _ _ _ _ (lvl_eq (by omega) (e_X12_in (d + 0) x1 (0 : Int32) (8 : Int32) _ _ _ hc5))) ?_
      refine b_if_eq (tgt := 56) (pc := 46) C dX12_size_46 rfl (fun hc8 => ?_) (fun hc8 => ?_)
      · rw [if_pos hc8] at hF
        refine b_iload_n (pc := 56) C dX12_size_56 rfl 1 rfl ?_
        refine b_bipush (pc := 57) C dX12_size_57 bp_9 ?_
        refine b_icmp_ne (tgt := 72) (pc := 59) C dX12_size_59 rfl (fun hc9 => ?_) (fun hc9 => ?_)
        · rw [if_neg hc9] at hF
          refine b_iload_n (pc := 72) C dX12_size_72 rfl 1 rfl ?_
          refine b_bipush (pc := 73) C dX12_size_73 bp_10 ?_
          refine b_icmp_ne (tgt := 88) (pc := 75) C dX12_size_75 rfl (fun hc10 => ?_) (fun hc10 => ?_)
          · rw [if_neg hc10] at hF
            refine b_iload_n (pc := 88) C dX12_size_88 rfl 1 rfl ?_
            refine b_bipush (pc := 89) C dX12_size_89 bp_11 ?_
            refine b_icmp_ne (tgt := 101) (pc := 91) C dX12_size_91 rfl (fun hc11 => ?_) (fun hc11 => ?_)
            · rw [if_neg hc11] at hF
              refine b_iload_n (pc := 101) C dX12_size_101 rfl 1 rfl ?_
              refine b_bipush (pc := 102) C dX12_size_102 bp_12 ?_
              refine b_icmp_ne (tgt := 114) (pc := 104) C dX12_size_104 rfl (fun hc12 => ?_) (fun hc12 => ?_)
              · rw [if_neg hc12] at hF
                refine b_iconst (pc := 114) C dX12_size_114 ic_m1 ?_
                exact b_iret (pc := 115) C Rt dX12_size_115 hF
              · rw [if_pos hc12] at hF
                refine b_aload_n (pc := 107) C dX12_size_107 rfl 0 rfl ?_
                refine b_getI (pc := 108) C dX12_size_108 fl_X12_200 (Hh.1 _ _ sh_92) rfl ?_
                refine b_goto (tgt := 115) (pc := 111) C dX12_size_111 rfl ?_
                exact b_iret (pc := 115) C Rt dX12_size_115 hF
            · rw [if_pos hc11] at hF
              refine b_aload_n (pc := 94) C dX12_size_94 rfl 0 rfl ?_
              refine b_getI (pc := 95) C dX12_size_95 fl_X12_197 (Hh.1 _ _ sh_92) rfl ?_
              refine b_goto (tgt := 115) (pc := 98) C dX12_size_98 rfl ?_
              exact b_iret (pc := 115) C Rt dX12_size_115 hF
          · rw [if_pos hc10] at hF
            refine b_aload_n (pc := 78) C dX12_size_78 rfl 0 rfl ?_
            refine b_getS (pc := 79) C dX12_size_79 fl_X12_26 (Hh.1 _ _ sh_92) rfl ?_
            refine b_bipush (pc := 82) C dX12_size_82 bp_15 ?_
            refine b_ialdK (pc := 84) C dX12_size_84 (Hh.1 _ _ sh_97) tn_15 (by decide) ?_
            refine b_goto (tgt := 115) (pc := 85) C dX12_size_85 rfl ?_
            exact b_iret (pc := 115) C Rt dX12_size_115 hF
        · rw [if_pos hc9] at hF
          refine b_aload_n (pc := 62) C dX12_size_62 rfl 0 rfl ?_
          refine b_getS (pc := 63) C dX12_size_63 fl_X12_26 (Hh.1 _ _ sh_92) rfl ?_
          refine b_bipush (pc := 66) C dX12_size_66 bp_14 ?_
          refine b_ialdK (pc := 68) C dX12_size_68 (Hh.1 _ _ sh_97) tn_14 (by decide) ?_
          refine b_goto (tgt := 115) (pc := 69) C dX12_size_69 rfl ?_
          exact b_iret (pc := 115) C Rt dX12_size_115 hF
      · rw [if_neg hc8] at hF
        refine b_aload_n (pc := 49) C dX12_size_49 rfl 0 rfl ?_
        refine b_getS (pc := 50) C dX12_size_50 fl_X12_20 (Hh.1 _ _ sh_92) rfl ?_
        refine b_iload_n (pc := 53) C dX12_size_53 rfl 1 rfl ?_
        obtain ⟨hb13, hF⟩ := bif_n hF
        refine b_iald (pc := 54) C dX12_size_54 (Hh.1 _ _ sh_95) hb13 ?_
        exact b_iret (pc := 55) C Rt dX12_size_55 hF
    · rw [if_pos hc4] at hF
      refine b_iload_n (pc := 23) C dX12_size_23 rfl 1 rfl ?_
      refine b_iconst (pc := 24) C dX12_size_24 ic_0 ?_
      refine b_bipush (pc := 25) C dX12_size_25 bp_12 ?_
      obtain ⟨v16, σ15, hc14, hF⟩ := bbd_e hF
      refine b_cS3i (d' := (d + 0)) (pc := 27) C dX12_size_27 mm_X12_160 (Nat.le_of_ble_eq_true rfl) (by omega) (Hh.2.2 _ _ _ _ _ _ _ _ _ (lvl_eq (by omega) (e_X12_in (d + 0) x1 (0 : Int32) (12 : Int32) _ _ _ hc14))) ?_
      refine b_if_eq (tgt := 37) (pc := 30) C dX12_size_30 rfl (fun hc17 => ?_) (fun hc17 => ?_)
      · rw [if_pos hc17] at hF
        refine b_iconst (pc := 37) C dX12_size_37 ic_m1 ?_
        exact b_iret (pc := 38) C Rt dX12_size_38 hF
      · rw [if_neg hc17] at hF
        refine b_iconst (pc := 33) C dX12_size_33 ic_0 ?_
        refine b_goto (tgt := 38) (pc := 34) C dX12_size_34 rfl ?_
        exact b_iret (pc := 38) C Rt dX12_size_38 hF
  · rw [if_pos hc3] at hF
    refine b_aload_n (pc := 11) C dX12_size_11 rfl 0 rfl ?_
    refine b_getI (pc := 12) C dX12_size_12 fl_X12_71 (Hh.1 _ _ sh_92) rfl ?_
    exact b_iret (pc := 15) C Rt dX12_size_15 hF
set_option maxHeartbeats 4000000 in
set_option maxRecDepth 20000 in
theorem e_X12_size {l : Launch} {G : bG} {ρ : Nat → Nat} {A : Nat → Prop} (d : Nat) (x1 : Int32) (σ : bSto) (r : Int32) (σ' : bSto) (hF : f_X12_size x1 σ = some (r, σ')) : bEv l G bSHf ρ A yX12_size cX12_size 2 (some .int) (d + 1) [.ref 92, .int x1] σ (some (.int r)) σ' := b_met (d := d + 1) (by decide +kernel) (Nat.le_of_ble_eq_true rfl) rfl (fun X C Rt h1 h2 h3 => e_X12_size_0 C ⟨fun o q h => by rw [h1]; exact h, fun i h => by rw [h2]; exact h, h3⟩ Rt _ _ hF)
/-! BenchColonyModel.trouble -/
def f_X12_trouble  (σ : bSto) : Option (Int32 × bSto) := blet (bI σ 92 0 (0 : Int32)) (fun σ1 => some ((σ1.1 92 11), σ1))
set_option maxHeartbeats 4000000 in
set_option maxRecDepth 20000 in
theorem e_X12_trouble_0 {X : bX} {l : Launch} {G : bG} {ρ : Nat → Nat} {A : Nat → Prop} {d : Nat} {r : Int32} {σ' : bSto} (C : bCX X cX12_trouble RX12 (d + 0)) (Hh : bH X l G bSHf ρ A 1) (Rt : bRX X (some .int) (some (.int r)) σ')  (σ : bSto) (hF : f_X12_trouble  σ = some (r, σ')) : bAJ X 0 [(0, .ref 92)] [] σ := by
  rw [f_X12_trouble] at hF
  refine b_aload_n (pc := 0) C dX12_trouble_0 rfl 0 rfl ?_
  refine b_iconst (pc := 1) C dX12_trouble_1 ic_0 ?_
  obtain ⟨σ1, e2, hF⟩ := blet_e hF
  refine b_putI (pc := 2) C dX12_trouble_2 fp_X12_65 (Hh.1 _ _ sh_92) rfl rfl rfl e2 ?_
  refine b_aload_n (pc := 5) C dX12_trouble_5 rfl 0 rfl ?_
  refine b_getI (pc := 6) C dX12_trouble_6 fl_X12_68 (Hh.1 _ _ sh_92) rfl ?_
  exact b_iret (pc := 9) C Rt dX12_trouble_9 hF
set_option maxHeartbeats 4000000 in
set_option maxRecDepth 20000 in
theorem e_X12_trouble {l : Launch} {G : bG} {ρ : Nat → Nat} {A : Nat → Prop} (d : Nat)  (σ : bSto) (r : Int32) (σ' : bSto) (hF : f_X12_trouble  σ = some (r, σ')) : bEv l G bSHf ρ A yX12_trouble cX12_trouble 1 (some .int) (d + 0) [.ref 92] σ (some (.int r)) σ' := b_met (d := d + 0) (by decide +kernel) (Nat.le_of_ble_eq_true rfl) rfl (fun X C Rt h1 h2 h3 => e_X12_trouble_0 C ⟨fun o q h => by rw [h1]; exact h, fun i h => by rw [h2]; exact h, h3⟩ Rt  _ hF)
