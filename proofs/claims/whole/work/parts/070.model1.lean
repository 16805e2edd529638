/-! BenchColonyModel.thrown -/
def f_X12_thrown  (σ : bSto) : Option (Int32 × bSto) := some ((σ.1 92 0), σ)
set_option maxHeartbeats 4000000 in
set_option maxRecDepth 20000 in
theorem e_X12_thrown_0 {X : bX} {l : Launch} {G : bG} {ρ : Nat → Nat} {A : Nat → Prop} {d : Nat} {r : Int32} {σ' : bSto} (C : bCX X cX12_thrown RX12 (d + 0)) (Hh : bH X l G bSHf ρ A 1) (Rt : bRX X (some .int) (some (.int r)) σ')  (σ : bSto) (hF : f_X12_thrown  σ = some (r, σ')) : bAJ X 0 [(0, .ref 92)] [] σ := by
  rw [f_X12_thrown] at hF
  refine b_aload_n (pc := 0) C dX12_thrown_0 rfl 0 rfl ?_
  refine b_getI (pc := 1) C dX12_thrown_1 fl_X12_65 (Hh.1 _ _ sh_92) rfl ?_
  exact b_iret (pc := 4) C Rt dX12_thrown_4 hF
set_option maxHeartbeats 4000000 in
set_option maxRecDepth 20000 in
theorem e_X12_thrown {l : Launch} {G : bG} {ρ : Nat → Nat} {A : Nat → Prop} (d : Nat)  (σ : bSto) (r : Int32) (σ' : bSto) (hF : f_X12_thrown  σ = some (r, σ')) : bEv l G bSHf ρ A yX12_thrown cX12_thrown 1 (some .int) (d + 0) [.ref 92] σ (some (.int r)) σ' := b_met (d := d + 0) (by decide +kernel) (Nat.le_of_ble_eq_true rfl) rfl (fun X C Rt h1 h2 h3 => e_X12_thrown_0 C ⟨fun o q h => by rw [h1]; exact h, fun i h => by rw [h2]; exact h, h3⟩ Rt  _ hF)
/-! BenchColonyModel.good -/
def f_X12_good  (σ : bSto) : Option bSto := blet (bI σ 92 0 (0 : Int32)) (fun σ1 => blet (bI σ1 92 11 (0 : Int32)) (fun σ3 => some σ3))
set_option maxHeartbeats 4000000 in
set_option maxRecDepth 20000 in
theorem e_X12_good_0 {X : bX} {l : Launch} {G : bG} {ρ : Nat → Nat} {A : Nat → Prop} {d : Nat} {σ' : bSto} (C : bCX X cX12_good RX12 (d + 0)) (Hh : bH X l G bSHf ρ A 1) (Rt : bRX X none none σ')  (σ : bSto) (hF : f_X12_good  σ = some σ') : bAJ X 0 [(0, .ref 92)] [] σ := by
  rw [f_X12_good] at hF
  refine b_aload_n (pc := 0) C dX12_good_0 rfl 0 rfl ?_
  refine b_iconst (pc := 1) C dX12_good_1 ic_0 ?_
  obtain ⟨σ1, e2, hF⟩ := blet_e hF
  refine b_putI (pc := 2) C dX12_good_2 fp_X12_65 (Hh.1 _ _ sh_92) rfl rfl rfl e2 ?_
  refine b_aload_n (pc := 5) C dX12_good_5 rfl 0 rfl ?_
  refine b_iconst (pc := 6) C dX12_good_6 ic_0 ?_
  obtain ⟨σ3, e4, hF⟩ := blet_e hF
  refine b_putI (pc := 7) C dX12_good_7 fp_X12_68 (Hh.1 _ _ sh_92) rfl rfl rfl e4 ?_
  exact b_vret (pc := 10) C Rt dX12_good_10 hF
set_option maxHeartbeats 4000000 in
set_option maxRecDepth 20000 in
theorem e_X12_good {l : Launch} {G : bG} {ρ : Nat → Nat} {A : Nat → Prop} (d : Nat)  (σ : bSto) (σ' : bSto) (hF : f_X12_good  σ = some σ') : bEv l G bSHf ρ A yX12_good cX12_good 1 none (d + 0) [.ref 92] σ none σ' := b_met (d := d + 0) (by decide +kernel) (Nat.le_of_ble_eq_true rfl) rfl (fun X C Rt h1 h2 h3 => e_X12_good_0 C ⟨fun o q h => by rw [h1]; exact h, fun i h => by rw [h2]; exact h, h3⟩ Rt  _ hF)
/-! BenchColonyModel.no -/
def f_X12_no (x1 : Int32) (σ : bSto) : Option (Int32 × bSto) := blet (bI σ 92 11 x1) (fun σ1 => some ((-1 : Int32), σ1))
set_option maxHeartbeats 4000000 in
set_option maxRecDepth 20000 in
theorem e_X12_no_0 {X : bX} {l : Launch} {G : bG} {ρ : Nat → Nat} {A : Nat → Prop} {d : Nat} {r : Int32} {σ' : bSto} (C : bCX X cX12_no RX12 (d + 0)) (Hh : bH X l G bSHf ρ A 2) (Rt : bRX X (some .int) (some (.int r)) σ') (x1 : Int32) (σ : bSto) (hF : f_X12_no x1 σ = some (r, σ')) : bAJ X 0 [(0, .ref 92), (1, .int x1)] [] σ := by
  rw [f_X12_no] at hF
  refine b_aload_n (pc := 0) C dX12_no_0 rfl 0 rfl ?_
  refine b_iload_n (pc := 1) C dX12_no_1 rfl 1 rfl ?_
  obtain ⟨σ1, e2, hF⟩ := blet_e hF
  refine b_putI (pc := 2) C dX12_no_2 fp_X12_68 (Hh.1 _ _ sh_92) rfl rfl rfl e2 ?_
  refine b_iconst (pc := 5) C dX12_no_5 ic_m1 ?_
  exact b_iret (pc := 6) C Rt dX12_no_6 hF
set_option maxHeartbeats 4000000 in
set_option maxRecDepth 20000 in
theorem e_X12_no {l : Launch} {G : bG} {ρ : Nat → Nat} {A : Nat → Prop} (d : Nat) (x1 : Int32) (σ : bSto) (r : Int32) (σ' : bSto) (hF : f_X12_no x1 σ = some (r, σ')) : bEv l G bSHf ρ A yX12_no cX12_no 2 (some .int) (d + 0) [.ref 92, .int x1] σ (some (.int r)) σ' := b_met (d := d + 0) (by decide +kernel) (Nat.le_of_ble_eq_true rfl) rfl (fun X C Rt h1 h2 h3 => e_X12_no_0 C ⟨fun o q h => by rw [h1]; exact h, fun i h => by rw [h2]; exact h, h3⟩ Rt _ _ hF)
/-! BenchColonyModel.less -/
def f_X12_less (x1 : Int32) (σ : bSto) : Option (Int32 × bSto) := blet (bI σ 92 11 x1) (fun σ1 => some ((-1000 : Int32), σ1))
set_option maxHeartbeats 4000000 in
set_option maxRecDepth 20000 in
theorem e_X12_less_0 {X : bX} {l : Launch} {G : bG} {ρ : Nat → Nat} {A : Nat → Prop} {d : Nat} {r : Int32} {σ' : bSto} (C : bCX X cX12_less RX12 (d + 0)) (Hh : bH X l G bSHf ρ A 2) (Rt : bRX X (some .int) (some (.int r)) σ') (x1 : Int32) (σ : bSto) (hF : f_X12_less x1 σ = some (r, σ')) : bAJ X 0 [(0, .ref 92), (1, .int x1)] [] σ := by
  rw [f_X12_less] at hF
  refine b_aload_n (pc := 0) C dX12_less_0 rfl 0 rfl ?_
  refine b_iload_n (pc := 1) C dX12_less_1 rfl 1 rfl ?_
  obtain ⟨σ1, e2, hF⟩ := blet_e hF
  refine b_putI (pc := 2) C dX12_less_2 fp_X12_68 (Hh.1 _ _ sh_92) rfl rfl rfl e2 ?_
  refine b_sipush (pc := 5) C dX12_less_5 sp_m1000 ?_
  exact b_iret (pc := 8) C Rt dX12_less_8 hF
set_option maxHeartbeats 4000000 in
set_option maxRecDepth 20000 in
theorem e_X12_less {l : Launch} {G : bG} {ρ : Nat → Nat} {A : Nat → Prop} (d : Nat) (x1 : Int32) (σ : bSto) (r : Int32) (σ' : bSto) (hF : f_X12_less x1 σ = some (r, σ')) : bEv l G bSHf ρ A yX12_less cX12_less 2 (some .int) (d + 0) [.ref 92, .int x1] σ (some (.int r)) σ' := b_met (d := d + 0) (by decide +kernel) (Nat.le_of_ble_eq_true rfl) rfl (fun X C Rt h1 h2 h3 => e_X12_less_0 C ⟨fun o q h => by rw [h1]; exact h, fun i h => by rw [h2]; exact h, h3⟩ Rt _ _ hF)
/-! BenchColonyModel.isNot -/
def f_X12_isNot (x1 : Int32) (σ : bSto) : Option (Int32 × bSto) := blet (bI σ 92 11 x1) (fun σ1 => some ((0 : Int32), σ1))
set_option maxHeartbeats 4000000 in
set_option maxRecDepth 20000 in
theorem e_X12_isNot_0 {X : bX} {l : Launch} {G : bG} {ρ : Nat → Nat} {A : Nat → Prop} {d : Nat} {r : Int32} {σ' : bSto} (C : bCX X cX12_isNot RX12 (d + 0)) (Hh : bH X l G bSHf ρ A 2) (Rt : bRX X (some .boolean) (some (.int r)) σ') (x1 : Int32) (σ : bSto) (hF : f_X12_isNot x1 σ = some (r, σ')) : bAJ X 0 [(0, .ref 92), (1, .int x1)] [] σ := by
  rw [f_X12_isNot] at hF
  refine b_aload_n (pc := 0) C dX12_isNot_0 rfl 0 rfl ?_
  refine b_iload_n (pc := 1) C dX12_isNot_1 rfl 1 rfl ?_
  obtain ⟨σ1, e2, hF⟩ := blet_e hF
  refine b_putI (pc := 2) C dX12_isNot_2 fp_X12_68 (Hh.1 _ _ sh_92) rfl rfl rfl e2 ?_
  refine b_iconst (pc := 5) C dX12_isNot_5 ic_0 ?_
  exact b_zret (pc := 6) C Rt dX12_isNot_6 rfl hF
set_option maxHeartbeats 4000000 in
set_option maxRecDepth 20000 in
theorem e_X12_isNot {l : Launch} {G : bG} {ρ : Nat → Nat} {A : Nat → Prop} (d : Nat) (x1 : Int32) (σ : bSto) (r : Int32) (σ' : bSto) (hF : f_X12_isNot x1 σ = some (r, σ')) : bEv l G bSHf ρ A yX12_isNot cX12_isNot 2 (some .boolean) (d + 0) [.ref 92, .int x1] σ (some (.int r)) σ' := b_met (d := d + 0) (by decide +kernel) (Nat.le_of_ble_eq_true rfl) rfl (fun X C Rt h1 h2 h3 => e_X12_isNot_0 C ⟨fun o q h => by rw [h1]; exact h, fun i h => by rw [h2]; exact h, h3⟩ Rt _ _ hF)
/-! BenchColonyModel.in -/
def f_X12_in_J14  (σ : bSto) : Option (Int32 × bSto) := some ((0 : Int32), σ)
def f_X12_in (x0 : Int32) (x1 : Int32) (x2 : Int32) (σ : bSto) : Option (Int32 × bSto) := (if x0 < x1 then f_X12_in_J14  σ else (if x2 < x0 then f_X12_in_J14  σ else some ((1 : Int32), σ)))
set_option maxHeartbeats 4000000 in
set_option maxRecDepth 20000 in
theorem e_X12_in_J14 {X : bX} {l : Launch} {G : bG} {ρ : Nat → Nat} {A : Nat → Prop} {d : Nat} {r : Int32} {σ' : bSto} (C : bCX X cX12_in RX12 (d + 0)) (Hh : bH X l G bSHf ρ A 3) (Rt : bRX X (some .boolean) (some (.int r)) σ')  (σ : bSto) (hF : f_X12_in_J14  σ = some (r, σ')) : bAJ X 14 [] [] σ := by
  rw [f_X12_in_J14] at hF
  refine b_iconst (pc := 14) C dX12_in_14 ic_0 ?_
  exact b_zret (pc := 15) C Rt dX12_in_15 rfl hF
set_option maxHeartbeats 4000000 in
set_option maxRecDepth 20000 in
theorem e_X12_in_0 {X : bX} {l : Launch} {G : bG} {ρ : Nat → Nat} {A : Nat → Prop} {d : Nat} {r : Int32} {σ' : bSto} (C : bCX X cX12_in RX12 (d + 0)) (Hh : bH X l G bSHf ρ A 3) (Rt : bRX X (some .boolean) (some (.int r)) σ') (x0 : Int32) (x1 : Int32) (x2 : Int32) (σ : bSto) (hF : f_X12_in x0 x1 x2 σ = some (r, σ')) : bAJ X 0 [(0, .int x0), (1, .int x1), (2, .int x2)] [] σ := by
  rw [f_X12_in] at hF
  refine b_iload_n (pc := 0) C dX12_in_0 rfl 0 rfl ?_
  refine b_iload_n (pc := 1) C dX12_in_1 rfl 1 rfl ?_
  refine b_icmp_lt (tgt := 14) (pc := 2) C dX12_in_2 rfl (fun hc1 => ?_) (fun hc1 => ?_)
  · rw [if_pos hc1] at hF
    exact b_sub [] rfl (e_X12_in_J14 C Hh Rt  _ hF)
  · rw [if_neg hc1] at hF
    refine b_iload_n (pc := 5) C dX12_in_5 rfl 0 rfl ?_
    refine b_iload_n (pc := 6) C dX12_in_6 rfl 2 rfl ?_
    refine b_icmp_gt (tgt := 14) (pc := 7) C dX12_in_7 rfl (fun hc2 => ?_) (fun hc2 => ?_)
    · rw [if_pos hc2] at hF
      exact b_sub [] rfl (e_X12_in_J14 C Hh Rt  _ hF)
    · rw [if_neg hc2] at hF
      refine b_iconst (pc := 10) C dX12_in_10 ic_1 ?_
      refine b_goto (tgt := 15) (pc := 11) C dX12_in_11 rfl ?_
      exact b_zret (pc := 15) C Rt dX12_in_15 rfl hF
set_option maxHeartbeats 4000000 in
set_option maxRecDepth 20000 in
theorem e_X12_in {l : Launch} {G : bG} {ρ : Nat → Nat} {A : Nat → Prop} (d : Nat) (x0 : Int32) (x1 : Int32) (x2 : Int32) (σ : bSto) (r : Int32) (σ' : bSto) (hF : f_X12_in x0 x1 x2 σ = some (r, σ')) : bEv l G bSHf ρ A yX12_in cX12_in 3 (some .boolean) (d + 0) [.int x0, .int x1, .int x2] σ (some (.int r)) σ' := b_met (d := d + 0) (by decide +kernel) (Nat.le_of_ble_eq_true rfl) rfl (fun X C Rt h1 h2 h3 => e_X12_in_0 C ⟨fun o q h => by rw [h1]; exact h, fun i h => by rw [h2]; exact h, h3⟩ Rt _ _ _ _ hF)
/-! BenchColonyModel.hasBit -/
def f_X12_hasBit (x0 : Int32) (x1 : Int32) (σ : bSto) : Option (Int32 × bSto) := (if ((x0 >>> (x1 &&& 31)) &&& (1 : Int32)) = (1 : Int32) then some ((1 : Int32), σ) else some ((0 : Int32), σ))
set_option maxHeartbeats 4000000 in
set_option maxRecDepth 20000 in
theorem e_X12_hasBit_0 {X : bX} {l : Launch} {G : bG} {ρ : Nat → Nat} {A : Nat → Prop} {d : Nat} {r : Int32} {σ' : bSto} (C : bCX X cX12_hasBit RX12 (d + 0)) (Hh : bH X l G bSHf ρ A 2) (Rt : bRX X (some .boolean) (some (.int r)) σ') (x0 : Int32) (x1 : Int32) (σ : bSto) (hF : f_X12_hasBit x0 x1 σ = some (r, σ')) : bAJ X 0 [(0, .int x0), (1, .int x1)] [] σ := by
  rw [f_X12_hasBit] at hF
  refine b_iload_n (pc := 0) C dX12_hasBit_0 rfl 0 rfl ?_
  refine b_iload_n (pc := 1) C dX12_hasBit_1 rfl 1 rfl ?_
  refine b_ishr (pc := 2) C dX12_hasBit_2 ?_
  refine b_iconst (pc := 3) C dX12_hasBit_3 ic_1 ?_
  refine b_iand (pc := 4) C dX12_hasBit_4 ?_
  refine b_iconst (pc := 5) C dX12_hasBit_5 ic_1 ?_
  refine b_icmp_ne (tgt := 13) (pc := 6) C dX12_hasBit_6 rfl (fun hc1 => ?_) (fun hc1 => ?_)
  · rw [if_neg hc1] at hF
    refine b_iconst (pc := 13) C dX12_hasBit_13 ic_0 ?_
    exact b_zret (pc := 14) C Rt dX12_hasBit_14 rfl hF
  · rw [if_pos hc1] at hF
    refine b_iconst (pc := 9) C dX12_hasBit_9 ic_1 ?_
    refine b_goto (tgt := 14) (pc := 10) C dX12_hasBit_10 rfl ?_
    exact b_zret (pc := 14) C Rt dX12_hasBit_14 rfl hF
set_option maxHeartbeats 4000000 in
set_option maxRecDepth 20000 in
theorem e_X12_hasBit {l : Launch} {G : bG} {ρ : Nat → Nat} {A : Nat → Prop} (d : Nat) (x0 : Int32) (x1 : Int32) (σ : bSto) (r : Int32) (σ' : bSto) (hF : f_X12_hasBit x0 x1 σ = some (r, σ')) : bEv l G bSHf ρ A yX12_hasBit cX12_hasBit 2 (some .boolean) (d + 0) [.int x0, .int x1] σ (some (.int r)) σ' := b_met (d := d + 0) (by decide +kernel) (Nat.le_of_ble_eq_true rfl) rfl (fun X C Rt h1 h2 h3 => e_X12_hasBit_0 C ⟨fun o q h => by rw [h1]; exact h, fun i h => by rw [h2]; exact h, h3⟩ Rt _ _ _ hF)
/-! BenchColonyModel.ones -/
def f_X12_ones_L4 : Nat → Int32 → Int32 → Int32 → bSto → Option (Int32 × bSto)
  | 0, _, _, _, _ => none
  | n + 1, x0, x1, x2, σ => (if (8 : Int32) ≤ x2 then some (x1, σ) else blet (x1 + ((x0 >>> (x2 &&& 31)) &&& (1 : Int32))) (fun x1_2 => blet (x2 + (1 : Int32)) (fun x2_4 => f_X12_ones_L4 n x0 x1_2 x2_4 σ)))
def f_X12_ones (x0 : Int32) (σ : bSto) : Option (Int32 × bSto) := bl1 (f_X12_ones_L4 bFU x0 (0 : Int32) (0 : Int32) σ) (fun x1_1 σ2 => some (x1_1, σ2))
set_option maxHeartbeats 4000000 in
set_option maxRecDepth 20000 in
theorem e_X12_ones_L4 {X : bX} {l : Launch} {G : bG} {ρ : Nat → Nat} {A : Nat → Prop} {d : Nat} {r : Int32} {σ' : bSto} (C : bCX X cX12_ones RX12 (d + 0)) (Hh : bH X l G bSHf ρ A 3) (Rt : bRX X (some .int) (some (.int r)) σ') : ∀ (n : Nat) (x0 : Int32) (x1 : Int32) (x2 : Int32) (σ : bSto) (q : (Int32 × bSto)), f_X12_ones_L4 n x0 x1 x2 σ = some q → (∀ (x1 : Int32) (s : bSto), q = (x1, s) → bAJ X 24 [(1, .int x1)] [] s) → bAJ X 4 [(0, .int x0), (1, .int x1), (2, .int x2)] [] σ := by
  intro n
  induction n with
  | zero => intro x0 x1 x2 σ q hF; rw [f_X12_ones_L4] at hF; cases hF
  | succ n ih =>
    intro x0 x1 x2 σ q hF hx
    rw [f_X12_ones_L4] at hF
    refine b_iload_n (pc := 4) C dX12_ones_4 rfl 2 rfl ?_
    refine b_bipush (pc := 5) C dX12_ones_5 bp_8 ?_
    refine b_icmp_ge (tgt := 24) (pc := 7) C dX12_ones_7 rfl (fun hc1 => ?_) (fun hc1 => ?_)
    · rw [if_pos hc1] at hF
      exact b_sub [1] rfl (hx _ _ (Option.some.inj hF).symm )
    · rw [if_neg hc1] at hF
      refine b_iload_n (pc := 10) C dX12_ones_10 rfl 1 rfl ?_
      refine b_iload_n (pc := 11) C dX12_ones_11 rfl 0 rfl ?_
      refine b_iload_n (pc := 12) C dX12_ones_12 rfl 2 rfl ?_
      refine b_ishr (pc := 13) C dX12_ones_13 ?_
      refine b_iconst (pc := 14) C dX12_ones_14 ic_1 ?_
      refine b_iand (pc := 15) C dX12_ones_15 ?_
      refine b_iadd (pc := 16) C dX12_ones_16 ?_
      obtain ⟨x1_2, e3, hF⟩ := blet_e hF
      refine b_istore_n (L' := [(1, .int x1_2), (0, .int x0), (2, .int x2)]) (pc := 17) C dX12_ones_17 rfl e3 (Hh.2.1 _ (Nat.le_of_ble_eq_true rfl)) rfl ?_
      obtain ⟨x2_4, e5, hF⟩ := blet_e hF
      refine b_iinc (L' := [(2, .int x2_4), (1, .int x1_2), (0, .int x0)]) (pc := 18) C dX12_ones_18 2 rfl ic_1 e5 (Hh.2.1 _ (Nat.le_of_ble_eq_true rfl)) rfl ?_
      refine b_goto (tgt := 4) (pc := 21) C dX12_ones_21 rfl ?_
      exact b_sub [2, 1, 0] rfl (ih x0 x1_2 x2_4 _ _ hF hx)
set_option maxHeartbeats 4000000 in
set_option maxRecDepth 20000 in
theorem e_X12_ones_0 {X : bX} {l : Launch} {G : bG} {ρ : Nat → Nat} {A : Nat → Prop} {d : Nat} {r : Int32} {σ' : bSto} (C : bCX X cX12_ones RX12 (d + 0)) (Hh : bH X l G bSHf ρ A 3) (Rt : bRX X (some .int) (some (.int r)) σ') (x0 : Int32) (σ : bSto) (hF : f_X12_ones x0 σ = some (r, σ')) : bAJ X 0 [(0, .int x0)] [] σ := by
  rw [f_X12_ones] at hF
  refine b_iconst (pc := 0) C dX12_ones_0 ic_0 ?_
  refine b_istore_n (L' := [(1, .int (0 : Int32)), (0, .int x0)]) (pc := 1) C dX12_ones_1 rfl rfl (Hh.2.1 _ (Nat.le_of_ble_eq_true rfl)) rfl ?_
  refine b_iconst (pc := 2) C dX12_ones_2 ic_0 ?_
  refine b_istore_n (L' := [(2, .int (0 : Int32)), (1, .int (0 : Int32)), (0, .int x0)]) (pc := 3) C dX12_ones_3 rfl rfl (Hh.2.1 _ (Nat.le_of_ble_eq_true rfl)) rfl ?_
  obtain ⟨x1_1, σ2, hq1, hF⟩ := bl1_e hF
  refine b_sub [2, 1, 0] rfl (e_X12_ones_L4 C Hh Rt bFU x0 (0 : Int32) (0 : Int32) _ _ hq1 (fun _ _ e  => ?_))
  cases e
  refine b_iload_n (pc := 24) C dX12_ones_24 rfl 0 rfl ?_
  exact b_iret (pc := 25) C Rt dX12_ones_25 hF
set_option maxHeartbeats 4000000 in
set_option maxRecDepth 20000 in
theorem e_X12_ones {l : Launch} {G : bG} {ρ : Nat → Nat} {A : Nat → Prop} (d : Nat) (x0 : Int32) (σ : bSto) (r : Int32) (σ' : bSto) (hF : f_X12_ones x0 σ = some (r, σ')) : bEv l G bSHf ρ A yX12_ones cX12_ones 3 (some .int) (d + 0) [.int x0] σ (some (.int r)) σ' := b_met (d := d + 0) (by decide +kernel) (Nat.le_of_ble_eq_true rfl) rfl (fun X C Rt h1 h2 h3 => e_X12_ones_0 C ⟨fun o q h => by rw [h1]; exact h, fun i h => by rw [h2]; exact h, h3⟩ Rt _ _ hF)
/-! BenchColonyModel.apart -/
def f_X12_apart (x0 : Int32) (x1 : Int32) (σ : bSto) : Option (Int32 × bSto) := (if x0 ≤ x1 then some ((x1 - x0), σ) else some ((x0 - x1), σ))
set_option maxHeartbeats 4000000 in
set_option maxRecDepth 20000 in
theorem e_X12_apart_0 {X : bX} {l : Launch} {G : bG} {ρ : Nat → Nat} {A : Nat → Prop} {d : Nat} {r : Int32} {σ' : bSto} (C : bCX X cX12_apart RX12 (d + 0)) (Hh : bH X l G bSHf ρ A 2) (Rt : bRX X (some .int) (some (.int r)) σ') (x0 : Int32) (x1 : Int32) (σ : bSto) (hF : f_X12_apart x0 x1 σ = some (r, σ')) : bAJ X 0 [(0, .int x0), (1, .int x1)] [] σ := by
  rw [f_X12_apart] at hF
  refine b_iload_n (pc := 0) C dX12_apart_0 rfl 0 rfl ?_
  refine b_iload_n (pc := 1) C dX12_apart_1 rfl 1 rfl ?_
  refine b_icmp_le (tgt := 11) (pc := 2) C dX12_apart_2 rfl (fun hc1 => ?_) (fun hc1 => ?_)
  · rw [if_pos hc1] at hF
    refine b_iload_n (pc := 11) C dX12_apart_11 rfl 1 rfl ?_
    refine b_iload_n (pc := 12) C dX12_apart_12 rfl 0 rfl ?_
    refine b_isub (pc := 13) C dX12_apart_13 ?_
    exact b_iret (pc := 14) C Rt dX12_apart_14 hF
  · rw [if_neg hc1] at hF
    refine b_iload_n (pc := 5) C dX12_apart_5 rfl 0 rfl ?_
    refine b_iload_n (pc := 6) C dX12_apart_6 rfl 1 rfl ?_
    refine b_isub (pc := 7) C dX12_apart_7 ?_
    refine b_goto (tgt := 14) (pc := 8) C dX12_apart_8 rfl ?_
    exact b_iret (pc := 14) C Rt dX12_apart_14 hF
set_option maxHeartbeats 4000000 in
set_option maxRecDepth 20000 in
theorem e_X12_apart {l : Launch} {G : bG} {ρ : Nat → Nat} {A : Nat → Prop} (d : Nat) (x0 : Int32) (x1 : Int32) (σ : bSto) (r : Int32) (σ' : bSto) (hF : f_X12_apart x0 x1 σ = some (r, σ')) : bEv l G bSHf ρ A yX12_apart cX12_apart 2 (some .int) (d + 0) [.int x0, .int x1] σ (some (.int r)) σ' := b_met (d := d + 0) (by decide +kernel) (Nat.le_of_ble_eq_true rfl) rfl (fun X C Rt h1 h2 h3 => e_X12_apart_0 C ⟨fun o q h => by rw [h1]; exact h, fun i h => by rw [h2]; exact h, h3⟩ Rt _ _ _ hF)
/-! BenchColonyModel.copy -/
def f_X12_copy_L3 : Nat → Nat → Int32 → Nat → Int32 → Int32 → Int32 → bSto → Option (bSto)
  | 0, _, _, _, _, _, _, _ => none
  | n + 1, x0, x1, x2, x3, x4, x5, σ => (if x4 ≤ x5 then some σ else if (x1 + x5) < 0 ∨ (bln x0) ≤ (x1 + x5).toNatClampNeg then none else if (x3 + x5) < 0 ∨ (bln x2) ≤ (x3 + x5).toNatClampNeg then none else blet (bI σ x2 (x3 + x5).toNatClampNeg (σ.1 x0 (x1 + x5).toNatClampNeg)) (fun σ3 => blet (x5 + (1 : Int32)) (fun x5_6 => f_X12_copy_L3 n x0 x1 x2 x3 x4 x5_6 σ3)))
def f_X12_copy (x0 : Nat) (x1 : Int32) (x2 : Nat) (x3 : Int32) (x4 : Int32) (σ : bSto) : Option bSto := bl0 (f_X12_copy_L3 bFU x0 x1 x2 x3 x4 (0 : Int32) σ) (fun σ2 => some σ2)
set_option maxHeartbeats 4000000 in
set_option maxRecDepth 20000 in
theorem e_X12_copy_L3 {X : bX} {l : Launch} {G : bG} {ρ : Nat → Nat} {A : Nat → Prop} {d : Nat} {σ' : bSto} (C : bCX X cX12_copy RX12 (d + 0)) (Hh : bH X l G bSHf ρ A 6) (Rt : bRX X none none σ') : ∀ (n : Nat) (x0 : Nat) (hx0 : kIA x0) (x1 : Int32) (x2 : Nat) (hx2 : kIA x2) (x3 : Int32) (x4 : Int32) (x5 : Int32) (σ : bSto) (q : (bSto)), f_X12_copy_L3 n x0 x1 x2 x3 x4 x5 σ = some q → (∀  (s : bSto), q = s → bAJ X 28 [] [] s) → bAJ X 3 [(0, .ref x0), (1, .int x1), (2, .ref x2), (3, .int x3), (4, .int x4), (5, .int x5)] [] σ := by
  intro n
  induction n with
  | zero => intro x0 hx0 x1 x2 hx2 x3 x4 x5 σ q hF; rw [f_X12_copy_L3] at hF; cases hF
  | succ n ih =>
    intro x0 hx0 x1 x2 hx2 x3 x4 x5 σ q hF hx
    rw [f_X12_copy_L3] at hF
    refine b_iload (pc := 3) C dX12_copy_3 5 rfl ?_
    refine b_iload (pc := 5) C dX12_copy_5 4 rfl ?_
    refine b_icmp_ge (tgt := 28) (pc := 7) C dX12_copy_7 rfl (fun hc1 => ?_) (fun hc1 => ?_)
    · rw [if_pos hc1] at hF
      exact b_sub [] rfl (hx  _ (Option.some.inj hF).symm )
    · rw [if_neg hc1] at hF
      refine b_aload_n (pc := 10) C dX12_copy_10 rfl 2 rfl ?_
      refine b_iload_n (pc := 11) C dX12_copy_11 rfl 3 rfl ?_
      refine b_iload (pc := 12) C dX12_copy_12 5 rfl ?_
      refine b_iadd (pc := 14) C dX12_copy_14 ?_
      refine b_aload_n (pc := 15) C dX12_copy_15 rfl 0 rfl ?_
      refine b_iload_n (pc := 16) C dX12_copy_16 rfl 1 rfl ?_
      refine b_iload (pc := 17) C dX12_copy_17 5 rfl ?_
      refine b_iadd (pc := 19) C dX12_copy_19 ?_
      obtain ⟨hb2, hF⟩ := bif_n hF
      refine b_iald (pc := 20) C dX12_copy_20 (Hh.1 _ _ hx0) hb2 ?_
      obtain ⟨hb5, hF⟩ := bif_n hF
      obtain ⟨σ3, e4, hF⟩ := blet_e hF
      refine b_iast (pc := 21) C dX12_copy_21 (Hh.1 _ _ hx2) hb5 e4 ?_
      obtain ⟨x5_6, e7, hF⟩ := blet_e hF
      refine b_iinc (L' := [(5, .int x5_6), (0, .ref x0), (1, .int x1), (2, .ref x2), (3, .int x3), (4, .int x4)]) (pc := 22) C dX12_copy_22 5 rfl ic_1 e7 (Hh.2.1 _ (Nat.le_of_ble_eq_true rfl)) rfl ?_
      refine b_goto (tgt := 3) (pc := 25) C dX12_copy_25 rfl ?_
      exact b_sub [1, 2, 3, 4, 5, 0] rfl (ih _ hx0 x1 _ hx2 x3 x4 x5_6 _ _ hF hx)
set_option maxHeartbeats 4000000 in
set_option maxRecDepth 20000 in
theorem e_X12_copy_0 {X : bX} {l : Launch} {G : bG} {ρ : Nat → Nat} {A : Nat → Prop} {d : Nat} {σ' : bSto} (C : bCX X cX12_copy RX12 (d + 0)) (Hh : bH X l G bSHf ρ A 6) (Rt : bRX X none none σ') (x0 : Nat) (hx0 : kIA x0) (x1 : Int32) (x2 : Nat) (hx2 : kIA x2) (x3 : Int32) (x4 : Int32) (σ : bSto) (hF : f_X12_copy x0 x1 x2 x3 x4 σ = some σ') : bAJ X 0 [(0, .ref x0), (1, .int x1), (2, .ref x2), (3, .int x3), (4, .int x4)] [] σ := by
  rw [f_X12_copy] at hF
  refine b_iconst (pc := 0) C dX12_copy_0 ic_0 ?_
  refine b_istore (L' := [(5, .int (0 : Int32)), (0, .ref x0), (1, .int x1), (2, .ref x2), (3, .int x3), (4, .int x4)]) (pc := 1) C dX12_copy_1 rfl (Hh.2.1 _ (Nat.le_of_ble_eq_true rfl)) rfl ?_
  obtain ⟨σ2, hq1, hF⟩ := bl0_e hF
  refine b_sub [1, 2, 3, 4, 5, 0] rfl (e_X12_copy_L3 C Hh Rt bFU _ hx0 x1 _ hx2 x3 x4 (0 : Int32) _ _ hq1 (fun  _ e  => ?_))
  cases e
  exact b_vret (pc := 28) C Rt dX12_copy_28 hF
set_option maxHeartbeats 4000000 in
set_option maxRecDepth 20000 in
theorem e_X12_copy {l : Launch} {G : bG} {ρ : Nat → Nat} {A : Nat → Prop} (d : Nat) (x0 : Nat) (hx0 : kIA x0) (x1 : Int32) (x2 : Nat) (hx2 : kIA x2) (x3 : Int32) (x4 : Int32) (σ : bSto) (σ' : bSto) (hF : f_X12_copy x0 x1 x2 x3 x4 σ = some σ') : bEv l G bSHf ρ A yX12_copy cX12_copy 6 none (d + 0) [.ref x0, .int x1, .ref x2, .int x3, .int x4] σ none σ' := b_met (d := d + 0) (by decide +kernel) (Nat.le_of_ble_eq_true rfl) rfl (fun X C Rt h1 h2 h3 => e_X12_copy_0 C ⟨fun o q h => by rw [h1]; exact h, fun i h => by rw [h2]; exact h, h3⟩ Rt _ hx0 _ _ hx2 _ _ _ hF)
/-! BenchColonyModel.feed -/
def f_X12_feed_J76_23 (k : Int32 → Int32 → Int32 → Int32 → Int32 → Int32 → bSto → Option (bSto)) (x1 : Int32) (x2 : Int32) (x3 : Int32) (x4 : Int32) (x5 : Int32) (x6 : Int32) (s0 : Int32) (σ : bSto) : Option (bSto) := if (σ.1 92 2) < 0 ∨ 1000 ≤ (σ.1 92 2).toNatClampNeg then none else blet (bI σ 93 (σ.1 92 2).toNatClampNeg ((s0 >>> (((24 : Int32) - ((8 : Int32) * (x6 - x6 / (4 : Int32) * (4 : Int32)))) &&& 31)) &&& (255 : Int32))) (fun σ1 => blet (bI σ1 92 2 ((σ1.1 92 2) + (1 : Int32))) (fun σ4 => blet (x6 + (1 : Int32)) (fun x6_6 => k x1 x2 x3 x4 x5 x6_6 σ4)))
def f_X12_feed_L23 : Nat → Int32 → Int32 → Int32 → Int32 → Int32 → Int32 → bSto → Option (bSto)
  | 0, _, _, _, _, _, _, _ => none
  | n + 1, x1, x2, x3, x4, x5, x6, σ => (if (20 : Int32) ≤ x6 then some σ else (if (4 : Int32) ≤ x6 then (if (8 : Int32) ≤ x6 then (if (12 : Int32) ≤ x6 then (if (16 : Int32) ≤ x6 then f_X12_feed_J76_23 (f_X12_feed_L23 n) x1 x2 x3 x4 x5 x6 x5 σ else f_X12_feed_J76_23 (f_X12_feed_L23 n) x1 x2 x3 x4 x5 x6 x4 σ) else f_X12_feed_J76_23 (f_X12_feed_L23 n) x1 x2 x3 x4 x5 x6 x3 σ) else f_X12_feed_J76_23 (f_X12_feed_L23 n) x1 x2 x3 x4 x5 x6 x2 σ) else f_X12_feed_J76_23 (f_X12_feed_L23 n) x1 x2 x3 x4 x5 x6 x1 σ))
def f_X12_feed (x1 : Int32) (x2 : Int32) (x3 : Int32) (x4 : Int32) (x5 : Int32) (σ : bSto) : Option (Int32 × bSto) := blet (bI σ 92 0 (0 : Int32)) (fun σ1 => (if ((σ1.1 92 2) + (20 : Int32)) ≤ (1000 : Int32) then bl0 (f_X12_feed_L23 bFU x1 x2 x3 x4 x5 (0 : Int32) σ1) (fun σ5 => some ((σ5.1 92 2), σ5)) else some ((-1 : Int32), σ1)))
set_option maxHeartbeats 4000000 in
set_option maxRecDepth 20000 in
theorem e_X12_feed_J76_23 {X : bX} {l : Launch} {G : bG} {ρ : Nat → Nat} {A : Nat → Prop} {d : Nat} {r : Int32} {σ' : bSto} (C : bCX X cX12_feed RX12 (d + 0)) (Hh : bH X l G bSHf ρ A 8) (Rt : bRX X (some .int) (some (.int r)) σ') {k : Int32 → Int32 → Int32 → Int32 → Int32 → Int32 → bSto → Option (bSto)} (ih : ∀ (x1 : Int32) (x2 : Int32) (x3 : Int32) (x4 : Int32) (x5 : Int32) (x6 : Int32) (σ : bSto) (q : (bSto)), k x1 x2 x3 x4 x5 x6 σ = some q → (∀  (s : bSto), q = s → bAJ X 120 [(0, .ref 92)] [] s) → bAJ X 23 [(0, .ref 92), (1, .int x1), (2, .int x2), (3, .int x3), (4, .int x4), (5, .int x5), (6, .int x6)] [] σ) (x1 : Int32) (x2 : Int32) (x3 : Int32) (x4 : Int32) (x5 : Int32) (x6 : Int32) (s0 : Int32) (σ : bSto) (q : (bSto)) (hF : f_X12_feed_J76_23 k x1 x2 x3 x4 x5 x6 s0 σ = some q) : (∀  (s : bSto), q = s → bAJ X 120 [(0, .ref 92)] [] s) → bAJ X 76 [(0, .ref 92), (1, .int x1), (2, .int x2), (3, .int x3), (4, .int x4), (5, .int x5), (6, .int x6)] [.int s0] σ := by
  intro hx
  rw [f_X12_feed_J76_23] at hF
  refine b_istore (L' := [(7, .int s0), (0, .ref 92), (1, .int x1), (2, .int x2), (3, .int x3), (4, .int x4), (5, .int x5), (6, .int x6)]) (pc := 76) C dX12_feed_76 rfl (Hh.2.1 _ (Nat.le_of_ble_eq_true rfl)) rfl ?_
  refine b_aload_n (pc := 78) C dX12_feed_78 rfl 1 rfl ?_
  refine b_getS (pc := 79) C dX12_feed_79 fl_X12_7 (Hh.1 _ _ sh_92) rfl ?_
  refine b_aload_n (pc := 82) C dX12_feed_82 rfl 1 rfl ?_
  refine b_getI (pc := 83) C dX12_feed_83 fl_X12_71 (Hh.1 _ _ sh_92) rfl ?_
  refine b_iload (pc := 86) C dX12_feed_86 0 rfl ?_
  refine b_bipush (pc := 88) C dX12_feed_88 bp_24 ?_
  refine b_bipush (pc := 90) C dX12_feed_90 bp_8 ?_
  refine b_iload (pc := 92) C dX12_feed_92 7 rfl ?_
  refine b_iconst (pc := 94) C dX12_feed_94 ic_4 ?_
  refine b_irem (pc := 95) C dX12_feed_95 (by decide) ?_
  refine b_imul (pc := 96) C dX12_feed_96 ?_
  refine b_isub (pc := 97) C dX12_feed_97 ?_
  refine b_ishr (pc := 98) C dX12_feed_98 ?_
  refine b_sipush (pc := 99) C dX12_feed_99 sp_255 ?_
  refine b_iand (pc := 102) C dX12_feed_102 ?_
  obtain ⟨hb3, hF⟩ := bif_n hF
  obtain ⟨σ1, e2, hF⟩ := blet_e hF
  refine b_iast (pc := 103) C dX12_feed_103 (Hh.1 _ _ sh_93) hb3 e2 ?_
  refine b_aload_n (pc := 104) C dX12_feed_104 rfl 1 rfl ?_
  refine b_dup (pc := 105) C dX12_feed_105 rfl ?_
  refine b_getI (pc := 106) C dX12_feed_106 fl_X12_71 (Hh.1 _ _ sh_92) rfl ?_
  refine b_iconst (pc := 109) C dX12_feed_109 ic_1 ?_
  refine b_iadd (pc := 110) C dX12_feed_110 ?_
  obtain ⟨σ4, e5, hF⟩ := blet_e hF
  refine b_putI (pc := 111) C dX12_feed_111 fp_X12_71 (Hh.1 _ _ sh_92) rfl rfl rfl e5 ?_
  obtain ⟨x6_6, e7, hF⟩ := blet_e hF
  refine b_iinc (L' := [(6, .int x6_6), (7, .int s0), (0, .ref 92), (1, .int x1), (2, .int x2), (3, .int x3), (4, .int x4), (5, .int x5)]) (pc := 114) C dX12_feed_114 7 rfl ic_1 e7 (Hh.2.1 _ (Nat.le_of_ble_eq_true rfl)) rfl ?_
  refine b_goto (tgt := 23) (pc := 117) C dX12_feed_117 rfl ?_
  exact b_sub [2, 3, 4, 5, 6, 7, 0] rfl (ih x1 x2 x3 x4 x5 x6_6 _ _ hF hx)
set_option maxHeartbeats 4000000 in
set_option maxRecDepth 20000 in
theorem e_X12_feed_L23 {X : bX} {l : Launch} {G : bG} {ρ : Nat → Nat} {A : Nat → Prop} {d : Nat} {r : Int32} {σ' : bSto} (C : bCX X cX12_feed RX12 (d + 0)) (Hh : bH X l G bSHf ρ A 8) (Rt : bRX X (some .int) (some (.int r)) σ') : ∀ (n : Nat) (x1 : Int32) (x2 : Int32) (x3 : Int32) (x4 : Int32) (x5 : Int32) (x6 : Int32) (σ : bSto) (q : (bSto)), f_X12_feed_L23 n x1 x2 x3 x4 x5 x6 σ = some q → (∀  (s : bSto), q = s → bAJ X 120 [(0, .ref 92)] [] s) → bAJ X 23 [(0, .ref 92), (1, .int x1), (2, .int x2), (3, .int x3), (4, .int x4), (5, .int x5), (6, .int x6)] [] σ := by
  intro n
  induction n with
  | zero => intro x1 x2 x3 x4 x5 x6 σ q hF; rw [f_X12_feed_L23] at hF; cases hF
  | succ n ih =>
    intro x1 x2 x3 x4 x5 x6 σ q hF hx
    rw [f_X12_feed_L23] at hF
    refine b_iload (pc := 23) C dX12_feed_23 6 rfl ?_
    refine b_bipush (pc := 25) C dX12_feed_25 bp_20 ?_
    refine b_icmp_ge (tgt := 120) (pc := 27) C dX12_feed_27 rfl (fun hc1 => ?_) (fun hc1 => ?_)
    · rw [if_pos hc1] at hF
      exact b_sub [0] rfl (hx  _ (Option.some.inj hF).symm )
    · rw [if_neg hc1] at hF
      refine b_iload (pc := 30) C dX12_feed_30 6 rfl ?_
      refine b_iconst (pc := 32) C dX12_feed_32 ic_4 ?_
      refine b_icmp_ge (tgt := 40) (pc := 33) C dX12_feed_33 rfl (fun hc2 => ?_) (fun hc2 => ?_)
      · rw [if_pos hc2] at hF
        refine b_iload (pc := 40) C dX12_feed_40 6 rfl ?_
        refine b_bipush (pc := 42) C dX12_feed_42 bp_8 ?_
        refine b_icmp_ge (tgt := 51) (pc := 44) C dX12_feed_44 rfl (fun hc3 => ?_) (fun hc3 => ?_)
        · rw [if_pos hc3] at hF
          refine b_iload (pc := 51) C dX12_feed_51 6 rfl ?_
          refine b_bipush (pc := 53) C dX12_feed_53 bp_12 ?_
          refine b_icmp_ge (tgt := 62) (pc := 55) C dX12_feed_55 rfl (fun hc4 => ?_) (fun hc4 => ?_)
          · rw [if_pos hc4] at hF
            refine b_iload (pc := 62) C dX12_feed_62 6 rfl ?_
            refine b_bipush (pc := 64) C dX12_feed_64 bp_16 ?_
            refine b_icmp_ge (tgt := 74) (pc := 66) C dX12_feed_66 rfl (fun hc5 => ?_) (fun hc5 => ?_)
            · rw [if_pos hc5] at hF
              refine b_iload (pc := 74) C dX12_feed_74 5 rfl ?_
              exact b_sub [0, 1, 2, 3, 4, 5, 6] rfl (e_X12_feed_J76_23 C Hh Rt ih x1 x2 x3 x4 x5 x6 x5 _ _ hF hx)
            · rw [if_neg hc5] at hF
              refine b_iload (pc := 69) C dX12_feed_69 4 rfl ?_
              refine b_goto (tgt := 76) (pc := 71) C dX12_feed_71 rfl ?_
              exact b_sub [0, 1, 2, 3, 4, 5, 6] rfl (e_X12_feed_J76_23 C Hh Rt ih x1 x2 x3 x4 x5 x6 x4 _ _ hF hx)
          · rw [if_neg hc4] at hF
            refine b_iload_n (pc := 58) C dX12_feed_58 rfl 3 rfl ?_
            refine b_goto (tgt := 76) (pc := 59) C dX12_feed_59 rfl ?_
            exact b_sub [0, 1, 2, 3, 4, 5, 6] rfl (e_X12_feed_J76_23 C Hh Rt ih x1 x2 x3 x4 x5 x6 x3 _ _ hF hx)
        · rw [if_neg hc3] at hF
          refine b_iload_n (pc := 47) C dX12_feed_47 rfl 2 rfl ?_
          refine b_goto (tgt := 76) (pc := 48) C dX12_feed_48 rfl ?_
          exact b_sub [0, 1, 2, 3, 4, 5, 6] rfl (e_X12_feed_J76_23 C Hh Rt ih x1 x2 x3 x4 x5 x6 x2 _ _ hF hx)
      · rw [if_neg hc2] at hF
        refine b_iload_n (pc := 36) C dX12_feed_36 rfl 1 rfl ?_
        refine b_goto (tgt := 76) (pc := 37) C dX12_feed_37 rfl ?_
        exact b_sub [0, 1, 2, 3, 4, 5, 6] rfl (e_X12_feed_J76_23 C Hh Rt ih x1 x2 x3 x4 x5 x6 x1 _ _ hF hx)
set_option maxHeartbeats 4000000 in
set_option maxRecDepth 20000 in
theorem e_X12_feed_0 {X : bX} {l : Launch} {G : bG} {ρ : Nat → Nat} {A : Nat → Prop} {d : Nat} {r : Int32} {σ' : bSto} (C : bCX X cX12_feed RX12 (d + 0)) (Hh : bH X l G bSHf ρ A 8) (Rt : bRX X (some .int) (some (.int r)) σ') (x1 : Int32) (x2 : Int32) (x3 : Int32) (x4 : Int32) (x5 : Int32) (σ : bSto) (hF : f_X12_feed x1 x2 x3 x4 x5 σ = some (r, σ')) : bAJ X 0 [(0, .ref 92), (1, .int x1), (2, .int x2), (3, .int x3), (4, .int x4), (5, .int x5)] [] σ := by
  rw [f_X12_feed] at hF
  refine b_aload_n (pc := 0) C dX12_feed_0 rfl 0 rfl ?_
  refine b_iconst (pc := 1) C dX12_feed_1 ic_0 ?_
  obtain ⟨σ1, e2, hF⟩ := blet_e hF
  refine b_putI (pc := 2) C dX12_feed_2 fp_X12_65 (Hh.1 _ _ sh_92) rfl rfl rfl e2 ?_
  refine b_aload_n (pc := 5) C dX12_feed_5 rfl 0 rfl ?_
  refine b_getI (pc := 6) C dX12_feed_6 fl_X12_71 (Hh.1 _ _ sh_92) rfl ?_
  refine b_bipush (pc := 9) C dX12_feed_9 bp_20 ?_
  refine b_iadd (pc := 11) C dX12_feed_11 ?_
  refine b_sipush (pc := 12) C dX12_feed_12 sp_1000 ?_
  refine b_icmp_le (tgt := 20) (pc := 15) C dX12_feed_15 rfl (fun hc3 => ?_) (fun hc3 => ?_)
  · rw [if_pos hc3] at hF
    refine b_iconst (pc := 20) C dX12_feed_20 ic_0 ?_
    refine b_istore (L' := [(6, .int (0 : Int32)), (0, .ref 92), (1, .int x1), (2, .int x2), (3, .int x3), (4, .int x4), (5, .int x5)]) (pc := 21) C dX12_feed_21 rfl (Hh.2.1 _ (Nat.le_of_ble_eq_true rfl)) rfl ?_
    obtain ⟨σ5, hq4, hF⟩ := bl0_e hF
    refine b_sub [1, 2, 3, 4, 5, 6, 0] rfl (e_X12_feed_L23 C Hh Rt bFU x1 x2 x3 x4 x5 (0 : Int32) _ _ hq4 (fun  _ e  => ?_))
    cases e
    refine b_aload_n (pc := 120) C dX12_feed_120 rfl 0 rfl ?_
    refine b_getI (pc := 121) C dX12_feed_121 fl_X12_71 (Hh.1 _ _ sh_92) rfl ?_
    exact b_iret (pc := 124) C Rt dX12_feed_124 hF
  · rw [if_neg hc3] at hF
    refine b_iconst (pc := 18) C dX12_feed_18 ic_m1 ?_
    exact b_iret (pc := 19) C Rt dX12_feed_19 hF
set_option maxHeartbeats 4000000 in
set_option maxRecDepth 20000 in
theorem e_X12_feed {l : Launch} {G : bG} {ρ : Nat → Nat} {A : Nat → Prop} (d : Nat) (x1 : Int32) (x2 : Int32) (x3 : Int32) (x4 : Int32) (x5 : Int32) (σ : bSto) (r : Int32) (σ' : bSto) (hF : f_X12_feed x1 x2 x3 x4 x5 σ = some (r, σ')) : bEv l G bSHf ρ A yX12_feed cX12_feed 8 (some .int) (d + 0) [.ref 92, .int x1, .int x2, .int x3, .int x4, .int x5] σ (some (.int r)) σ' := b_met (d := d + 0) (by decide +kernel) (Nat.le_of_ble_eq_true rfl) rfl (fun X C Rt h1 h2 h3 => e_X12_feed_0 C ⟨fun o q h => by rw [h1]; exact h, fun i h => by rw [h2]; exact h, h3⟩ Rt _ _ _ _ _ _ hF)
/-! BenchColonyModel.look -/
def f_X12_look (x1 : Int32) (σ : bSto) : Option (Int32 × bSto) := (if (σ.1 92 3) ≤ x1 then some ((-1 : Int32), σ) else if x1 < 0 ∨ 1000 ≤ x1.toNatClampNeg then none else some ((σ.1 93 x1.toNatClampNeg), σ))
set_option maxHeartbeats 4000000 in
set_option maxRecDepth 20000 in
theorem e_X12_look_0 {X : bX} {l : Launch} {G : bG} {ρ : Nat → Nat} {A : Nat → Prop} {d : Nat} {r : Int32} {σ' : bSto} (C : bCX X cX12_look RX12 (d + 0)) (Hh : bH X l G bSHf ρ A 2) (Rt : bRX X (some .int) (some (.int r)) σ') (x1 : Int32) (σ : bSto) (hF : f_X12_look x1 σ = some (r, σ')) : bAJ X 0 [(0, .ref 92), (1, .int x1)] [] σ := by
  rw [f_X12_look] at hF
  refine b_iload_n (pc := 0) C dX12_look_0 rfl 1 rfl ?_
  refine b_aload_n (pc := 1) C dX12_look_1 rfl 0 rfl ?_
  refine b_getI (pc := 2) C dX12_look_2 fl_X12_74 (Hh.1 _ _ sh_92) rfl ?_
  refine b_icmp_ge (tgt := 17) (pc := 5) C dX12_look_5 rfl (fun hc1 => ?_) (fun hc1 => ?_)
  · rw [if_pos hc1] at hF
    refine b_iconst (pc := 17) C dX12_look_17 ic_m1 ?_
    exact b_iret (pc := 18) C Rt dX12_look_18 hF
  · rw [if_neg hc1] at hF
    refine b_aload_n (pc := 8) C dX12_look_8 rfl 0 rfl ?_
    refine b_getS (pc := 9) C dX12_look_9 fl_X12_7 (Hh.1 _ _ sh_92) rfl ?_
    refine b_iload_n (pc := 12) C dX12_look_12 rfl 1 rfl ?_
    obtain ⟨hb2, hF⟩ := bif_n hF
    refine b_iald (pc := 13) C dX12_look_13 (Hh.1 _ _ sh_93) hb2 ?_
    refine b_goto (tgt := 18) (pc := 14) C dX12_look_14 rfl ?_
    exact b_iret (pc := 18) C Rt dX12_look_18 hF
set_option maxHeartbeats 4000000 in
set_option maxRecDepth 20000 in
theorem e_X12_look {l : Launch} {G : bG} {ρ : Nat → Nat} {A : Nat → Prop} (d : Nat) (x1 : Int32) (σ : bSto) (r : Int32) (σ' : bSto) (hF : f_X12_look x1 σ = some (r, σ')) : bEv l G bSHf ρ A yX12_look cX12_look 2 (some .int) (d + 0) [.ref 92, .int x1] σ (some (.int r)) σ' := b_met (d := d + 0) (by decide +kernel) (Nat.le_of_ble_eq_true rfl) rfl (fun X C Rt h1 h2 h3 => e_X12_look_0 C ⟨fun o q h => by rw [h1]; exact h, fun i h => by rw [h2]; exact h, h3⟩ Rt _ _ hF)
/-! BenchColonyModel.isSmall -/
def f_X12_isSmall_J16  (σ : bSto) : Option (Int32 × bSto) := some ((0 : Int32), σ)
def f_X12_isSmall (x0 : Int32) (σ : bSto) : Option (Int32 × bSto) := (if x0 < (97 : Int32) then f_X12_isSmall_J16  σ else (if (122 : Int32) < x0 then f_X12_isSmall_J16  σ else some ((1 : Int32), σ)))
set_option maxHeartbeats 4000000 in
set_option maxRecDepth 20000 in
theorem e_X12_isSmall_J16 {X : bX} {l : Launch} {G : bG} {ρ : Nat → Nat} {A : Nat → Prop} {d : Nat} {r : Int32} {σ' : bSto} (C : bCX X cX12_isSmall RX12 (d + 0)) (Hh : bH X l G bSHf ρ A 1) (Rt : bRX X (some .boolean) (some (.int r)) σ')  (σ : bSto) (hF : f_X12_isSmall_J16  σ = some (r, σ')) : bAJ X 16 [] [] σ := by
  rw [f_X12_isSmall_J16] at hF
  refine b_iconst (pc := 16) C dX12_isSmall_16 ic_0 ?_
  exact b_zret (pc := 17) C Rt dX12_isSmall_17 rfl hF
set_option maxHeartbeats 4000000 in
set_option maxRecDepth 20000 in
theorem e_X12_isSmall_0 {X : bX} {l : Launch} {G : bG} {ρ : Nat → Nat} {A : Nat → Prop} {d : Nat} {r : Int32} {σ' : bSto} (C : bCX X cX12_isSmall RX12 (d + 0)) (Hh : bH X l G bSHf ρ A 1) (Rt : bRX X (some .boolean) (some (.int r)) σ') (x0 : Int32) (σ : bSto) (hF : f_X12_isSmall x0 σ = some (r, σ')) : bAJ X 0 [(0, .int x0)] [] σ := by
  rw [f_X12_isSmall] at hF
  refine b_iload_n (pc := 0) C dX12_isSmall_0 rfl 0 rfl ?_
  refine b_bipush (pc := 1) C dX12_isSmall_1 bp_97 ?_
  refine b_icmp_lt (tgt := 16) (pc := 3) C dX12_isSmall_3 rfl (fun hc1 => ?_) (fun hc1 => ?_)
  · rw [if_pos hc1] at hF
    exact b_sub [] rfl (e_X12_isSmall_J16 C Hh Rt  _ hF)
  · rw [if_neg hc1] at hF
    refine b_iload_n (pc := 6) C dX12_isSmall_6 rfl 0 rfl ?_
    refine b_bipush (pc := 7) C dX12_isSmall_7 bp_122 ?_
    refine b_icmp_gt (tgt := 16) (pc := 9) C dX12_isSmall_9 rfl (fun hc2 => ?_) (fun hc2 => ?_)
    · rw [if_pos hc2] at hF
      exact b_sub [] rfl (e_X12_isSmall_J16 C Hh Rt  _ hF)
    · rw [if_neg hc2] at hF
      refine b_iconst (pc := 12) C dX12_isSmall_12 ic_1 ?_
      refine b_goto (tgt := 17) (pc := 13) C dX12_isSmall_13 rfl ?_
      exact b_zret (pc := 17) C Rt dX12_isSmall_17 rfl hF
set_option maxHeartbeats 4000000 in
set_option maxRecDepth 20000 in
theorem e_X12_isSmall {l : Launch} {G : bG} {ρ : Nat → Nat} {A : Nat → Prop} (d : Nat) (x0 : Int32) (σ : bSto) (r : Int32) (σ' : bSto) (hF : f_X12_isSmall x0 σ = some (r, σ')) : bEv l G bSHf ρ A yX12_isSmall cX12_isSmall 1 (some .boolean) (d + 0) [.int x0] σ (some (.int r)) σ' := b_met (d := d + 0) (by decide +kernel) (Nat.le_of_ble_eq_true rfl) rfl (fun X C Rt h1 h2 h3 => e_X12_isSmall_0 C ⟨fun o q h => by rw [h1]; exact h, fun i h => by rw [h2]; exact h, h3⟩ Rt _ _ hF)
/-! BenchColonyModel.isDigit -/
def f_X12_isDigit_J16  (σ : bSto) : Option (Int32 × bSto) := some ((0 : Int32), σ)
def f_X12_isDigit (x0 : Int32) (σ : bSto) : Option (Int32 × bSto) := (if x0 < (48 : Int32) then f_X12_isDigit_J16  σ else (if (57 : Int32) < x0 then f_X12_isDigit_J16  σ else some ((1 : Int32), σ)))
set_option maxHeartbeats 4000000 in
set_option maxRecDepth 20000 in
theorem e_X12_isDigit_J16 {X : bX} {l : Launch} {G : bG} {ρ : Nat → Nat} {A : Nat → Prop} {d : Nat} {r : Int32} {σ' : bSto} (C : bCX X cX12_isDigit RX12 (d + 0)) (Hh : bH X l G bSHf ρ A 1) (Rt : bRX X (some .boolean) (some (.int r)) σ')  (σ : bSto) (hF : f_X12_isDigit_J16  σ = some (r, σ')) : bAJ X 16 [] [] σ := by
  rw [f_X12_isDigit_J16] at hF
  refine b_iconst (pc := 16) C dX12_isDigit_16 ic_0 ?_
  exact b_zret (pc := 17) C Rt dX12_isDigit_17 rfl hF
set_option maxHeartbeats 4000000 in
set_option maxRecDepth 20000 in
theorem e_X12_isDigit_0 {X : bX} {l : Launch} {G : bG} {ρ : Nat → Nat} {A : Nat → Prop} {d : Nat} {r : Int32} {σ' : bSto} (C : bCX X cX12_isDigit RX12 (d + 0)) (Hh : bH X l G bSHf ρ A 1) (Rt : bRX X (some .boolean) (some (.int r)) σ') (x0 : Int32) (σ : bSto) (hF : f_X12_isDigit x0 σ = some (r, σ')) : bAJ X 0 [(0, .int x0)] [] σ := by
  rw [f_X12_isDigit] at hF
  refine b_iload_n (pc := 0) C dX12_isDigit_0 rfl 0 rfl ?_
  refine b_bipush (pc := 1) C dX12_isDigit_1 bp_48 ?_
  refine b_icmp_lt (tgt := 16) (pc := 3) C dX12_isDigit_3 rfl (fun hc1 => ?_) (fun hc1 => ?_)
  · rw [if_pos hc1] at hF
    exact b_sub [] rfl (e_X12_isDigit_J16 C Hh Rt  _ hF)
  · rw [if_neg hc1] at hF
    refine b_iload_n (pc := 6) C dX12_isDigit_6 rfl 0 rfl ?_
    refine b_bipush (pc := 7) C dX12_isDigit_7 bp_57 ?_
    refine b_icmp_gt (tgt := 16) (pc := 9) C dX12_isDigit_9 rfl (fun hc2 => ?_) (fun hc2 => ?_)
    · rw [if_pos hc2] at hF
      exact b_sub [] rfl (e_X12_isDigit_J16 C Hh Rt  _ hF)
    · rw [if_neg hc2] at hF
      refine b_iconst (pc := 12) C dX12_isDigit_12 ic_1 ?_
      refine b_goto (tgt := 17) (pc := 13) C dX12_isDigit_13 rfl ?_
      exact b_zret (pc := 17) C Rt dX12_isDigit_17 rfl hF
set_option maxHeartbeats 4000000 in
set_option maxRecDepth 20000 in
theorem e_X12_isDigit {l : Launch} {G : bG} {ρ : Nat → Nat} {A : Nat → Prop} (d : Nat) (x0 : Int32) (σ : bSto) (r : Int32) (σ' : bSto) (hF : f_X12_isDigit x0 σ = some (r, σ')) : bEv l G bSHf ρ A yX12_isDigit cX12_isDigit 1 (some .boolean) (d + 0) [.int x0] σ (some (.int r)) σ' := b_met (d := d + 0) (by decide +kernel) (Nat.le_of_ble_eq_true rfl) rfl (fun X C Rt h1 h2 h3 => e_X12_isDigit_0 C ⟨fun o q h => by rw [h1]; exact h, fun i h => by rw [h2]; exact h, h3⟩ Rt _ _ hF)
/-! BenchColonyModel.next -/
def f_X12_next_L5 : Nat → Int32 → bSto → Option (Int32 × bSto)
  | 0, _, _ => none
  | n + 1, x1, σ => bbd (f_X12_look x1 σ) (fun v3 σ2 => (if v3 = (32 : Int32) then blet (x1 + (1 : Int32)) (fun x1_5 => f_X12_next_L5 n x1_5 σ2) else some (x1, σ2)))
def f_X12_next_J238 (s1 : Int32) (σ : bSto) : Option bSto := blet (bI σ 92 6 s1) (fun σ1 => some σ1)
def f_X12_next_L152 : Nat → Int32 → Int32 → bSto → Option (Int32 × Int32 × bSto)
  | 0, _, _, _ => none
  | n + 1, x1, x3, σ => bbd (f_X12_look x1 σ) (fun v3 σ2 => bbd (f_X12_isDigit v3 σ2) (fun v6 σ5 => (if v6 = 0 then some (x1, x3, σ5) else (if (3 : Int32) ≤ x3 then blet (x3 + (1 : Int32)) (fun x3_9 => blet (x1 + (1 : Int32)) (fun x1_11 => f_X12_next_L152 n x1_11 x3_9 σ5)) else bbd (f_X12_look x1 σ5) (fun v15 σ14 => blet (bI σ14 92 7 ((((10 : Int32) * (σ5.1 92 7)) + v15) - (48 : Int32))) (fun σ16 => blet (x3 + (1 : Int32)) (fun x3_18 => blet (x1 + (1 : Int32)) (fun x1_20 => f_X12_next_L152 n x1_20 x3_18 σ16))))))))
def f_X12_next_J101_67 (k : Int32 → bSto → Option (Int32 × bSto)) (x1 : Int32) (σ : bSto) : Option (Int32 × bSto) := blet (bI σ 92 8 ((σ.1 92 8) + (1 : Int32))) (fun σ1 => blet (x1 + (1 : Int32)) (fun x1_3 => k x1_3 σ1))
def f_X12_next_L67 : Nat → Int32 → bSto → Option (Int32 × bSto)
  | 0, _, _ => none
  | n + 1, x1, σ => bbd (f_X12_look x1 σ) (fun v3 σ2 => bbd (f_X12_isSmall v3 σ2) (fun v6 σ5 => (if v6 = 0 then some (x1, σ5) else (if (8 : Int32) ≤ (σ5.1 92 8) then f_X12_next_J101_67 (f_X12_next_L67 n) x1 σ5 else bbd (f_X12_look x1 σ5) (fun v11 σ10 => if (σ5.1 92 8) < 0 ∨ 8 ≤ (σ5.1 92 8).toNatClampNeg then none else blet (bI σ10 94 (σ5.1 92 8).toNatClampNeg v11) (fun σ12 => f_X12_next_J101_67 (f_X12_next_L67 n) x1 σ12))))))
def f_X12_next  (σ : bSto) : Option bSto := blet (σ.1 92 5) (fun x1_1 => bl1 (f_X12_next_L5 bFU x1_1 σ) (fun x1_3 σ4 => blet (bI σ4 92 4 x1_3) (fun σ5 => bbd (f_X12_look x1_3 σ5) (fun v9 σ8 => blet (bI σ8 92 8 (0 : Int32)) (fun σ10 => blet (bI σ10 92 7 (0 : Int32)) (fun σ12 => (if v9 = (-1 : Int32) then blet (bI σ12 92 6 (0 : Int32)) (fun σ44 => blet (bI σ44 92 5 x1_3) (fun σ46 => some σ46)) else bbd (f_X12_isSmall v9 σ12) (fun v17 σ16 => (if v17 = 0 then bbd (f_X12_isDigit v9 σ16) (fun v21 σ20 => (if v21 = 0 then blet (bI σ20 92 5 (x1_3 + (1 : Int32))) (fun σ23 => (if v9 = (59 : Int32) then f_X12_next_J238 v9 σ23 else f_X12_next_J238 (1 : Int32) σ23)) else bl2 (f_X12_next_L152 bFU x1_3 (0 : Int32) σ20) (fun x1_26 x3_26 σ27 => blet (bI σ27 92 5 x1_26) (fun σ28 => (if x3_26 ≤ (3 : Int32) then blet (bI σ28 92 6 (3 : Int32)) (fun σ31 => some σ31) else blet (bI σ28 92 6 (1 : Int32)) (fun σ33 => some σ33)))))) else bl1 (f_X12_next_L67 bFU x1_3 σ16) (fun x1_35 σ36 => blet (bI σ36 92 5 x1_35) (fun σ37 => (if (σ37.1 92 8) ≤ (8 : Int32) then blet (bI σ37 92 6 (2 : Int32)) (fun σ40 => some σ40) else blet (bI σ37 92 6 (1 : Int32)) (fun σ42 => some σ42)))))))))))))
set_option maxHeartbeats 4000000 in
set_option maxRecDepth 20000 in
theorem e_X12_next_L5 {X : bX} {l : Launch} {G : bG} {ρ : Nat → Nat} {A : Nat → Prop} {d : Nat} {σ' : bSto} (C : bCX X cX12_next RX12 (d + 1)) (Hh : bH X l G bSHf ρ A 4) (Rt : bRX X none none σ') : ∀ (n : Nat) (x1 : Int32) (σ : bSto) (q : (Int32 × bSto)), f_X12_next_L5 n x1 σ = some q → (∀ (x1 : Int32) (s : bSto), q = (x1, s) → bAJ X 21 [(0, .ref 92), (1, .int x1)] [] s) → bAJ X 5 [(0, .ref 92), (1, .int x1)] [] σ := by
  intro n
  induction n with
  | zero => intro x1 σ q hF; rw [f_X12_next_L5] at hF; cases hF
  | succ n ih =>
    intro x1 σ q hF hx
    rw [f_X12_next_L5] at hF
    refine b_aload_n (pc := 5) C dX12_next_5 rfl 0 rfl ?_
    refine b_iload_n (pc := 6) C dX12_next_6 rfl 1 rfl ?_
    obtain ⟨v3, σ2, hc1, hF⟩ := bbd_e hF
    refine b_cV1i (d' := (d + 0)) (pc := 7) C dX12_next_7 mm_X12_80 (Hh.1 _ _ sh_92) rfl (Nat.le_of_ble_eq_true rfl) (by omega) (Hh.2.2 _ _ _ _ _ _ _ _ _ (lvl_eq (by omega) (e_X12_look (d + 0) x1 _ _ _ hc1))) ?_
    refine b_bipush (pc := 10) C dX12_next_10 bp_32 ?_
    refine b_icmp_ne (tgt := 21) (pc := 12) C dX12_next_12 rfl (fun hc4 => ?_) (fun hc4 => ?_)
    · rw [if_neg hc4] at hF
      exact b_sub [0, 1] rfl (hx _ _ (Option.some.inj hF).symm )
    · rw [if_pos hc4] at hF
      obtain ⟨x1_5, e6, hF⟩ := blet_e hF
      refine b_iinc (L' := [(1, .int x1_5), (0, .ref 92)]) (pc := 15) C dX12_next_15 1 rfl ic_1 e6 (Hh.2.1 _ (Nat.le_of_ble_eq_true rfl)) rfl ?_
      refine b_goto (tgt := 5) (pc := 18) C dX12_next_18 rfl ?_
      exact b_sub [1, 0] rfl (ih x1_5 _ _ hF hx)
set_option maxHeartbeats 4000000 in
set_option maxRecDepth 20000 in
theorem e_X12_next_J238 {X : bX} {l : Launch} {G : bG} {ρ : Nat → Nat} {A : Nat → Prop} {d : Nat} {σ' : bSto} (C : bCX X cX12_next RX12 (d + 1)) (Hh : bH X l G bSHf ρ A 4) (Rt : bRX X none none σ') (s1 : Int32) (σ : bSto) (hF : f_X12_next_J238 s1 σ = some σ') : bAJ X 238 [] [.int s1, .ref 92] σ := by
  rw [f_X12_next_J238] at hF
  obtain ⟨σ1, e2, hF⟩ := blet_e hF
  refine b_putI (pc := 238) C dX12_next_238 fp_X12_93 (Hh.1 _ _ sh_92) rfl rfl rfl e2 ?_
  exact b_vret (pc := 241) C Rt dX12_next_241 hF
set_option maxHeartbeats 4000000 in
set_option maxRecDepth 20000 in
theorem e_X12_next_L152 {X : bX} {l : Launch} {G : bG} {ρ : Nat → Nat} {A : Nat → Prop} {d : Nat} {σ' : bSto} (C : bCX X cX12_next RX12 (d + 1)) (Hh : bH X l G bSHf ρ A 4) (Rt : bRX X none none σ') : ∀ (n : Nat) (x1 : Int32) (x3 : Int32) (σ : bSto) (q : (Int32 × Int32 × bSto)), f_X12_next_L152 n x1 x3 σ = some q → (∀ (x1 : Int32) (x3 : Int32) (s : bSto), q = (x1, x3, s) → bAJ X 197 [(0, .ref 92), (1, .int x1), (3, .int x3)] [] s) → bAJ X 152 [(0, .ref 92), (1, .int x1), (3, .int x3)] [] σ := by
  intro n
  induction n with
  | zero => intro x1 x3 σ q hF; rw [f_X12_next_L152] at hF; cases hF
  | succ n ih =>
    intro x1 x3 σ q hF hx
    rw [f_X12_next_L152] at hF
    refine b_aload_n (pc := 152) C dX12_next_152 rfl 0 rfl ?_
    refine b_iload_n (pc := 153) C dX12_next_153 rfl 1 rfl ?_
    obtain ⟨v3, σ2, hc1, hF⟩ := bbd_e hF
    refine b_cV1i (d' := (d + 0)) (pc := 154) C dX12_next_154 mm_X12_80 (Hh.1 _ _ sh_92) rfl (Nat.le_of_ble_eq_true rfl) (by omega) (Hh.2.2 _ _ _ _ _ _ _ _ _ (lvl_eq (by omega) (e_X12_look (d + 0) x1 _ _ _ hc1))) ?_
    obtain ⟨v6, σ5, hc4, hF⟩ := bbd_e hF
    refine b_cS1i (d' := (d + 0)) (pc := 157) C dX12_next_157 mm_X12_100 (Nat.le_of_ble_eq_true rfl) (by omega) (Hh.2.2 _ _ _ _ _ _ _ _ _ (lvl_eq (by omega) (e_X12_isDigit (d + 0) v3 _ _ _ hc4))) ?_
    refine b_if_eq (tgt := 197) (pc := 160) C dX12_next_160 rfl (fun hc7 => ?_) (fun hc7 => ?_)
    · rw [if_pos hc7] at hF
      exact b_sub [0, 1, 2] rfl (hx _ _ _ (Option.some.inj hF).symm )
    · rw [if_neg hc7] at hF
      refine b_iload_n (pc := 163) C dX12_next_163 rfl 2 rfl ?_
      refine b_iconst (pc := 164) C dX12_next_164 ic_3 ?_
      refine b_icmp_ge (tgt := 188) (pc := 165) C dX12_next_165 rfl (fun hc8 => ?_) (fun hc8 => ?_)
      · rw [if_pos hc8] at hF
        obtain ⟨x3_9, e10, hF⟩ := blet_e hF
        refine b_iinc (L' := [(3, .int x3_9), (0, .ref 92), (1, .int x1)]) (pc := 188) C dX12_next_188 2 rfl ic_1 e10 (Hh.2.1 _ (Nat.le_of_ble_eq_true rfl)) rfl ?_
        obtain ⟨x1_11, e12, hF⟩ := blet_e hF
        refine b_iinc (L' := [(1, .int x1_11), (3, .int x3_9), (0, .ref 92)]) (pc := 191) C dX12_next_191 2 rfl ic_1 e12 (Hh.2.1 _ (Nat.le_of_ble_eq_true rfl)) rfl ?_
        refine b_goto (tgt := 152) (pc := 194) C dX12_next_194 rfl ?_
        exact b_sub [2, 0, 1] rfl (ih x1_11 x3_9 _ _ hF hx)
      · rw [if_neg hc8] at hF
        refine b_aload_n (pc := 168) C dX12_next_168 rfl 0 rfl ?_
        refine b_bipush (pc := 169) C dX12_next_169 bp_10 ?_
        refine b_aload_n (pc := 171) C dX12_next_171 rfl 0 rfl ?_
        refine b_getI (pc := 172) C dX12_next_172 fl_X12_90 (Hh.1 _ _ sh_92) rfl ?_
        refine b_imul (pc := 175) C dX12_next_175 ?_
        refine b_aload_n (pc := 176) C dX12_next_176 rfl 0 rfl ?_
        refine b_iload_n (pc := 177) C dX12_next_177 rfl 1 rfl ?_
        obtain ⟨v15, σ14, hc13, hF⟩ := bbd_e hF
        refine b_cV1i (d' := (d + 0)) (pc := 178) C dX12_next_178 mm_X12_80 (Hh.1 _ _ sh_92) rfl (Nat.le_of_ble_eq_true rfl) (by omega) (Hh.2.2 _ _ _ _ _ _ _ _ _ (lvl_eq (by omega) (e_X12_look (d + 0) x1 _ _ _ hc13))) ?_
        refine b_iadd (pc := 181) C dX12_next_181 ?_
        refine b_bipush (pc := 182) C dX12_next_182 bp_48 ?_
        refine b_isub (pc := 184) C dX12_next_184 ?_
        obtain ⟨σ16, e17, hF⟩ := blet_e hF
        refine b_putI (pc := 185) C dX12_next_185 fp_X12_90 (Hh.1 _ _ sh_92) rfl rfl rfl e17 ?_
        obtain ⟨x3_18, e19, hF⟩ := blet_e hF
        refine b_iinc (L' := [(3, .int x3_18), (0, .ref 92), (1, .int x1)]) (pc := 188) C dX12_next_188 2 rfl ic_1 e19 (Hh.2.1 _ (Nat.le_of_ble_eq_true rfl)) rfl ?_
        obtain ⟨x1_20, e21, hF⟩ := blet_e hF
        refine b_iinc (L' := [(1, .int x1_20), (3, .int x3_18), (0, .ref 92)]) (pc := 191) C dX12_next_191 2 rfl ic_1 e21 (Hh.2.1 _ (Nat.le_of_ble_eq_true rfl)) rfl ?_
        refine b_goto (tgt := 152) (pc := 194) C dX12_next_194 rfl ?_
        exact b_sub [2, 0, 1] rfl (ih x1_20 x3_18 _ _ hF hx)
set_option maxHeartbeats 4000000 in
set_option maxRecDepth 20000 in
theorem e_X12_next_J101_67 {X : bX} {l : Launch} {G : bG} {ρ : Nat → Nat} {A : Nat → Prop} {d : Nat} {σ' : bSto} (C : bCX X cX12_next RX12 (d + 1)) (Hh : bH X l G bSHf ρ A 4) (Rt : bRX X none none σ') {k : Int32 → bSto → Option (Int32 × bSto)} (ih : ∀ (x1 : Int32) (σ : bSto) (q : (Int32 × bSto)), k x1 σ = some q → (∀ (x1 : Int32) (s : bSto), q = (x1, s) → bAJ X 117 [(0, .ref 92), (1, .int x1)] [] s) → bAJ X 67 [(0, .ref 92), (1, .int x1)] [] σ) (x1 : Int32) (σ : bSto) (q : (Int32 × bSto)) (hF : f_X12_next_J101_67 k x1 σ = some q) : (∀ (x1 : Int32) (s : bSto), q = (x1, s) → bAJ X 117 [(0, .ref 92), (1, .int x1)] [] s) → bAJ X 101 [(0, .ref 92), (1, .int x1)] [] σ := by
  intro hx
  rw [f_X12_next_J101_67] at hF
  refine b_aload_n (pc := 101) C dX12_next_101 rfl 0 rfl ?_
  refine b_dup (pc := 102) C dX12_next_102 rfl ?_
  refine b_getI (pc := 103) C dX12_next_103 fl_X12_87 (Hh.1 _ _ sh_92) rfl ?_
  refine b_iconst (pc := 106) C dX12_next_106 ic_1 ?_
  refine b_iadd (pc := 107) C dX12_next_107 ?_
  obtain ⟨σ1, e2, hF⟩ := blet_e hF
  refine b_putI (pc := 108) C dX12_next_108 fp_X12_87 (Hh.1 _ _ sh_92) rfl rfl rfl e2 ?_
  obtain ⟨x1_3, e4, hF⟩ := blet_e hF
  refine b_iinc (L' := [(1, .int x1_3), (0, .ref 92)]) (pc := 111) C dX12_next_111 1 rfl ic_1 e4 (Hh.2.1 _ (Nat.le_of_ble_eq_true rfl)) rfl ?_
  refine b_goto (tgt := 67) (pc := 114) C dX12_next_114 rfl ?_
  exact b_sub [1, 0] rfl (ih x1_3 _ _ hF hx)
set_option maxHeartbeats 4000000 in
set_option maxRecDepth 20000 in
theorem e_X12_next_L67 {X : bX} {l : Launch} {G : bG} {ρ : Nat → Nat} {A : Nat → Prop} {d : Nat} {σ' : bSto} (C : bCX X cX12_next RX12 (d + 1)) (Hh : bH X l G bSHf ρ A 4) (Rt : bRX X none none σ') : ∀ (n : Nat) (x1 : Int32) (σ : bSto) (q : (Int32 × bSto)), f_X12_next_L67 n x1 σ = some q → (∀ (x1 : Int32) (s : bSto), q = (x1, s) → bAJ X 117 [(0, .ref 92), (1, .int x1)] [] s) → bAJ X 67 [(0, .ref 92), (1, .int x1)] [] σ := by
  intro n
  induction n with
  | zero => intro x1 σ q hF; rw [f_X12_next_L67] at hF; cases hF
  | succ n ih =>
    intro x1 σ q hF hx
    rw [f_X12_next_L67] at hF
    refine b_aload_n (pc := 67) C dX12_next_67 rfl 0 rfl ?_
    refine b_iload_n (pc := 68) C dX12_next_68 rfl 1 rfl ?_
    obtain ⟨v3, σ2, hc1, hF⟩ := bbd_e hF
    refine b_cV1i (d' := (d + 0)) (pc := 69) C dX12_next_69 mm_X12_80 (Hh.1 _ _ sh_92) rfl (Nat.le_of_ble_eq_true rfl) (by omega) (Hh.2.2 _ _ _ _ _ _ _ _ _ (lvl_eq (by omega) (e_X12_look (d + 0) x1 _ _ _ hc1))) ?_
    obtain ⟨v6, σ5, hc4, hF⟩ := bbd_e hF
    refine b_cS1i (d' := (d + 0)) (pc := 72) C dX12_next_72 mm_X12_96 (Nat.le_of_ble_eq_true rfl) (by omega) (Hh.2.2 _ _ _ _ _ _ _ _ _ (lvl_eq (by omega) (e_X12_isSmall (d + 0) v3 _ _ _ hc4))) ?_
    refine b_if_eq (tgt := 117) (pc := 75) C dX12_next_75 rfl (fun hc7 => ?_) (fun hc7 => ?_)
    · rw [if_pos hc7] at hF
      exact b_sub [0, 1] rfl (hx _ _ (Option.some.inj hF).symm )
    · rw [if_neg hc7] at hF
      refine b_aload_n (pc := 78) C dX12_next_78 rfl 0 rfl ?_
      refine b_getI (pc := 79) C dX12_next_79 fl_X12_87 (Hh.1 _ _ sh_92) rfl ?_
      refine b_bipush (pc := 82) C dX12_next_82 bp_8 ?_
      refine b_icmp_ge (tgt := 101) (pc := 84) C dX12_next_84 rfl (fun hc8 => ?_) (fun hc8 => ?_)
      · rw [if_pos hc8] at hF
        exact b_sub [0, 1] rfl (e_X12_next_J101_67 C Hh Rt ih x1 _ _ hF hx)
      · rw [if_neg hc8] at hF
        refine b_aload_n (pc := 87) C dX12_next_87 rfl 0 rfl ?_
        refine b_getS (pc := 88) C dX12_next_88 fl_X12_17 (Hh.1 _ _ sh_92) rfl ?_
        refine b_aload_n (pc := 91) C dX12_next_91 rfl 0 rfl ?_
        refine b_getI (pc := 92) C dX12_next_92 fl_X12_87 (Hh.1 _ _ sh_92) rfl ?_
        refine b_aload_n (pc := 95) C dX12_next_95 rfl 0 rfl ?_
        refine b_iload_n (pc := 96) C dX12_next_96 rfl 1 rfl ?_
        obtain ⟨v11, σ10, hc9, hF⟩ := bbd_e hF
        refine b_cV1i (d' := (d + 0)) (pc := 97) C dX12_next_97 mm_X12_80 (Hh.1 _ _ sh_92) rfl (Nat.le_of_ble_eq_true rfl) (by omega) (Hh.2.2 _ _ _ _ _ _ _ _ _ (lvl_eq (by omega) (e_X12_look (d + 0) x1 _ _ _ hc9))) ?_
        obtain ⟨hb14, hF⟩ := bif_n hF
        obtain ⟨σ12, e13, hF⟩ := blet_e hF
        refine b_iast (pc := 100) C dX12_next_100 (Hh.1 _ _ sh_94) hb14 e13 ?_
        exact b_sub [0, 1] rfl (e_X12_next_J101_67 C Hh Rt ih x1 _ _ hF hx)
set_option maxHeartbeats 4000000 in
set_option maxRecDepth 20000 in
theorem e_X12_next_0 {X : bX} {l : Launch} {G : bG} {ρ : Nat → Nat} {A : Nat → Prop} {d : Nat} {σ' : bSto} (C : bCX X cX12_next RX12 (d + 1)) (Hh : bH X l G bSHf ρ A 4) (Rt : bRX X none none σ')  (σ : bSto) (hF : f_X12_next  σ = some σ') : bAJ X 0 [(0, .ref 92)] [] σ := by
  rw [f_X12_next] at hF
  refine b_aload_n (pc := 0) C dX12_next_0 rfl 0 rfl ?_
  refine b_getI (pc := 1) C dX12_next_1 fl_X12_77 (Hh.1 _ _ sh_92) rfl ?_
  obtain ⟨x1_1, e2, hF⟩ := blet_e hF
  refine b_istore_n (L' := [(1, .int x1_1), (0, .ref 92)]) (pc := 4) C dX12_next_4 rfl e2 (Hh.2.1 _ (Nat.le_of_ble_eq_true rfl)) rfl ?_
  obtain ⟨x1_3, σ4, hq3, hF⟩ := bl1_e hF
  refine b_sub [1, 0] rfl (e_X12_next_L5 C Hh Rt bFU x1_1 _ _ hq3 (fun _ _ e  => ?_))
  cases e
  refine b_aload_n (pc := 21) C dX12_next_21 rfl 0 rfl ?_
  refine b_iload_n (pc := 22) C dX12_next_22 rfl 1 rfl ?_
  obtain ⟨σ5, e6, hF⟩ := blet_e hF
  refine b_putI (pc := 23) C dX12_next_23 fp_X12_84 (Hh.1 _ _ sh_92) rfl rfl rfl e6 ?_
  refine b_aload_n (pc := 26) C dX12_next_26 rfl 0 rfl ?_
  refine b_iload_n (pc := 27) C dX12_next_27 rfl 1 rfl ?_
  obtain ⟨v9, σ8, hc7, hF⟩ := bbd_e hF
  refine b_cV1i (d' := (d + 0)) (pc := 28) C dX12_next_28 mm_X12_80 (Hh.1 _ _ sh_92) rfl (Nat.le_of_ble_eq_true rfl) (by omega) (Hh.2.2 _ _ _ _ _ _ _ _ _ (lvl_eq (by omega) (e_X12_look (d + 0) x1_3 _ _ _ hc7))) ?_
  refine b_istore_n (L' := [(2, .int v9), (0, .ref 92), (1, .int x1_3)]) (pc := 31) C dX12_next_31 rfl rfl (Hh.2.1 _ (Nat.le_of_ble_eq_true rfl)) rfl ?_
  refine b_aload_n (pc := 32) C dX12_next_32 rfl 1 rfl ?_
  refine b_iconst (pc := 33) C dX12_next_33 ic_0 ?_
  obtain ⟨σ10, e11, hF⟩ := blet_e hF
  refine b_putI (pc := 34) C dX12_next_34 fp_X12_87 (Hh.1 _ _ sh_92) rfl rfl rfl e11 ?_
  refine b_aload_n (pc := 37) C dX12_next_37 rfl 1 rfl ?_
  refine b_iconst (pc := 38) C dX12_next_38 ic_0 ?_
  obtain ⟨σ12, e13, hF⟩ := blet_e hF
  refine b_putI (pc := 39) C dX12_next_39 fp_X12_90 (Hh.1 _ _ sh_92) rfl rfl rfl e13 ?_
  refine b_iload_n (pc := 42) C dX12_next_42 rfl 0 rfl ?_
  refine b_iconst (pc := 43) C dX12_next_43 ic_m1 ?_
  refine b_icmp_ne (tgt := 60) (pc := 44) C dX12_next_44 rfl (fun hc14 => ?_) (fun hc14 => ?_)
  · rw [if_neg hc14] at hF
    refine b_iload_n (pc := 60) C dX12_next_60 rfl 0 rfl ?_
    obtain ⟨v17, σ16, hc15, hF⟩ := bbd_e hF
    refine b_cS1i (d' := (d + 0)) (pc := 61) C dX12_next_61 mm_X12_96 (Nat.le_of_ble_eq_true rfl) (by omega) (Hh.2.2 _ _ _ _ _ _ _ _ _ (lvl_eq (by omega) (e_X12_isSmall (d + 0) v9 _ _ _ hc15))) ?_
    refine b_if_eq (tgt := 143) (pc := 64) C dX12_next_64 rfl (fun hc18 => ?_) (fun hc18 => ?_)
    · rw [if_pos hc18] at hF
      refine b_iload_n (pc := 143) C dX12_next_143 rfl 0 rfl ?_
      obtain ⟨v21, σ20, hc19, hF⟩ := bbd_e hF
      refine b_cS1i (d' := (d + 0)) (pc := 144) C dX12_next_144 mm_X12_100 (Nat.le_of_ble_eq_true rfl) (by omega) (Hh.2.2 _ _ _ _ _ _ _ _ _ (lvl_eq (by omega) (e_X12_isDigit (d + 0) v9 _ _ _ hc19))) ?_
      refine b_if_eq (tgt := 219) (pc := 147) C dX12_next_147 rfl (fun hc22 => ?_) (fun hc22 => ?_)
      · rw [if_pos hc22] at hF
        refine b_aload_n (pc := 219) C dX12_next_219 rfl 1 rfl ?_
        refine b_iload_n (pc := 220) C dX12_next_220 rfl 2 rfl ?_
        refine b_iconst (pc := 221) C dX12_next_221 ic_1 ?_
        refine b_iadd (pc := 222) C dX12_next_222 ?_
        obtain ⟨σ23, e24, hF⟩ := blet_e hF
        refine b_putI (pc := 223) C dX12_next_223 fp_X12_77 (Hh.1 _ _ sh_92) rfl rfl rfl e24 ?_
        refine b_aload_n (pc := 226) C dX12_next_226 rfl 1 rfl ?_
        refine b_iload_n (pc := 227) C dX12_next_227 rfl 0 rfl ?_
        refine b_bipush (pc := 228) C dX12_next_228 bp_59 ?_
        refine b_icmp_ne (tgt := 237) (pc := 230) C dX12_next_230 rfl (fun hc25 => ?_) (fun hc25 => ?_)
        · rw [if_neg hc25] at hF
          refine b_iconst (pc := 237) C dX12_next_237 ic_1 ?_
          exact b_sub [] rfl (e_X12_next_J238 C Hh Rt (1 : Int32) _ hF)
        · rw [if_pos hc25] at hF
          refine b_iload_n (pc := 233) C dX12_next_233 rfl 0 rfl ?_
          refine b_goto (tgt := 238) (pc := 234) C dX12_next_234 rfl ?_
          exact b_sub [] rfl (e_X12_next_J238 C Hh Rt v9 _ hF)
      · rw [if_neg hc22] at hF
        refine b_iconst (pc := 150) C dX12_next_150 ic_0 ?_
        refine b_istore_n (L' := [(3, .int (0 : Int32)), (2, .int v9), (0, .ref 92), (1, .int x1_3)]) (pc := 151) C dX12_next_151 rfl rfl (Hh.2.1 _ (Nat.le_of_ble_eq_true rfl)) rfl ?_
        obtain ⟨x1_26, x3_26, σ27, hq26, hF⟩ := bl2_e hF
        refine b_sub [2, 3, 0] rfl (e_X12_next_L152 C Hh Rt bFU x1_3 (0 : Int32) _ _ hq26 (fun _ _ _ e  => ?_))
        cases e
        refine b_aload_n (pc := 197) C dX12_next_197 rfl 0 rfl ?_
        refine b_iload_n (pc := 198) C dX12_next_198 rfl 1 rfl ?_
        obtain ⟨σ28, e29, hF⟩ := blet_e hF
        refine b_putI (pc := 199) C dX12_next_199 fp_X12_77 (Hh.1 _ _ sh_92) rfl rfl rfl e29 ?_
        refine b_aload_n (pc := 202) C dX12_next_202 rfl 0 rfl ?_
        refine b_iload_n (pc := 203) C dX12_next_203 rfl 2 rfl ?_
        refine b_iconst (pc := 204) C dX12_next_204 ic_3 ?_
        refine b_icmp_le (tgt := 212) (pc := 205) C dX12_next_205 rfl (fun hc30 => ?_) (fun hc30 => ?_)
        · rw [if_pos hc30] at hF
          refine b_iconst (pc := 212) C dX12_next_212 ic_3 ?_
          obtain ⟨σ31, e32, hF⟩ := blet_e hF
          refine b_putI (pc := 213) C dX12_next_213 fp_X12_93 (Hh.1 _ _ sh_92) rfl rfl rfl e32 ?_
          refine b_goto (tgt := 241) (pc := 216) C dX12_next_216 rfl ?_
          exact b_vret (pc := 241) C Rt dX12_next_241 hF
        · rw [if_neg hc30] at hF
          refine b_iconst (pc := 208) C dX12_next_208 ic_1 ?_
          refine b_goto (tgt := 213) (pc := 209) C dX12_next_209 rfl ?_
          obtain ⟨σ33, e34, hF⟩ := blet_e hF
          refine b_putI (pc := 213) C dX12_next_213 fp_X12_93 (Hh.1 _ _ sh_92) rfl rfl rfl e34 ?_
          refine b_goto (tgt := 241) (pc := 216) C dX12_next_216 rfl ?_
          exact b_vret (pc := 241) C Rt dX12_next_241 hF
    · rw [if_neg hc18] at hF
      obtain ⟨x1_35, σ36, hq35, hF⟩ := bl1_e hF
      refine b_sub [1, 2] rfl (e_X12_next_L67 C Hh Rt bFU x1_3 _ _ hq35 (fun _ _ e  => ?_))
      cases e
      refine b_aload_n (pc := 117) C dX12_next_117 rfl 0 rfl ?_
      refine b_iload_n (pc := 118) C dX12_next_118 rfl 1 rfl ?_
      obtain ⟨σ37, e38, hF⟩ := blet_e hF
      refine b_putI (pc := 119) C dX12_next_119 fp_X12_77 (Hh.1 _ _ sh_92) rfl rfl rfl e38 ?_
      refine b_aload_n (pc := 122) C dX12_next_122 rfl 0 rfl ?_
      refine b_aload_n (pc := 123) C dX12_next_123 rfl 0 rfl ?_
      refine b_getI (pc := 124) C dX12_next_124 fl_X12_87 (Hh.1 _ _ sh_92) rfl ?_
      refine b_bipush (pc := 127) C dX12_next_127 bp_8 ?_
      refine b_icmp_le (tgt := 136) (pc := 129) C dX12_next_129 rfl (fun hc39 => ?_) (fun hc39 => ?_)
      · rw [if_pos hc39] at hF
        refine b_iconst (pc := 136) C dX12_next_136 ic_2 ?_
        obtain ⟨σ40, e41, hF⟩ := blet_e hF
        refine b_putI (pc := 137) C dX12_next_137 fp_X12_93 (Hh.1 _ _ sh_92) rfl rfl rfl e41 ?_
        refine b_goto (tgt := 241) (pc := 140) C dX12_next_140 rfl ?_
        exact b_vret (pc := 241) C Rt dX12_next_241 hF
      · rw [if_neg hc39] at hF
        refine b_iconst (pc := 132) C dX12_next_132 ic_1 ?_
        refine b_goto (tgt := 137) (pc := 133) C dX12_next_133 rfl ?_
        obtain ⟨σ42, e43, hF⟩ := blet_e hF
        refine b_putI (pc := 137) C dX12_next_137 fp_X12_93 (Hh.1 _ _ sh_92) rfl rfl rfl e43 ?_
        refine b_goto (tgt := 241) (pc := 140) C dX12_next_140 rfl ?_
        exact b_vret (pc := 241) C Rt dX12_next_241 hF
  · rw [if_pos hc14] at hF
    refine b_aload_n (pc := 47) C dX12_next_47 rfl 1 rfl ?_
    refine b_iconst (pc := 48) C dX12_next_48 ic_0 ?_
    obtain ⟨σ44, e45, hF⟩ := blet_e hF
    refine b_putI (pc := 49) C dX12_next_49 fp_X12_93 (Hh.1 _ _ sh_92) rfl rfl rfl e45 ?_
    refine b_aload_n (pc := 52) C dX12_next_52 rfl 1 rfl ?_
    refine b_iload_n (pc := 53) C dX12_next_53 rfl 2 rfl ?_
    obtain ⟨σ46, e47, hF⟩ := blet_e hF
    refine b_putI (pc := 54) C dX12_next_54 fp_X12_77 (Hh.1 _ _ sh_92) rfl rfl rfl e47 ?_
    refine b_goto (tgt := 241) (pc := 57) C dX12_next_57 rfl ?_
    exact b_vret (pc := 241) C Rt dX12_next_241 hF
set_option maxHeartbeats 4000000 in
set_option maxRecDepth 20000 in
theorem e_X12_next {l : Launch} {G : bG} {ρ : Nat → Nat} {A : Nat → Prop} (d : Nat)  (σ : bSto) (σ' : bSto) (hF : f_X12_next  σ = some σ') : bEv l G bSHf ρ A yX12_next cX12_next 4 none (d + 1) [.ref 92] σ none σ' := b_met (d := d + 1) (by decide +kernel) (Nat.le_of_ble_eq_true rfl) rfl (fun X C Rt h1 h2 h3 => e_X12_next_0 C ⟨fun o q h => by rw [h1]; exact h, fun i h => by rw [h2]; exact h, h3⟩ Rt  _ hF)
/-! BenchColonyModel.wrong -/
def f_X12_wrong (x1 : Int32) (x2 : Int32) (σ : bSto) : Option bSto := (if (σ.1 92 13) = 0 then blet (bI σ 92 13 (1 : Int32)) (fun σ2 => blet (bI σ2 92 9 x1) (fun σ4 => blet (bI σ4 92 10 x2) (fun σ6 => some σ6))) else some σ)
set_option maxHeartbeats 4000000 in
set_option maxRecDepth 20000 in
theorem e_X12_wrong_0 {X : bX} {l : Launch} {G : bG} {ρ : Nat → Nat} {A : Nat → Prop} {d : Nat} {σ' : bSto} (C : bCX X cX12_wrong RX12 (d + 0)) (Hh : bH X l G bSHf ρ A 3) (Rt : bRX X none none σ') (x1 : Int32) (x2 : Int32) (σ : bSto) (hF : f_X12_wrong x1 x2 σ = some σ') : bAJ X 0 [(0, .ref 92), (1, .int x1), (2, .int x2)] [] σ := by
  rw [f_X12_wrong] at hF
  refine b_aload_n (pc := 0) C dX12_wrong_0 rfl 0 rfl ?_
  refine b_getI (pc := 1) C dX12_wrong_1 fl_X12_103 (Hh.1 _ _ sh_92) rfl ?_
  refine b_if_eq (tgt := 8) (pc := 4) C dX12_wrong_4 rfl (fun hc1 => ?_) (fun hc1 => ?_)
  · rw [if_pos hc1] at hF
    refine b_aload_n (pc := 8) C dX12_wrong_8 rfl 0 rfl ?_
    refine b_iconst (pc := 9) C dX12_wrong_9 ic_1 ?_
    obtain ⟨σ2, e3, hF⟩ := blet_e hF
    refine b_putI (pc := 10) C dX12_wrong_10 fp_X12_103 (Hh.1 _ _ sh_92) rfl rfl rfl e3 ?_
    refine b_aload_n (pc := 13) C dX12_wrong_13 rfl 0 rfl ?_
    refine b_iload_n (pc := 14) C dX12_wrong_14 rfl 1 rfl ?_
    obtain ⟨σ4, e5, hF⟩ := blet_e hF
    refine b_putI (pc := 15) C dX12_wrong_15 fp_X12_107 (Hh.1 _ _ sh_92) rfl rfl rfl e5 ?_
    refine b_aload_n (pc := 18) C dX12_wrong_18 rfl 0 rfl ?_
    refine b_iload_n (pc := 19) C dX12_wrong_19 rfl 2 rfl ?_
    obtain ⟨σ6, e7, hF⟩ := blet_e hF
    refine b_putI (pc := 20) C dX12_wrong_20 fp_X12_13 (Hh.1 _ _ sh_92) rfl rfl rfl e7 ?_
    exact b_vret (pc := 23) C Rt dX12_wrong_23 hF
  · rw [if_neg hc1] at hF
    exact b_vret (pc := 7) C Rt dX12_wrong_7 hF
set_option maxHeartbeats 4000000 in
set_option maxRecDepth 20000 in
theorem e_X12_wrong {l : Launch} {G : bG} {ρ : Nat → Nat} {A : Nat → Prop} (d : Nat) (x1 : Int32) (x2 : Int32) (σ : bSto) (σ' : bSto) (hF : f_X12_wrong x1 x2 σ = some σ') : bEv l G bSHf ρ A yX12_wrong cX12_wrong 3 none (d + 0) [.ref 92, .int x1, .int x2] σ none σ' := b_met (d := d + 0) (by decide +kernel) (Nat.le_of_ble_eq_true rfl) rfl (fun X C Rt h1 h2 h3 => e_X12_wrong_0 C ⟨fun o q h => by rw [h1]; exact h, fun i h => by rw [h2]; exact h, h3⟩ Rt _ _ _ hF)
/-! BenchColonyModel.isWord -/
def f_X12_isWord_J62_32 (k : Nat → Int32 → Int32 → bSto → Option (Int32 × bSto)) (x1 : Nat) (x3 : Int32) (σ : bSto) : Option (Int32 × bSto) := blet (x3 + (1 : Int32)) (fun x3_1 => k x1 (0 : Int32) x3_1 σ)
def f_X12_isWord_L32 : Nat → Nat → Int32 → Int32 → bSto → Option (Int32 × bSto)
  | 0, _, _, _, _ => none
  | n + 1, x1, x2, x3, σ => (if (σ.1 92 8) ≤ x3 then some (x2, σ) else (if x2 = 0 then f_X12_isWord_J62_32 (f_X12_isWord_L32 n) x1 x3 σ else if x3 < 0 ∨ 8 ≤ x3.toNatClampNeg then none else if x3 < 0 ∨ blen x1 ≤ x3.toNatClampNeg then none else (if (σ.1 94 x3.toNatClampNeg) = (bchr x1 x3.toNatClampNeg) then blet (x3 + (1 : Int32)) (fun x3_6 => f_X12_isWord_L32 n x1 (1 : Int32) x3_6 σ) else f_X12_isWord_J62_32 (f_X12_isWord_L32 n) x1 x3 σ)))
def f_X12_isWord (x1 : Nat) (σ : bSto) : Option (Int32 × bSto) := (if (σ.1 92 13) = 0 then (if (σ.1 92 6) = (2 : Int32) then (if (σ.1 92 8) = (nI (blen x1)) then bl1 (f_X12_isWord_L32 bFU x1 (1 : Int32) (0 : Int32) σ) (fun x2_4 σ5 => if x2_4 = 0 ∨ x2_4 = 1 then some (x2_4, σ5) else none) else some ((0 : Int32), σ)) else some ((0 : Int32), σ)) else some ((0 : Int32), σ))
set_option maxHeartbeats 4000000 in
set_option maxRecDepth 20000 in
theorem e_X12_isWord_J62_32 {X : bX} {l : Launch} {G : bG} {ρ : Nat → Nat} {A : Nat → Prop} {d : Nat} {r : Int32} {σ' : bSto} (C : bCX X cX12_isWord RX12 (d + 5)) (Hh : bH X l G bSHf ρ A 4) (Rt : bRX X (some .boolean) (some (.int r)) σ') {k : Nat → Int32 → Int32 → bSto → Option (Int32 × bSto)} (ih : ∀ (x1 : Nat) (hx1 : x1 < bnS) (x2 : Int32) (x3 : Int32) (σ : bSto) (q : (Int32 × bSto)), k x1 x2 x3 σ = some q → (∀ (x2 : Int32) (s : bSto), q = (x2, s) → bAJ X 70 [(2, .int x2)] [] s) → bAJ X 32 [(0, .ref 92), (1, .ref (1000 + x1)), (2, .int x2), (3, .int x3)] [] σ) (x1 : Nat) (hx1 : x1 < bnS) (x3 : Int32) (σ : bSto) (q : (Int32 × bSto)) (hF : f_X12_isWord_J62_32 k x1 x3 σ = some q) : (∀ (x2 : Int32) (s : bSto), q = (x2, s) → bAJ X 70 [(2, .int x2)] [] s) → bAJ X 62 [(0, .ref 92), (1, .ref (1000 + x1)), (3, .int x3)] [] σ := by
  intro hx
  rw [f_X12_isWord_J62_32] at hF
  refine b_iconst (pc := 62) C dX12_isWord_62 ic_0 ?_
  refine b_istore_n (L' := [(2, .int (0 : Int32)), (0, .ref 92), (1, .ref (1000 + x1)), (3, .int x3)]) (pc := 63) C dX12_isWord_63 rfl rfl (Hh.2.1 _ (Nat.le_of_ble_eq_true rfl)) rfl ?_
  obtain ⟨x3_1, e2, hF⟩ := blet_e hF
  refine b_iinc (L' := [(3, .int x3_1), (2, .int (0 : Int32)), (0, .ref 92), (1, .ref (1000 + x1))]) (pc := 64) C dX12_isWord_64 3 rfl ic_1 e2 (Hh.2.1 _ (Nat.le_of_ble_eq_true rfl)) rfl ?_
  refine b_goto (tgt := 32) (pc := 67) C dX12_isWord_67 rfl ?_
  exact b_sub [2, 3, 1, 0] rfl (ih _ hx1 (0 : Int32) x3_1 _ _ hF hx)
set_option maxHeartbeats 4000000 in
set_option maxRecDepth 20000 in
theorem e_X12_isWord_L32 {X : bX} {l : Launch} {G : bG} {ρ : Nat → Nat} {A : Nat → Prop} {d : Nat} {r : Int32} {σ' : bSto} (C : bCX X cX12_isWord RX12 (d + 5)) (Hh : bH X l G bSHf ρ A 4) (Rt : bRX X (some .boolean) (some (.int r)) σ') : ∀ (n : Nat) (x1 : Nat) (hx1 : x1 < bnS) (x2 : Int32) (x3 : Int32) (σ : bSto) (q : (Int32 × bSto)), f_X12_isWord_L32 n x1 x2 x3 σ = some q → (∀ (x2 : Int32) (s : bSto), q = (x2, s) → bAJ X 70 [(2, .int x2)] [] s) → bAJ X 32 [(0, .ref 92), (1, .ref (1000 + x1)), (2, .int x2), (3, .int x3)] [] σ := by
  intro n
  induction n with
  | zero => intro x1 hx1 x2 x3 σ q hF; rw [f_X12_isWord_L32] at hF; cases hF
  | succ n ih =>
    intro x1 hx1 x2 x3 σ q hF hx
    rw [f_X12_isWord_L32] at hF
    refine b_iload_n (pc := 32) C dX12_isWord_32 rfl 3 rfl ?_
    refine b_aload_n (pc := 33) C dX12_isWord_33 rfl 0 rfl ?_
    refine b_getI (pc := 34) C dX12_isWord_34 fl_X12_87 (Hh.1 _ _ sh_92) rfl ?_
    refine b_icmp_ge (tgt := 70) (pc := 37) C dX12_isWord_37 rfl (fun hc1 => ?_) (fun hc1 => ?_)
    · rw [if_pos hc1] at hF
      exact b_sub [2] rfl (hx _ _ (Option.some.inj hF).symm )
    · rw [if_neg hc1] at hF
      refine b_iload_n (pc := 40) C dX12_isWord_40 rfl 2 rfl ?_
      refine b_if_eq (tgt := 62) (pc := 41) C dX12_isWord_41 rfl (fun hc2 => ?_) (fun hc2 => ?_)
      · rw [if_pos hc2] at hF
        exact b_sub [0, 1, 3] rfl (e_X12_isWord_J62_32 C Hh Rt ih _ hx1 x3 _ _ hF hx)
      · rw [if_neg hc2] at hF
        refine b_aload_n (pc := 44) C dX12_isWord_44 rfl 0 rfl ?_
        refine b_getS (pc := 45) C dX12_isWord_45 fl_X12_17 (Hh.1 _ _ sh_92) rfl ?_
        refine b_iload_n (pc := 48) C dX12_isWord_48 rfl 3 rfl ?_
        obtain ⟨hb3, hF⟩ := bif_n hF
        refine b_iald (pc := 49) C dX12_isWord_49 (Hh.1 _ _ sh_94) hb3 ?_
        refine b_aload_n (pc := 50) C dX12_isWord_50 rfl 1 rfl ?_
        refine b_iload_n (pc := 51) C dX12_isWord_51 rfl 3 rfl ?_
        obtain ⟨hb4, hF⟩ := bif_n hF
        refine b_cT1i (d' := d + 4) (pc := 52) C dX12_isWord_52 mm_X12_116 hx1 rfl (Nat.le_of_ble_eq_true rfl) (by omega) (Hh.2.2 _ _ _ _ _ _ _ _ _ (e_strchr (d + 0) _ hx1 _ _ hb4)) ?_
        refine b_icmp_ne (tgt := 62) (pc := 55) C dX12_isWord_55 rfl (fun hc5 => ?_) (fun hc5 => ?_)
        · rw [if_neg hc5] at hF
          exact b_sub [0, 1, 3] rfl (e_X12_isWord_J62_32 C Hh Rt ih _ hx1 x3 _ _ hF hx)
        · rw [if_pos hc5] at hF
          refine b_iconst (pc := 58) C dX12_isWord_58 ic_1 ?_
          refine b_goto (tgt := 63) (pc := 59) C dX12_isWord_59 rfl ?_
          refine b_istore_n (L' := [(2, .int (1 : Int32)), (0, .ref 92), (1, .ref (1000 + x1)), (3, .int x3)]) (pc := 63) C dX12_isWord_63 rfl rfl (Hh.2.1 _ (Nat.le_of_ble_eq_true rfl)) rfl ?_
          obtain ⟨x3_6, e7, hF⟩ := blet_e hF
          refine b_iinc (L' := [(3, .int x3_6), (2, .int (1 : Int32)), (0, .ref 92), (1, .ref (1000 + x1))]) (pc := 64) C dX12_isWord_64 3 rfl ic_1 e7 (Hh.2.1 _ (Nat.le_of_ble_eq_true rfl)) rfl ?_
          refine b_goto (tgt := 32) (pc := 67) C dX12_isWord_67 rfl ?_
          exact b_sub [2, 3, 1, 0] rfl (ih _ hx1 (1 : Int32) x3_6 _ _ hF hx)
set_option maxHeartbeats 4000000 in
set_option maxRecDepth 20000 in
theorem e_X12_isWord_0 {X : bX} {l : Launch} {G : bG} {ρ : Nat → Nat} {A : Nat → Prop} {d : Nat} {r : Int32} {σ' : bSto} (C : bCX X cX12_isWord RX12 (d + 5)) (Hh : bH X l G bSHf ρ A 4) (Rt : bRX X (some .boolean) (some (.int r)) σ') (x1 : Nat) (hx1 : x1 < bnS) (σ : bSto) (hF : f_X12_isWord x1 σ = some (r, σ')) : bAJ X 0 [(0, .ref 92), (1, .ref (1000 + x1))] [] σ := by
  rw [f_X12_isWord] at hF
  refine b_aload_n (pc := 0) C dX12_isWord_0 rfl 0 rfl ?_
  refine b_getI (pc := 1) C dX12_isWord_1 fl_X12_103 (Hh.1 _ _ sh_92) rfl ?_
  refine b_if_ne (tgt := 26) (pc := 4) C dX12_isWord_4 rfl (fun hc1 => ?_) (fun hc1 => ?_)
  · rw [if_neg hc1] at hF
    refine b_iconst (pc := 26) C dX12_isWord_26 ic_0 ?_
    exact b_zret (pc := 27) C Rt dX12_isWord_27 rfl hF
  · rw [if_pos hc1] at hF
    refine b_aload_n (pc := 7) C dX12_isWord_7 rfl 0 rfl ?_
    refine b_getI (pc := 8) C dX12_isWord_8 fl_X12_93 (Hh.1 _ _ sh_92) rfl ?_
    refine b_iconst (pc := 11) C dX12_isWord_11 ic_2 ?_
    refine b_icmp_ne (tgt := 26) (pc := 12) C dX12_isWord_12 rfl (fun hc2 => ?_) (fun hc2 => ?_)
    · rw [if_neg hc2] at hF
      refine b_iconst (pc := 26) C dX12_isWord_26 ic_0 ?_
      exact b_zret (pc := 27) C Rt dX12_isWord_27 rfl hF
    · rw [if_pos hc2] at hF
      refine b_aload_n (pc := 15) C dX12_isWord_15 rfl 0 rfl ?_
      refine b_getI (pc := 16) C dX12_isWord_16 fl_X12_87 (Hh.1 _ _ sh_92) rfl ?_
      refine b_aload_n (pc := 19) C dX12_isWord_19 rfl 1 rfl ?_
      refine b_cT0i (d' := d + 4) (pc := 20) C dX12_isWord_20 mm_X12_110 hx1 rfl (Nat.le_of_ble_eq_true rfl) (by omega) (Hh.2.2 _ _ _ _ _ _ _ _ _ (e_strlen (d + 3) _ hx1 _)) ?_
      refine b_icmp_eq (tgt := 28) (pc := 23) C dX12_isWord_23 rfl (fun hc3 => ?_) (fun hc3 => ?_)
      · rw [if_pos hc3] at hF
        refine b_iconst (pc := 28) C dX12_isWord_28 ic_1 ?_
        refine b_istore_n (L' := [(2, .int (1 : Int32)), (0, .ref 92), (1, .ref (1000 + x1))]) (pc := 29) C dX12_isWord_29 rfl rfl (Hh.2.1 _ (Nat.le_of_ble_eq_true rfl)) rfl ?_
        refine b_iconst (pc := 30) C dX12_isWord_30 ic_0 ?_
        refine b_istore_n (L' := [(3, .int (0 : Int32)), (2, .int (1 : Int32)), (0, .ref 92), (1, .ref (1000 + x1))]) (pc := 31) C dX12_isWord_31 rfl rfl (Hh.2.1 _ (Nat.le_of_ble_eq_true rfl)) rfl ?_
        obtain ⟨x2_4, σ5, hq4, hF⟩ := bl1_e hF
        refine b_sub [2, 3, 1, 0] rfl (e_X12_isWord_L32 C Hh Rt bFU _ hx1 (1 : Int32) (0 : Int32) _ _ hq4 (fun _ _ e  => ?_))
        cases e
        refine b_iload_n (pc := 70) C dX12_isWord_70 rfl 0 rfl ?_
        obtain ⟨hz6, hF⟩ := bif_y hF
        exact b_zret (pc := 71) C Rt dX12_isWord_71 (bz_n hz6) hF
      · rw [if_neg hc3] at hF
        refine b_iconst (pc := 26) C dX12_isWord_26 ic_0 ?_
        exact b_zret (pc := 27) C Rt dX12_isWord_27 rfl hF
set_option maxHeartbeats 4000000 in
set_option maxRecDepth 20000 in
theorem e_X12_isWord {l : Launch} {G : bG} {ρ : Nat → Nat} {A : Nat → Prop} (d : Nat) (x1 : Nat) (hx1 : x1 < bnS) (σ : bSto) (r : Int32) (σ' : bSto) (hF : f_X12_isWord x1 σ = some (r, σ')) : bEv l G bSHf ρ A yX12_isWord cX12_isWord 4 (some .boolean) (d + 5) [.ref 92, .ref (1000 + x1)] σ (some (.int r)) σ' := b_met (d := d + 5) (by decide +kernel) (Nat.le_of_ble_eq_true rfl) rfl (fun X C Rt h1 h2 h3 => e_X12_isWord_0 C ⟨fun o q h => by rw [h1]; exact h, fun i h => by rw [h2]; exact h, h3⟩ Rt _ hx1 _ hF)
/-! BenchColonyModel.takesWord -/
def f_X12_takesWord (x1 : Nat) (σ : bSto) : Option (Int32 × bSto) := bbd (f_X12_isWord x1 σ) (fun v3 σ2 => (if v3 = 0 then some ((0 : Int32), σ2) else bbv (f_X12_next  σ2) (fun σ6 => some ((1 : Int32), σ6))))
set_option maxHeartbeats 4000000 in
set_option maxRecDepth 20000 in
theorem e_X12_takesWord_0 {X : bX} {l : Launch} {G : bG} {ρ : Nat → Nat} {A : Nat → Prop} {d : Nat} {r : Int32} {σ' : bSto} (C : bCX X cX12_takesWord RX12 (d + 6)) (Hh : bH X l G bSHf ρ A 2) (Rt : bRX X (some .boolean) (some (.int r)) σ') (x1 : Nat) (hx1 : x1 < bnS) (σ : bSto) (hF : f_X12_takesWord x1 σ = some (r, σ')) : bAJ X 0 [(0, .ref 92), (1, .ref (1000 + x1))] [] σ := by
  rw [f_X12_takesWord] at hF
  refine b_aload_n (pc := 0) C dX12_takesWord_0 rfl 0 rfl ?_
  refine b_aload_n (pc := 1) C dX12_takesWord_1 rfl 1 rfl ?_
  obtain ⟨v3, σ2, hc1, hF⟩ := bbd_e hF
  refine b_cV1i (d' := (d + 5)) (pc := 2) C dX12_takesWord_2 mm_X12_120 (Hh.1 _ _ sh_92) rfl (Nat.le_of_ble_eq_true rfl) (by omega) (Hh.2.2 _ _ _ _ _ _ _ _ _ (lvl_eq (by omega) (e_X12_isWord (d + 0) _ hx1 _ _ _ hc1))) ?_
  refine b_if_ne (tgt := 10) (pc := 5) C dX12_takesWord_5 rfl (fun hc4 => ?_) (fun hc4 => ?_)
  · rw [if_neg hc4] at hF
    refine b_aload_n (pc := 10) C dX12_takesWord_10 rfl 0 rfl ?_
    obtain ⟨σ6, hc5, hF⟩ := bbv_e hF
    refine b_cV0v (d' := (d + 5)) (pc := 11) C dX12_takesWord_11 mm_X12_124 (Hh.1 _ _ sh_92) rfl (Nat.le_of_ble_eq_true rfl) (by omega) (Hh.2.2 _ _ _ _ _ _ _ _ _ (lvl_eq (by omega) (e_X12_next (d + 4)  _ _ hc5))) ?_
    refine b_iconst (pc := 14) C dX12_takesWord_14 ic_1 ?_
    exact b_zret (pc := 15) C Rt dX12_takesWord_15 rfl hF
  · rw [if_pos hc4] at hF
    refine b_iconst (pc := 8) C dX12_takesWord_8 ic_0 ?_
    exact b_zret (pc := 9) C Rt dX12_takesWord_9 rfl hF
set_option maxHeartbeats 4000000 in
set_option maxRecDepth 20000 in
theorem e_X12_takesWord {l : Launch} {G : bG} {ρ : Nat → Nat} {A : Nat → Prop} (d : Nat) (x1 : Nat) (hx1 : x1 < bnS) (σ : bSto) (r : Int32) (σ' : bSto) (hF : f_X12_takesWord x1 σ = some (r, σ')) : bEv l G bSHf ρ A yX12_takesWord cX12_takesWord 2 (some .boolean) (d + 6) [.ref 92, .ref (1000 + x1)] σ (some (.int r)) σ' := b_met (d := d + 6) (by decide +kernel) (Nat.le_of_ble_eq_true rfl) rfl (fun X C Rt h1 h2 h3 => e_X12_takesWord_0 C ⟨fun o q h => by rw [h1]; exact h, fun i h => by rw [h2]; exact h, h3⟩ Rt _ hx1 _ hF)
/-! BenchColonyModel.must -/
def f_X12_must (x1 : Nat) (σ : bSto) : Option bSto := (if (σ.1 92 13) = 0 then bbd (f_X12_takesWord x1 σ) (fun v4 σ3 => (if v4 = 0 then bbv (f_X12_wrong (1 : Int32) (σ3.1 92 4) σ3) (fun σ7 => some σ7) else some σ3)) else some σ)
set_option maxHeartbeats 4000000 in
set_option maxRecDepth 20000 in
theorem e_X12_must_0 {X : bX} {l : Launch} {G : bG} {ρ : Nat → Nat} {A : Nat → Prop} {d : Nat} {σ' : bSto} (C : bCX X cX12_must RX12 (d + 7)) (Hh : bH X l G bSHf ρ A 2) (Rt : bRX X none none σ') (x1 : Nat) (hx1 : x1 < bnS) (σ : bSto) (hF : f_X12_must x1 σ = some σ') : bAJ X 0 [(0, .ref 92), (1, .ref (1000 + x1))] [] σ := by
  rw [f_X12_must] at hF
  refine b_aload_n (pc := 0) C dX12_must_0 rfl 0 rfl ?_
  refine b_getI (pc := 1) C dX12_must_1 fl_X12_103 (Hh.1 _ _ sh_92) rfl ?_
  refine b_if_ne (tgt := 24) (pc := 4) C dX12_must_4 rfl (fun hc1 => ?_) (fun hc1 => ?_)
  · rw [if_neg hc1] at hF
    exact b_vret (pc := 24) C Rt dX12_must_24 hF
  · rw [if_pos hc1] at hF
    refine b_aload_n (pc := 7) C dX12_must_7 rfl 0 rfl ?_
    refine b_aload_n (pc := 8) C dX12_must_8 rfl 1 rfl ?_
    obtain ⟨v4, σ3, hc2, hF⟩ := bbd_e hF
    refine b_cV1i (d' := (d + 6)) (pc := 9) C dX12_must_9 mm_X12_127 (Hh.1 _ _ sh_92) rfl (Nat.le_of_ble_eq_true rfl) (by omega) (Hh.2.2 _ _ _ _ _ _ _ _ _ (lvl_eq (by omega) (e_X12_takesWord (d + 0) _ hx1 _ _ _ hc2))) ?_
    refine b_if_ne (tgt := 24) (pc := 12) C dX12_must_12 rfl (fun hc5 => ?_) (fun hc5 => ?_)
    · rw [if_neg hc5] at hF
      exact b_vret (pc := 24) C Rt dX12_must_24 hF
    · rw [if_pos hc5] at hF
      refine b_aload_n (pc := 15) C dX12_must_15 rfl 0 rfl ?_
      refine b_iconst (pc := 16) C dX12_must_16 ic_1 ?_
      refine b_aload_n (pc := 17) C dX12_must_17 rfl 0 rfl ?_
      refine b_getI (pc := 18) C dX12_must_18 fl_X12_84 (Hh.1 _ _ sh_92) rfl ?_
      obtain ⟨σ7, hc6, hF⟩ := bbv_e hF
      refine b_cV2v (d' := (d + 6)) (pc := 21) C dX12_must_21 mm_X12_130 (Hh.1 _ _ sh_92) rfl (Nat.le_of_ble_eq_true rfl) (by omega) (Hh.2.2 _ _ _ _ _ _ _ _ _ (lvl_eq (by omega) (e_X12_wrong (d + 6) (1 : Int32) (σ3.1 92 4) _ _ hc6))) ?_
      exact b_vret (pc := 24) C Rt dX12_must_24 hF
set_option maxHeartbeats 4000000 in
set_option maxRecDepth 20000 in
theorem e_X12_must {l : Launch} {G : bG} {ρ : Nat → Nat} {A : Nat → Prop} (d : Nat) (x1 : Nat) (hx1 : x1 < bnS) (σ : bSto) (σ' : bSto) (hF : f_X12_must x1 σ = some σ') : bEv l G bSHf ρ A yX12_must cX12_must 2 none (d + 7) [.ref 92, .ref (1000 + x1)] σ none σ' := b_met (d := d + 7) (by decide +kernel) (Nat.le_of_ble_eq_true rfl) rfl (fun X C Rt h1 h2 h3 => e_X12_must_0 C ⟨fun o q h => by rw [h1]; exact h, fun i h => by rw [h2]; exact h, h3⟩ Rt _ hx1 _ hF)
/-! BenchColonyModel.mustName -/
def f_X12_mustName_J108  (σ : bSto) : Option bSto := bbv (f_X12_wrong (1 : Int32) (σ.1 92 4) σ) (fun σ2 => some σ2)
def f_X12_mustName_J95 (s0 : Int32) (σ : bSto) : Option bSto := (if (σ.1 92 6) = (2 : Int32) then (if s0 = 0 then some σ else f_X12_mustName_J108  σ) else f_X12_mustName_J108  σ)
def f_X12_mustName  (σ : bSto) : Option bSto := bbd (f_X12_isWord 19 σ) (fun v3 σ2 => (if v3 = 0 then bbd (f_X12_isWord 3 σ2) (fun v7 σ6 => (if v7 = 0 then bbd (f_X12_isWord 16 σ6) (fun v11 σ10 => (if v11 = 0 then bbd (f_X12_isWord 12 σ10) (fun v15 σ14 => (if v15 = 0 then bbd (f_X12_isWord 10 σ14) (fun v19 σ18 => (if v19 = 0 then bbd (f_X12_isWord 2 σ18) (fun v23 σ22 => (if v23 = 0 then bbd (f_X12_isWord 6 σ22) (fun v27 σ26 => (if v27 = 0 then bbd (f_X12_isWord 20 σ26) (fun v31 σ30 => (if v31 = 0 then bbd (f_X12_isWord 17 σ30) (fun v35 σ34 => (if v35 = 0 then bbd (f_X12_isWord 14 σ34) (fun v39 σ38 => (if v39 = 0 then f_X12_mustName_J95 (0 : Int32) σ38 else f_X12_mustName_J95 (1 : Int32) σ38)) else f_X12_mustName_J95 (1 : Int32) σ34)) else f_X12_mustName_J95 (1 : Int32) σ30)) else f_X12_mustName_J95 (1 : Int32) σ26)) else f_X12_mustName_J95 (1 : Int32) σ22)) else f_X12_mustName_J95 (1 : Int32) σ18)) else f_X12_mustName_J95 (1 : Int32) σ14)) else f_X12_mustName_J95 (1 : Int32) σ10)) else f_X12_mustName_J95 (1 : Int32) σ6)) else f_X12_mustName_J95 (1 : Int32) σ2))
set_option maxHeartbeats 4000000 in
set_option maxRecDepth 20000 in
theorem e_X12_mustName_J108 {X : bX} {l : Launch} {G : bG} {ρ : Nat → Nat} {A : Nat → Prop} {d : Nat} {σ' : bSto} (C : bCX X cX12_mustName RX12 (d + 6)) (Hh : bH X l G bSHf ρ A 2) (Rt : bRX X none none σ')  (σ : bSto) (hF : f_X12_mustName_J108  σ = some σ') : bAJ X 108 [(0, .ref 92)] [] σ := by
  rw [f_X12_mustName_J108] at hF
  refine b_aload_n (pc := 108) C dX12_mustName_108 rfl 0 rfl ?_
  refine b_iconst (pc := 109) C dX12_mustName_109 ic_1 ?_
  refine b_aload_n (pc := 110) C dX12_mustName_110 rfl 0 rfl ?_
  refine b_getI (pc := 111) C dX12_mustName_111 fl_X12_84 (Hh.1 _ _ sh_92) rfl ?_
  obtain ⟨σ2, hc1, hF⟩ := bbv_e hF
  refine b_cV2v (d' := (d + 5)) (pc := 114) C dX12_mustName_114 mm_X12_130 (Hh.1 _ _ sh_92) rfl (Nat.le_of_ble_eq_true rfl) (by omega) (Hh.2.2 _ _ _ _ _ _ _ _ _ (lvl_eq (by omega) (e_X12_wrong (d + 5) (1 : Int32) (σ.1 92 4) _ _ hc1))) ?_
  exact b_vret (pc := 117) C Rt dX12_mustName_117 hF
set_option maxHeartbeats 4000000 in
set_option maxRecDepth 20000 in
theorem e_X12_mustName_J95 {X : bX} {l : Launch} {G : bG} {ρ : Nat → Nat} {A : Nat → Prop} {d : Nat} {σ' : bSto} (C : bCX X cX12_mustName RX12 (d + 6)) (Hh : bH X l G bSHf ρ A 2) (Rt : bRX X none none σ') (s0 : Int32) (σ : bSto) (hF : f_X12_mustName_J95 s0 σ = some σ') : bAJ X 95 [(0, .ref 92)] [.int s0] σ := by
  rw [f_X12_mustName_J95] at hF
  refine b_istore_n (L' := [(1, .int s0), (0, .ref 92)]) (pc := 95) C dX12_mustName_95 rfl rfl (Hh.2.1 _ (Nat.le_of_ble_eq_true rfl)) rfl ?_
  refine b_aload_n (pc := 96) C dX12_mustName_96 rfl 1 rfl ?_
  refine b_getI (pc := 97) C dX12_mustName_97 fl_X12_93 (Hh.1 _ _ sh_92) rfl ?_
  refine b_iconst (pc := 100) C dX12_mustName_100 ic_2 ?_
  refine b_icmp_ne (tgt := 108) (pc := 101) C dX12_mustName_101 rfl (fun hc1 => ?_) (fun hc1 => ?_)
  · rw [if_neg hc1] at hF
    exact b_sub [1] rfl (e_X12_mustName_J108 C Hh Rt  _ hF)
  · rw [if_pos hc1] at hF
    refine b_iload_n (pc := 104) C dX12_mustName_104 rfl 0 rfl ?_
    refine b_if_eq (tgt := 117) (pc := 105) C dX12_mustName_105 rfl (fun hc2 => ?_) (fun hc2 => ?_)
    · rw [if_pos hc2] at hF
      exact b_vret (pc := 117) C Rt dX12_mustName_117 hF
    · rw [if_neg hc2] at hF
      exact b_sub [1] rfl (e_X12_mustName_J108 C Hh Rt  _ hF)
set_option maxHeartbeats 4000000 in
set_option maxRecDepth 20000 in
theorem e_X12_mustName_0 {X : bX} {l : Launch} {G : bG} {ρ : Nat → Nat} {A : Nat → Prop} {d : Nat} {σ' : bSto} (C : bCX X cX12_mustName RX12 (d + 6)) (Hh : bH X l G bSHf ρ A 2) (Rt : bRX X none none σ')  (σ : bSto) (hF : f_X12_mustName  σ = some σ') : bAJ X 0 [(0, .ref 92)] [] σ := by
  rw [f_X12_mustName] at hF
  refine b_aload_n (pc := 0) C dX12_mustName_0 rfl 0 rfl ?_
  refine b_ldcS (pc := 1) C dX12_mustName_1 "room" 28 rfl ?_
  obtain ⟨v3, σ2, hc1, hF⟩ := bbd_e hF
  refine b_cV1i (d' := (d + 5)) (pc := 3) C dX12_mustName_3 mm_X12_120 (Hh.1 _ _ sh_92) rfl (Nat.le_of_ble_eq_true rfl) (by omega) (Hh.2.2 _ _ _ _ _ _ _ _ _ (lvl_eq (by omega) (e_X12_isWord (d + 0) _ (by decide) _ _ _ hc1))) ?_
  refine b_if_ne (tgt := 90) (pc := 6) C dX12_mustName_6 rfl (fun hc4 => ?_) (fun hc4 => ?_)
  · rw [if_neg hc4] at hF
    refine b_iconst (pc := 90) C dX12_mustName_90 ic_1 ?_
    refine b_goto (tgt := 95) (pc := 91) C dX12_mustName_91 rfl ?_
    exact b_sub [0] rfl (e_X12_mustName_J95 C Hh Rt (1 : Int32) _ hF)
  · rw [if_pos hc4] at hF
    refine b_aload_n (pc := 9) C dX12_mustName_9 rfl 0 rfl ?_
    refine b_ldcS (pc := 10) C dX12_mustName_10 "bench" 29 rfl ?_
    obtain ⟨v7, σ6, hc5, hF⟩ := bbd_e hF
    refine b_cV1i (d' := (d + 5)) (pc := 12) C dX12_mustName_12 mm_X12_120 (Hh.1 _ _ sh_92) rfl (Nat.le_of_ble_eq_true rfl) (by omega) (Hh.2.2 _ _ _ _ _ _ _ _ _ (lvl_eq (by omega) (e_X12_isWord (d + 0) _ (by decide) _ _ _ hc5))) ?_
    refine b_if_ne (tgt := 90) (pc := 15) C dX12_mustName_15 rfl (fun hc8 => ?_) (fun hc8 => ?_)
    · rw [if_neg hc8] at hF
      refine b_iconst (pc := 90) C dX12_mustName_90 ic_1 ?_
      refine b_goto (tgt := 95) (pc := 91) C dX12_mustName_91 rfl ?_
      exact b_sub [0] rfl (e_X12_mustName_J95 C Hh Rt (1 : Int32) _ hF)
    · rw [if_pos hc8] at hF
      refine b_aload_n (pc := 18) C dX12_mustName_18 rfl 0 rfl ?_
      refine b_ldcS (pc := 19) C dX12_mustName_19 "person" 30 rfl ?_
      obtain ⟨v11, σ10, hc9, hF⟩ := bbd_e hF
      refine b_cV1i (d' := (d + 5)) (pc := 21) C dX12_mustName_21 mm_X12_120 (Hh.1 _ _ sh_92) rfl (Nat.le_of_ble_eq_true rfl) (by omega) (Hh.2.2 _ _ _ _ _ _ _ _ _ (lvl_eq (by omega) (e_X12_isWord (d + 0) _ (by decide) _ _ _ hc9))) ?_
      refine b_if_ne (tgt := 90) (pc := 24) C dX12_mustName_24 rfl (fun hc12 => ?_) (fun hc12 => ?_)
      · rw [if_neg hc12] at hF
        refine b_iconst (pc := 90) C dX12_mustName_90 ic_1 ?_
        refine b_goto (tgt := 95) (pc := 91) C dX12_mustName_91 rfl ?_
        exact b_sub [0] rfl (e_X12_mustName_J95 C Hh Rt (1 : Int32) _ hF)
      · rw [if_pos hc12] at hF
        refine b_aload_n (pc := 27) C dX12_mustName_27 rfl 0 rfl ?_
        refine b_ldcS (pc := 28) C dX12_mustName_28 "kin" 31 rfl ?_
        obtain ⟨v15, σ14, hc13, hF⟩ := bbd_e hF
        refine b_cV1i (d' := (d + 5)) (pc := 30) C dX12_mustName_30 mm_X12_120 (Hh.1 _ _ sh_92) rfl (Nat.le_of_ble_eq_true rfl) (by omega) (Hh.2.2 _ _ _ _ _ _ _ _ _ (lvl_eq (by omega) (e_X12_isWord (d + 0) _ (by decide) _ _ _ hc13))) ?_
        refine b_if_ne (tgt := 90) (pc := 33) C dX12_mustName_33 rfl (fun hc16 => ?_) (fun hc16 => ?_)
        · rw [if_neg hc16] at hF
          refine b_iconst (pc := 90) C dX12_mustName_90 ic_1 ?_
          refine b_goto (tgt := 95) (pc := 91) C dX12_mustName_91 rfl ?_
          exact b_sub [0] rfl (e_X12_mustName_J95 C Hh Rt (1 : Int32) _ hF)
        · rw [if_pos hc16] at hF
          refine b_aload_n (pc := 36) C dX12_mustName_36 rfl 0 rfl ?_
          refine b_ldcS (pc := 37) C dX12_mustName_37 "heeds" 32 rfl ?_
          obtain ⟨v19, σ18, hc17, hF⟩ := bbd_e hF
          refine b_cV1i (d' := (d + 5)) (pc := 39) C dX12_mustName_39 mm_X12_120 (Hh.1 _ _ sh_92) rfl (Nat.le_of_ble_eq_true rfl) (by omega) (Hh.2.2 _ _ _ _ _ _ _ _ _ (lvl_eq (by omega) (e_X12_isWord (d + 0) _ (by decide) _ _ _ hc17))) ?_
          refine b_if_ne (tgt := 90) (pc := 42) C dX12_mustName_42 rfl (fun hc20 => ?_) (fun hc20 => ?_)
          · rw [if_neg hc20] at hF
            refine b_iconst (pc := 90) C dX12_mustName_90 ic_1 ?_
            refine b_goto (tgt := 95) (pc := 91) C dX12_mustName_91 rfl ?_
            exact b_sub [0] rfl (e_X12_mustName_J95 C Hh Rt (1 : Int32) _ hF)
          · rw [if_pos hc20] at hF
            refine b_aload_n (pc := 45) C dX12_mustName_45 rfl 0 rfl ?_
            refine b_ldcS (pc := 46) C dX12_mustName_46 "believes" 33 rfl ?_
            obtain ⟨v23, σ22, hc21, hF⟩ := bbd_e hF
            refine b_cV1i (d' := (d + 5)) (pc := 48) C dX12_mustName_48 mm_X12_120 (Hh.1 _ _ sh_92) rfl (Nat.le_of_ble_eq_true rfl) (by omega) (Hh.2.2 _ _ _ _ _ _ _ _ _ (lvl_eq (by omega) (e_X12_isWord (d + 0) _ (by decide) _ _ _ hc21))) ?_
            refine b_if_ne (tgt := 90) (pc := 51) C dX12_mustName_51 rfl (fun hc24 => ?_) (fun hc24 => ?_)
            · rw [if_neg hc24] at hF
              refine b_iconst (pc := 90) C dX12_mustName_90 ic_1 ?_
              refine b_goto (tgt := 95) (pc := 91) C dX12_mustName_91 rfl ?_
              exact b_sub [0] rfl (e_X12_mustName_J95 C Hh Rt (1 : Int32) _ hF)
            · rw [if_pos hc24] at hF
              refine b_aload_n (pc := 54) C dX12_mustName_54 rfl 0 rfl ?_
              refine b_ldcS (pc := 55) C dX12_mustName_55 "denies" 34 rfl ?_
              obtain ⟨v27, σ26, hc25, hF⟩ := bbd_e hF
              refine b_cV1i (d' := (d + 5)) (pc := 57) C dX12_mustName_57 mm_X12_120 (Hh.1 _ _ sh_92) rfl (Nat.le_of_ble_eq_true rfl) (by omega) (Hh.2.2 _ _ _ _ _ _ _ _ _ (lvl_eq (by omega) (e_X12_isWord (d + 0) _ (by decide) _ _ _ hc25))) ?_
              refine b_if_ne (tgt := 90) (pc := 60) C dX12_mustName_60 rfl (fun hc28 => ?_) (fun hc28 => ?_)
              · rw [if_neg hc28] at hF
                refine b_iconst (pc := 90) C dX12_mustName_90 ic_1 ?_
                refine b_goto (tgt := 95) (pc := 91) C dX12_mustName_91 rfl ?_
                exact b_sub [0] rfl (e_X12_mustName_J95 C Hh Rt (1 : Int32) _ hF)
              · rw [if_pos hc28] at hF
                refine b_aload_n (pc := 63) C dX12_mustName_63 rfl 0 rfl ?_
                refine b_ldcS (pc := 64) C dX12_mustName_64 "rumble" 35 rfl ?_
                obtain ⟨v31, σ30, hc29, hF⟩ := bbd_e hF
                refine b_cV1i (d' := (d + 5)) (pc := 66) C dX12_mustName_66 mm_X12_120 (Hh.1 _ _ sh_92) rfl (Nat.le_of_ble_eq_true rfl) (by omega) (Hh.2.2 _ _ _ _ _ _ _ _ _ (lvl_eq (by omega) (e_X12_isWord (d + 0) _ (by decide) _ _ _ hc29))) ?_
                refine b_if_ne (tgt := 90) (pc := 69) C dX12_mustName_69 rfl (fun hc32 => ?_) (fun hc32 => ?_)
                · rw [if_neg hc32] at hF
                  refine b_iconst (pc := 90) C dX12_mustName_90 ic_1 ?_
                  refine b_goto (tgt := 95) (pc := 91) C dX12_mustName_91 rfl ?_
                  exact b_sub [0] rfl (e_X12_mustName_J95 C Hh Rt (1 : Int32) _ hF)
                · rw [if_pos hc32] at hF
                  refine b_aload_n (pc := 72) C dX12_mustName_72 rfl 0 rfl ?_
                  refine b_ldcS (pc := 73) C dX12_mustName_73 "quiet" 36 rfl ?_
                  obtain ⟨v35, σ34, hc33, hF⟩ := bbd_e hF
                  refine b_cV1i (d' := (d + 5)) (pc := 75) C dX12_mustName_75 mm_X12_120 (Hh.1 _ _ sh_92) rfl (Nat.le_of_ble_eq_true rfl) (by omega) (Hh.2.2 _ _ _ _ _ _ _ _ _ (lvl_eq (by omega) (e_X12_isWord (d + 0) _ (by decide) _ _ _ hc33))) ?_
                  refine b_if_ne (tgt := 90) (pc := 78) C dX12_mustName_78 rfl (fun hc36 => ?_) (fun hc36 => ?_)
                  · rw [if_neg hc36] at hF
                    refine b_iconst (pc := 90) C dX12_mustName_90 ic_1 ?_
                    refine b_goto (tgt := 95) (pc := 91) C dX12_mustName_91 rfl ?_
                    exact b_sub [0] rfl (e_X12_mustName_J95 C Hh Rt (1 : Int32) _ hF)
                  · rw [if_pos hc36] at hF
                    refine b_aload_n (pc := 81) C dX12_mustName_81 rfl 0 rfl ?_
                    refine b_ldcS (pc := 82) C dX12_mustName_82 "on" 37 rfl ?_
                    obtain ⟨v39, σ38, hc37, hF⟩ := bbd_e hF
                    refine b_cV1i (d' := (d + 5)) (pc := 84) C dX12_mustName_84 mm_X12_120 (Hh.1 _ _ sh_92) rfl (Nat.le_of_ble_eq_true rfl) (by omega) (Hh.2.2 _ _ _ _ _ _ _ _ _ (lvl_eq (by omega) (e_X12_isWord (d + 0) _ (by decide) _ _ _ hc37))) ?_
                    refine b_if_eq (tgt := 94) (pc := 87) C dX12_mustName_87 rfl (fun hc40 => ?_) (fun hc40 => ?_)
                    · rw [if_pos hc40] at hF
                      refine b_iconst (pc := 94) C dX12_mustName_94 ic_0 ?_
                      exact b_sub [0] rfl (e_X12_mustName_J95 C Hh Rt (0 : Int32) _ hF)
                    · rw [if_neg hc40] at hF
                      refine b_iconst (pc := 90) C dX12_mustName_90 ic_1 ?_
                      refine b_goto (tgt := 95) (pc := 91) C dX12_mustName_91 rfl ?_
                      exact b_sub [0] rfl (e_X12_mustName_J95 C Hh Rt (1 : Int32) _ hF)
set_option maxHeartbeats 4000000 in
set_option maxRecDepth 20000 in
theorem e_X12_mustName {l : Launch} {G : bG} {ρ : Nat → Nat} {A : Nat → Prop} (d : Nat)  (σ : bSto) (σ' : bSto) (hF : f_X12_mustName  σ = some σ') : bEv l G bSHf ρ A yX12_mustName cX12_mustName 2 none (d + 6) [.ref 92] σ none σ' := b_met (d := d + 6) (by decide +kernel) (Nat.le_of_ble_eq_true rfl) rfl (fun X C Rt h1 h2 h3 => e_X12_mustName_0 C ⟨fun o q h => by rw [h1]; exact h, fun i h => by rw [h2]; exact h, h3⟩ Rt  _ hF)
/-! BenchColonyModel.find -/
def f_X12_find_L46 : Nat → Int32 → Int32 → Int32 → bSto → Option (Int32 × Int32 × bSto)
  | 0, _, _, _, _ => none
  | n + 1, x1, x2, x3, σ => (if (σ.1 92 8) ≤ x3 then some (x1, x2, σ) else (if x2 = 0 then some (x1, x2, σ) else if (((302 : Int32) + ((8 : Int32) * x1)) + x3) < 0 ∨ 406 ≤ (((302 : Int32) + ((8 : Int32) * x1)) + x3).toNatClampNeg then none else if x3 < 0 ∨ 8 ≤ x3.toNatClampNeg then none else (if (σ.1 96 (((302 : Int32) + ((8 : Int32) * x1)) + x3).toNatClampNeg) = (σ.1 94 x3.toNatClampNeg) then blet (x3 + (1 : Int32)) (fun x3_8 => f_X12_find_L46 n x1 (1 : Int32) x3_8 σ) else blet (x3 + (1 : Int32)) (fun x3_6 => f_X12_find_L46 n x1 (0 : Int32) x3_6 σ))))
def f_X12_find_J94_2 (k : Int32 → bSto → Option ((Int32 × bSto) ⊕ (bSto))) (x1 : Int32) (x2 : Int32) (σ : bSto) : Option ((Int32 × bSto) ⊕ (bSto)) := (if x2 = 0 then blet (x1 + (1 : Int32)) (fun x1_2 => k x1_2 σ) else some (.inl (x1, σ)))
def f_X12_find_J43_2 (k : Int32 → bSto → Option ((Int32 × bSto) ⊕ (bSto))) (x1 : Int32) (s0 : Int32) (σ : bSto) : Option ((Int32 × bSto) ⊕ (bSto)) := bl2 (f_X12_find_L46 bFU x1 s0 (0 : Int32) σ) (fun x1_1 x2_1 σ2 => f_X12_find_J94_2 k x1_1 x2_1 σ2)
def f_X12_find_J42_2 (k : Int32 → bSto → Option ((Int32 × bSto) ⊕ (bSto))) (x1 : Int32) (σ : bSto) : Option ((Int32 × bSto) ⊕ (bSto)) := f_X12_find_J43_2 k x1 (0 : Int32) σ
def f_X12_find_L2 : Nat → Int32 → bSto → Option ((Int32 × bSto) ⊕ (bSto))
  | 0, _, _ => none
  | n + 1, x1, σ => (if (13 : Int32) ≤ x1 then some (.inr σ) else if ((289 : Int32) + x1) < 0 ∨ 406 ≤ ((289 : Int32) + x1).toNatClampNeg then none else (if (σ.1 96 ((289 : Int32) + x1).toNatClampNeg) ≤ 0 then f_X12_find_J42_2 (f_X12_find_L2 n) x1 σ else if ((289 : Int32) + x1) < 0 ∨ 406 ≤ ((289 : Int32) + x1).toNatClampNeg then none else (if (σ.1 96 ((289 : Int32) + x1).toNatClampNeg) = (σ.1 92 8) then f_X12_find_J43_2 (f_X12_find_L2 n) x1 (1 : Int32) σ else f_X12_find_J42_2 (f_X12_find_L2 n) x1 σ)))
def f_X12_find  (σ : bSto) : Option (Int32 × bSto) := br0 (f_X12_find_L2 bFU (0 : Int32) σ) (fun v s => some (v, s)) (fun σ2 => some ((-1 : Int32), σ2))
set_option maxHeartbeats 4000000 in
set_option maxRecDepth 20000 in
theorem e_X12_find_L46 {X : bX} {l : Launch} {G : bG} {ρ : Nat → Nat} {A : Nat → Prop} {d : Nat} {r : Int32} {σ' : bSto} (C : bCX X cX12_find RX12 (d + 0)) (Hh : bH X l G bSHf ρ A 4) (Rt : bRX X (some .int) (some (.int r)) σ') : ∀ (n : Nat) (x1 : Int32) (x2 : Int32) (x3 : Int32) (σ : bSto) (q : (Int32 × Int32 × bSto)), f_X12_find_L46 n x1 x2 x3 σ = some q → (∀ (x1 : Int32) (x2 : Int32) (s : bSto), q = (x1, x2, s) → bAJ X 94 [(0, .ref 92), (1, .int x1), (2, .int x2)] [] s) → bAJ X 46 [(0, .ref 92), (1, .int x1), (2, .int x2), (3, .int x3)] [] σ := by
  intro n
  induction n with
  | zero => intro x1 x2 x3 σ q hF; rw [f_X12_find_L46] at hF; cases hF
  | succ n ih =>
    intro x1 x2 x3 σ q hF hx
    rw [f_X12_find_L46] at hF
    refine b_iload_n (pc := 46) C dX12_find_46 rfl 3 rfl ?_
    refine b_aload_n (pc := 47) C dX12_find_47 rfl 0 rfl ?_
    refine b_getI (pc := 48) C dX12_find_48 fl_X12_87 (Hh.1 _ _ sh_92) rfl ?_
    refine b_icmp_ge (tgt := 94) (pc := 51) C dX12_find_51 rfl (fun hc1 => ?_) (fun hc1 => ?_)
    · rw [if_pos hc1] at hF
      exact b_sub [0, 1, 2] rfl (hx _ _ _ (Option.some.inj hF).symm )
    · rw [if_neg hc1] at hF
      refine b_iload_n (pc := 54) C dX12_find_54 rfl 2 rfl ?_
      refine b_if_eq (tgt := 94) (pc := 55) C dX12_find_55 rfl (fun hc2 => ?_) (fun hc2 => ?_)
      · rw [if_pos hc2] at hF
        exact b_sub [0, 1, 2] rfl (hx _ _ _ (Option.some.inj hF).symm )
      · rw [if_neg hc2] at hF
        refine b_aload_n (pc := 58) C dX12_find_58 rfl 0 rfl ?_
        refine b_getS (pc := 59) C dX12_find_59 fl_X12_23 (Hh.1 _ _ sh_92) rfl ?_
        refine b_sipush (pc := 62) C dX12_find_62 sp_302 ?_
        refine b_bipush (pc := 65) C dX12_find_65 bp_8 ?_
        refine b_iload_n (pc := 67) C dX12_find_67 rfl 1 rfl ?_
        refine b_imul (pc := 68) C dX12_find_68 ?_
        refine b_iadd (pc := 69) C dX12_find_69 ?_
        refine b_iload_n (pc := 70) C dX12_find_70 rfl 3 rfl ?_
        refine b_iadd (pc := 71) C dX12_find_71 ?_
        obtain ⟨hb3, hF⟩ := bif_n hF
        refine b_iald (pc := 72) C dX12_find_72 (Hh.1 _ _ sh_96) hb3 ?_
        refine b_aload_n (pc := 73) C dX12_find_73 rfl 0 rfl ?_
        refine b_getS (pc := 74) C dX12_find_74 fl_X12_17 (Hh.1 _ _ sh_92) rfl ?_
        refine b_iload_n (pc := 77) C dX12_find_77 rfl 3 rfl ?_
        obtain ⟨hb4, hF⟩ := bif_n hF
        refine b_iald (pc := 78) C dX12_find_78 (Hh.1 _ _ sh_94) hb4 ?_
        refine b_icmp_ne (tgt := 86) (pc := 79) C dX12_find_79 rfl (fun hc5 => ?_) (fun hc5 => ?_)
        · rw [if_neg hc5] at hF
          refine b_iconst (pc := 86) C dX12_find_86 ic_0 ?_
          refine b_istore_n (L' := [(2, .int (0 : Int32)), (0, .ref 92), (1, .int x1), (3, .int x3)]) (pc := 87) C dX12_find_87 rfl rfl (Hh.2.1 _ (Nat.le_of_ble_eq_true rfl)) rfl ?_
          obtain ⟨x3_6, e7, hF⟩ := blet_e hF
          refine b_iinc (L' := [(3, .int x3_6), (2, .int (0 : Int32)), (0, .ref 92), (1, .int x1)]) (pc := 88) C dX12_find_88 3 rfl ic_1 e7 (Hh.2.1 _ (Nat.le_of_ble_eq_true rfl)) rfl ?_
          refine b_goto (tgt := 46) (pc := 91) C dX12_find_91 rfl ?_
          exact b_sub [2, 3, 1, 0] rfl (ih x1 (0 : Int32) x3_6 _ _ hF hx)
        · rw [if_pos hc5] at hF
          refine b_iconst (pc := 82) C dX12_find_82 ic_1 ?_
          refine b_goto (tgt := 87) (pc := 83) C dX12_find_83 rfl ?_
          refine b_istore_n (L' := [(2, .int (1 : Int32)), (0, .ref 92), (1, .int x1), (3, .int x3)]) (pc := 87) C dX12_find_87 rfl rfl (Hh.2.1 _ (Nat.le_of_ble_eq_true rfl)) rfl ?_
          obtain ⟨x3_8, e9, hF⟩ := blet_e hF
          refine b_iinc (L' := [(3, .int x3_8), (2, .int (1 : Int32)), (0, .ref 92), (1, .int x1)]) (pc := 88) C dX12_find_88 3 rfl ic_1 e9 (Hh.2.1 _ (Nat.le_of_ble_eq_true rfl)) rfl ?_
          refine b_goto (tgt := 46) (pc := 91) C dX12_find_91 rfl ?_
          exact b_sub [2, 3, 1, 0] rfl (ih x1 (1 : Int32) x3_8 _ _ hF hx)
set_option maxHeartbeats 4000000 in
set_option maxRecDepth 20000 in
theorem e_X12_find_J94_2 {X : bX} {l : Launch} {G : bG} {ρ : Nat → Nat} {A : Nat → Prop} {d : Nat} {r : Int32} {σ' : bSto} (C : bCX X cX12_find RX12 (d + 0)) (Hh : bH X l G bSHf ρ A 4) (Rt : bRX X (some .int) (some (.int r)) σ') {k : Int32 → bSto → Option ((Int32 × bSto) ⊕ (bSto))} (ih : ∀ (x1 : Int32) (σ : bSto) (q : ((Int32 × bSto) ⊕ (bSto))), k x1 σ = some q → (∀ (v : Int32) (s : bSto), q = .inl (v, s) → some (v, s) = some (r, σ')) → (∀  (s : bSto), q = .inr s → bAJ X 106 [] [] s) → bAJ X 2 [(0, .ref 92), (1, .int x1)] [] σ) (x1 : Int32) (x2 : Int32) (σ : bSto) (q : ((Int32 × bSto) ⊕ (bSto))) (hF : f_X12_find_J94_2 k x1 x2 σ = some q) : (∀ (v : Int32) (s : bSto), q = .inl (v, s) → some (v, s) = some (r, σ')) → (∀  (s : bSto), q = .inr s → bAJ X 106 [] [] s) → bAJ X 94 [(0, .ref 92), (1, .int x1), (2, .int x2)] [] σ := by
  intro hr hx
  rw [f_X12_find_J94_2] at hF
  refine b_iload_n (pc := 94) C dX12_find_94 rfl 2 rfl ?_
  refine b_if_eq (tgt := 100) (pc := 95) C dX12_find_95 rfl (fun hc1 => ?_) (fun hc1 => ?_)
  · rw [if_pos hc1] at hF
    obtain ⟨x1_2, e3, hF⟩ := blet_e hF
    refine b_iinc (L' := [(1, .int x1_2), (0, .ref 92), (2, .int x2)]) (pc := 100) C dX12_find_100 1 rfl ic_1 e3 (Hh.2.1 _ (Nat.le_of_ble_eq_true rfl)) rfl ?_
    refine b_goto (tgt := 2) (pc := 103) C dX12_find_103 rfl ?_
    exact b_sub [1, 0] rfl (ih x1_2 _ _ hF hr hx)
  · rw [if_neg hc1] at hF
    refine b_iload_n (pc := 98) C dX12_find_98 rfl 1 rfl ?_
    exact b_iret (pc := 99) C Rt dX12_find_99 (hr _ _ (Option.some.inj hF).symm)
set_option maxHeartbeats 4000000 in
set_option maxRecDepth 20000 in
theorem e_X12_find_J43_2 {X : bX} {l : Launch} {G : bG} {ρ : Nat → Nat} {A : Nat → Prop} {d : Nat} {r : Int32} {σ' : bSto} (C : bCX X cX12_find RX12 (d + 0)) (Hh : bH X l G bSHf ρ A 4) (Rt : bRX X (some .int) (some (.int r)) σ') {k : Int32 → bSto → Option ((Int32 × bSto) ⊕ (bSto))} (ih : ∀ (x1 : Int32) (σ : bSto) (q : ((Int32 × bSto) ⊕ (bSto))), k x1 σ = some q → (∀ (v : Int32) (s : bSto), q = .inl (v, s) → some (v, s) = some (r, σ')) → (∀  (s : bSto), q = .inr s → bAJ X 106 [] [] s) → bAJ X 2 [(0, .ref 92), (1, .int x1)] [] σ) (x1 : Int32) (s0 : Int32) (σ : bSto) (q : ((Int32 × bSto) ⊕ (bSto))) (hF : f_X12_find_J43_2 k x1 s0 σ = some q) : (∀ (v : Int32) (s : bSto), q = .inl (v, s) → some (v, s) = some (r, σ')) → (∀  (s : bSto), q = .inr s → bAJ X 106 [] [] s) → bAJ X 43 [(0, .ref 92), (1, .int x1)] [.int s0] σ := by
  intro hr hx
  rw [f_X12_find_J43_2] at hF
  refine b_istore_n (L' := [(2, .int s0), (0, .ref 92), (1, .int x1)]) (pc := 43) C dX12_find_43 rfl rfl (Hh.2.1 _ (Nat.le_of_ble_eq_true rfl)) rfl ?_
  refine b_iconst (pc := 44) C dX12_find_44 ic_0 ?_
  refine b_istore_n (L' := [(3, .int (0 : Int32)), (2, .int s0), (0, .ref 92), (1, .int x1)]) (pc := 45) C dX12_find_45 rfl rfl (Hh.2.1 _ (Nat.le_of_ble_eq_true rfl)) rfl ?_
  obtain ⟨x1_1, x2_1, σ2, hq1, hF⟩ := bl2_e hF
  refine b_sub [2, 3, 1, 0] rfl (e_X12_find_L46 C Hh Rt bFU x1 s0 (0 : Int32) _ _ hq1 (fun _ _ _ e  => ?_))
  cases e
  exact b_sub [0, 1, 2] rfl (e_X12_find_J94_2 C Hh Rt ih x1_1 x2_1 _ _ hF hr hx)
set_option maxHeartbeats 4000000 in
set_option maxRecDepth 20000 in
theorem e_X12_find_J42_2 {X : bX} {l : Launch} {G : bG} {ρ : Nat → Nat} {A : Nat → Prop} {d : Nat} {r : Int32} {σ' : bSto} (C : bCX X cX12_find RX12 (d + 0)) (Hh : bH X l G bSHf ρ A 4) (Rt : bRX X (some .int) (some (.int r)) σ') {k : Int32 → bSto → Option ((Int32 × bSto) ⊕ (bSto))} (ih : ∀ (x1 : Int32) (σ : bSto) (q : ((Int32 × bSto) ⊕ (bSto))), k x1 σ = some q → (∀ (v : Int32) (s : bSto), q = .inl (v, s) → some (v, s) = some (r, σ')) → (∀  (s : bSto), q = .inr s → bAJ X 106 [] [] s) → bAJ X 2 [(0, .ref 92), (1, .int x1)] [] σ) (x1 : Int32) (σ : bSto) (q : ((Int32 × bSto) ⊕ (bSto))) (hF : f_X12_find_J42_2 k x1 σ = some q) : (∀ (v : Int32) (s : bSto), q = .inl (v, s) → some (v, s) = some (r, σ')) → (∀  (s : bSto), q = .inr s → bAJ X 106 [] [] s) → bAJ X 42 [(0, .ref 92), (1, .int x1)] [] σ := by
  intro hr hx
  rw [f_X12_find_J42_2] at hF
  refine b_iconst (pc := 42) C dX12_find_42 ic_0 ?_
  exact b_sub [0, 1] rfl (e_X12_find_J43_2 C Hh Rt ih x1 (0 : Int32) _ _ hF hr hx)
set_option maxHeartbeats 4000000 in
set_option maxRecDepth 20000 in
theorem e_X12_find_L2 {X : bX} {l : Launch} {G : bG} {ρ : Nat → Nat} {A : Nat → Prop} {d : Nat} {r : Int32} {σ' : bSto} (C : bCX X cX12_find RX12 (d + 0)) (Hh : bH X l G bSHf ρ A 4) (Rt : bRX X (some .int) (some (.int r)) σ') : ∀ (n : Nat) (x1 : Int32) (σ : bSto) (q : ((Int32 × bSto) ⊕ (bSto))), f_X12_find_L2 n x1 σ = some q → (∀ (v : Int32) (s : bSto), q = .inl (v, s) → some (v, s) = some (r, σ')) → (∀  (s : bSto), q = .inr s → bAJ X 106 [] [] s) → bAJ X 2 [(0, .ref 92), (1, .int x1)] [] σ := by
  intro n
  induction n with
  | zero => intro x1 σ q hF; rw [f_X12_find_L2] at hF; cases hF
  | succ n ih =>
    intro x1 σ q hF hr hx
    rw [f_X12_find_L2] at hF
    refine b_iload_n (pc := 2) C dX12_find_2 rfl 1 rfl ?_
    refine b_bipush (pc := 3) C dX12_find_3 bp_13 ?_
    refine b_icmp_ge (tgt := 106) (pc := 5) C dX12_find_5 rfl (fun hc1 => ?_) (fun hc1 => ?_)
    · rw [if_pos hc1] at hF
      exact b_sub [] rfl (hx  _ (Option.some.inj hF).symm )
    · rw [if_neg hc1] at hF
      refine b_aload_n (pc := 8) C dX12_find_8 rfl 0 rfl ?_
      refine b_getS (pc := 9) C dX12_find_9 fl_X12_23 (Hh.1 _ _ sh_92) rfl ?_
      refine b_sipush (pc := 12) C dX12_find_12 sp_289 ?_
      refine b_iload_n (pc := 15) C dX12_find_15 rfl 1 rfl ?_
      refine b_iadd (pc := 16) C dX12_find_16 ?_
      obtain ⟨hb2, hF⟩ := bif_n hF
      refine b_iald (pc := 17) C dX12_find_17 (Hh.1 _ _ sh_96) hb2 ?_
      refine b_if_le (tgt := 42) (pc := 18) C dX12_find_18 rfl (fun hc3 => ?_) (fun hc3 => ?_)
      · rw [if_pos hc3] at hF
        exact b_sub [0, 1] rfl (e_X12_find_J42_2 C Hh Rt ih x1 _ _ hF hr hx)
      · rw [if_neg hc3] at hF
        refine b_aload_n (pc := 21) C dX12_find_21 rfl 0 rfl ?_
        refine b_getS (pc := 22) C dX12_find_22 fl_X12_23 (Hh.1 _ _ sh_92) rfl ?_
        refine b_sipush (pc := 25) C dX12_find_25 sp_289 ?_
        refine b_iload_n (pc := 28) C dX12_find_28 rfl 1 rfl ?_
        refine b_iadd (pc := 29) C dX12_find_29 ?_
        obtain ⟨hb4, hF⟩ := bif_n hF
        refine b_iald (pc := 30) C dX12_find_30 (Hh.1 _ _ sh_96) hb4 ?_
        refine b_aload_n (pc := 31) C dX12_find_31 rfl 0 rfl ?_
        refine b_getI (pc := 32) C dX12_find_32 fl_X12_87 (Hh.1 _ _ sh_92) rfl ?_
        refine b_icmp_ne (tgt := 42) (pc := 35) C dX12_find_35 rfl (fun hc5 => ?_) (fun hc5 => ?_)
        · rw [if_neg hc5] at hF
          exact b_sub [0, 1] rfl (e_X12_find_J42_2 C Hh Rt ih x1 _ _ hF hr hx)
        · rw [if_pos hc5] at hF
          refine b_iconst (pc := 38) C dX12_find_38 ic_1 ?_
          refine b_goto (tgt := 43) (pc := 39) C dX12_find_39 rfl ?_
          exact b_sub [0, 1] rfl (e_X12_find_J43_2 C Hh Rt ih x1 (1 : Int32) _ _ hF hr hx)
set_option maxHeartbeats 4000000 in
set_option maxRecDepth 20000 in
theorem e_X12_find_0 {X : bX} {l : Launch} {G : bG} {ρ : Nat → Nat} {A : Nat → Prop} {d : Nat} {r : Int32} {σ' : bSto} (C : bCX X cX12_find RX12 (d + 0)) (Hh : bH X l G bSHf ρ A 4) (Rt : bRX X (some .int) (some (.int r)) σ')  (σ : bSto) (hF : f_X12_find  σ = some (r, σ')) : bAJ X 0 [(0, .ref 92)] [] σ := by
  rw [f_X12_find] at hF
  refine b_iconst (pc := 0) C dX12_find_0 ic_0 ?_
  refine b_istore_n (L' := [(1, .int (0 : Int32)), (0, .ref 92)]) (pc := 1) C dX12_find_1 rfl rfl (Hh.2.1 _ (Nat.le_of_ble_eq_true rfl)) rfl ?_
  rcases br0_e hF with ⟨v, s, hq1, hF⟩ | ⟨σ2, hq1, hF⟩
  · exact b_sub [1, 0] rfl (e_X12_find_L2 C Hh Rt bFU (0 : Int32) _ _ hq1 (fun v s e => by cases e; exact hF) (fun  _ e => by cases e))
  · refine b_sub [1, 0] rfl (e_X12_find_L2 C Hh Rt bFU (0 : Int32) _ _ hq1 (fun v s e => by cases e) (fun  _ e  => ?_))
    cases e
    refine b_iconst (pc := 106) C dX12_find_106 ic_m1 ?_
    exact b_iret (pc := 107) C Rt dX12_find_107 hF
set_option maxHeartbeats 4000000 in
set_option maxRecDepth 20000 in
theorem e_X12_find {l : Launch} {G : bG} {ρ : Nat → Nat} {A : Nat → Prop} (d : Nat)  (σ : bSto) (r : Int32) (σ' : bSto) (hF : f_X12_find  σ = some (r, σ')) : bEv l G bSHf ρ A yX12_find cX12_find 4 (some .int) (d + 0) [.ref 92] σ (some (.int r)) σ' := b_met (d := d + 0) (by decide +kernel) (Nat.le_of_ble_eq_true rfl) rfl (fun X C Rt h1 h2 h3 => e_X12_find_0 C ⟨fun o q h => by rw [h1]; exact h, fun i h => by rw [h2]; exact h, h3⟩ Rt  _ hF)
/-! BenchColonyModel.newName -/
def f_X12_newName_L45 : Nat → Int32 → Int32 → bSto → Option (Int32 × bSto)
  | 0, _, _, _ => none
  | n + 1, x1, x2, σ => (if (σ.1 92 8) ≤ x2 then some (x1, σ) else if x2 < 0 ∨ 8 ≤ x2.toNatClampNeg then none else if (((302 : Int32) + ((8 : Int32) * x1)) + x2) < 0 ∨ 406 ≤ (((302 : Int32) + ((8 : Int32) * x1)) + x2).toNatClampNeg then none else blet (bI σ 96 (((302 : Int32) + ((8 : Int32) * x1)) + x2).toNatClampNeg (σ.1 94 x2.toNatClampNeg)) (fun σ3 => blet (x2 + (1 : Int32)) (fun x2_6 => f_X12_newName_L45 n x1 x2_6 σ3)))
def f_X12_newName_J35 (x1 : Int32) (σ : bSto) : Option bSto := (if (σ.1 92 13) = 0 then bl1 (f_X12_newName_L45 bFU x1 (0 : Int32) σ) (fun x1_2 σ3 => if ((289 : Int32) + x1_2) < 0 ∨ 406 ≤ ((289 : Int32) + x1_2).toNatClampNeg then none else blet (bI σ3 96 ((289 : Int32) + x1_2).toNatClampNeg (σ3.1 92 8)) (fun σ4 => bbv (f_X12_next  σ4) (fun σ8 => some σ8))) else some σ)
def f_X12_newName (x1 : Int32) (σ : bSto) : Option bSto := (if (σ.1 92 13) = 0 then bbv (f_X12_mustName  σ) (fun σ3 => (if (σ3.1 92 13) = 0 then bbd (f_X12_find  σ3) (fun v7 σ6 => (if v7 < 0 then f_X12_newName_J35 x1 σ6 else bbv (f_X12_wrong (3 : Int32) (σ6.1 92 4) σ6) (fun σ10 => f_X12_newName_J35 x1 σ10))) else f_X12_newName_J35 x1 σ3)) else some σ)
set_option maxHeartbeats 4000000 in
set_option maxRecDepth 20000 in
theorem e_X12_newName_L45 {X : bX} {l : Launch} {G : bG} {ρ : Nat → Nat} {A : Nat → Prop} {d : Nat} {σ' : bSto} (C : bCX X cX12_newName RX12 (d + 7)) (Hh : bH X l G bSHf ρ A 3) (Rt : bRX X none none σ') : ∀ (n : Nat) (x1 : Int32) (x2 : Int32) (σ : bSto) (q : (Int32 × bSto)), f_X12_newName_L45 n x1 x2 σ = some q → (∀ (x1 : Int32) (s : bSto), q = (x1, s) → bAJ X 80 [(0, .ref 92), (1, .int x1)] [] s) → bAJ X 45 [(0, .ref 92), (1, .int x1), (2, .int x2)] [] σ := by
  intro n
  induction n with
  | zero => intro x1 x2 σ q hF; rw [f_X12_newName_L45] at hF; cases hF
  | succ n ih =>
    intro x1 x2 σ q hF hx
    rw [f_X12_newName_L45] at hF
    refine b_iload_n (pc := 45) C dX12_newName_45 rfl 2 rfl ?_
    refine b_aload_n (pc := 46) C dX12_newName_46 rfl 0 rfl ?_
    refine b_getI (pc := 47) C dX12_newName_47 fl_X12_87 (Hh.1 _ _ sh_92) rfl ?_
    refine b_icmp_ge (tgt := 80) (pc := 50) C dX12_newName_50 rfl (fun hc1 => ?_) (fun hc1 => ?_)
    · rw [if_pos hc1] at hF
      exact b_sub [0, 1] rfl (hx _ _ (Option.some.inj hF).symm )
    · rw [if_neg hc1] at hF
      refine b_aload_n (pc := 53) C dX12_newName_53 rfl 0 rfl ?_
      refine b_getS (pc := 54) C dX12_newName_54 fl_X12_23 (Hh.1 _ _ sh_92) rfl ?_
      refine b_sipush (pc := 57) C dX12_newName_57 sp_302 ?_
      refine b_bipush (pc := 60) C dX12_newName_60 bp_8 ?_
      refine b_iload_n (pc := 62) C dX12_newName_62 rfl 1 rfl ?_
      refine b_imul (pc := 63) C dX12_newName_63 ?_
      refine b_iadd (pc := 64) C dX12_newName_64 ?_
      refine b_iload_n (pc := 65) C dX12_newName_65 rfl 2 rfl ?_
      refine b_iadd (pc := 66) C dX12_newName_66 ?_
      refine b_aload_n (pc := 67) C dX12_newName_67 rfl 0 rfl ?_
      refine b_getS (pc := 68) C dX12_newName_68 fl_X12_17 (Hh.1 _ _ sh_92) rfl ?_
      refine b_iload_n (pc := 71) C dX12_newName_71 rfl 2 rfl ?_
      obtain ⟨hb2, hF⟩ := bif_n hF
      refine b_iald (pc := 72) C dX12_newName_72 (Hh.1 _ _ sh_94) hb2 ?_
      obtain ⟨hb5, hF⟩ := bif_n hF
      obtain ⟨σ3, e4, hF⟩ := blet_e hF
      refine b_iast (pc := 73) C dX12_newName_73 (Hh.1 _ _ sh_96) hb5 e4 ?_
      obtain ⟨x2_6, e7, hF⟩ := blet_e hF
      refine b_iinc (L' := [(2, .int x2_6), (0, .ref 92), (1, .int x1)]) (pc := 74) C dX12_newName_74 2 rfl ic_1 e7 (Hh.2.1 _ (Nat.le_of_ble_eq_true rfl)) rfl ?_
      refine b_goto (tgt := 45) (pc := 77) C dX12_newName_77 rfl ?_
      exact b_sub [1, 2, 0] rfl (ih x1 x2_6 _ _ hF hx)
set_option maxHeartbeats 4000000 in
set_option maxRecDepth 20000 in
theorem e_X12_newName_J35 {X : bX} {l : Launch} {G : bG} {ρ : Nat → Nat} {A : Nat → Prop} {d : Nat} {σ' : bSto} (C : bCX X cX12_newName RX12 (d + 7)) (Hh : bH X l G bSHf ρ A 3) (Rt : bRX X none none σ') (x1 : Int32) (σ : bSto) (hF : f_X12_newName_J35 x1 σ = some σ') : bAJ X 35 [(0, .ref 92), (1, .int x1)] [] σ := by
  rw [f_X12_newName_J35] at hF
  refine b_aload_n (pc := 35) C dX12_newName_35 rfl 0 rfl ?_
  refine b_getI (pc := 36) C dX12_newName_36 fl_X12_103 (Hh.1 _ _ sh_92) rfl ?_
  refine b_if_eq (tgt := 43) (pc := 39) C dX12_newName_39 rfl (fun hc1 => ?_) (fun hc1 => ?_)
  · rw [if_pos hc1] at hF
    refine b_iconst (pc := 43) C dX12_newName_43 ic_0 ?_
    refine b_istore_n (L' := [(2, .int (0 : Int32)), (0, .ref 92), (1, .int x1)]) (pc := 44) C dX12_newName_44 rfl rfl (Hh.2.1 _ (Nat.le_of_ble_eq_true rfl)) rfl ?_
    obtain ⟨x1_2, σ3, hq2, hF⟩ := bl1_e hF
    refine b_sub [1, 2, 0] rfl (e_X12_newName_L45 C Hh Rt bFU x1 (0 : Int32) _ _ hq2 (fun _ _ e  => ?_))
    cases e
    refine b_aload_n (pc := 80) C dX12_newName_80 rfl 0 rfl ?_
    refine b_getS (pc := 81) C dX12_newName_81 fl_X12_23 (Hh.1 _ _ sh_92) rfl ?_
    refine b_sipush (pc := 84) C dX12_newName_84 sp_289 ?_
    refine b_iload_n (pc := 87) C dX12_newName_87 rfl 1 rfl ?_
    refine b_iadd (pc := 88) C dX12_newName_88 ?_
    refine b_aload_n (pc := 89) C dX12_newName_89 rfl 0 rfl ?_
    refine b_getI (pc := 90) C dX12_newName_90 fl_X12_87 (Hh.1 _ _ sh_92) rfl ?_
    obtain ⟨hb6, hF⟩ := bif_n hF
    obtain ⟨σ4, e5, hF⟩ := blet_e hF
    refine b_iast (pc := 93) C dX12_newName_93 (Hh.1 _ _ sh_96) hb6 e5 ?_
    refine b_aload_n (pc := 94) C dX12_newName_94 rfl 0 rfl ?_
    obtain ⟨σ8, hc7, hF⟩ := bbv_e hF
    refine b_cV0v (d' := (d + 6)) (pc := 95) C dX12_newName_95 mm_X12_124 (Hh.1 _ _ sh_92) rfl (Nat.le_of_ble_eq_true rfl) (by omega) (Hh.2.2 _ _ _ _ _ _ _ _ _ (lvl_eq (by omega) (e_X12_next (d + 5)  _ _ hc7))) ?_
    exact b_vret (pc := 98) C Rt dX12_newName_98 hF
  · rw [if_neg hc1] at hF
    exact b_vret (pc := 42) C Rt dX12_newName_42 hF
set_option maxHeartbeats 4000000 in
set_option maxRecDepth 20000 in
theorem e_X12_newName_0 {X : bX} {l : Launch} {G : bG} {ρ : Nat → Nat} {A : Nat → Prop} {d : Nat} {σ' : bSto} (C : bCX X cX12_newName RX12 (d + 7)) (Hh : bH X l G bSHf ρ A 3) (Rt : bRX X none none σ') (x1 : Int32) (σ : bSto) (hF : f_X12_newName x1 σ = some σ') : bAJ X 0 [(0, .ref 92), (1, .int x1)] [] σ := by
  rw [f_X12_newName] at hF
  refine b_aload_n (pc := 0) C dX12_newName_0 rfl 0 rfl ?_
  refine b_getI (pc := 1) C dX12_newName_1 fl_X12_103 (Hh.1 _ _ sh_92) rfl ?_
  refine b_if_eq (tgt := 8) (pc := 4) C dX12_newName_4 rfl (fun hc1 => ?_) (fun hc1 => ?_)
  · rw [if_pos hc1] at hF
    refine b_aload_n (pc := 8) C dX12_newName_8 rfl 0 rfl ?_
    obtain ⟨σ3, hc2, hF⟩ := bbv_e hF
    refine b_cV0v (d' := (d + 6)) (pc := 9) C dX12_newName_9 mm_X12_154 (Hh.1 _ _ sh_92) rfl (Nat.le_of_ble_eq_true rfl) (by omega) (Hh.2.2 _ _ _ _ _ _ _ _ _ (lvl_eq (by omega) (e_X12_mustName (d + 0)  _ _ hc2))) ?_
    refine b_aload_n (pc := 12) C dX12_newName_12 rfl 0 rfl ?_
    refine b_getI (pc := 13) C dX12_newName_13 fl_X12_103 (Hh.1 _ _ sh_92) rfl ?_
    refine b_if_ne (tgt := 35) (pc := 16) C dX12_newName_16 rfl (fun hc4 => ?_) (fun hc4 => ?_)
    · rw [if_neg hc4] at hF
      exact b_sub [0, 1] rfl (e_X12_newName_J35 C Hh Rt x1 _ hF)
    · rw [if_pos hc4] at hF
      refine b_aload_n (pc := 19) C dX12_newName_19 rfl 0 rfl ?_
      obtain ⟨v7, σ6, hc5, hF⟩ := bbd_e hF
      refine b_cV0i (d' := (d + 6)) (pc := 20) C dX12_newName_20 mm_X12_157 (Hh.1 _ _ sh_92) rfl (Nat.le_of_ble_eq_true rfl) (by omega) (Hh.2.2 _ _ _ _ _ _ _ _ _ (lvl_eq (by omega) (e_X12_find (d + 6)  _ _ _ hc5))) ?_
      refine b_if_lt (tgt := 35) (pc := 23) C dX12_newName_23 rfl (fun hc8 => ?_) (fun hc8 => ?_)
      · rw [if_pos hc8] at hF
        exact b_sub [0, 1] rfl (e_X12_newName_J35 C Hh Rt x1 _ hF)
      · rw [if_neg hc8] at hF
        refine b_aload_n (pc := 26) C dX12_newName_26 rfl 0 rfl ?_
        refine b_iconst (pc := 27) C dX12_newName_27 ic_3 ?_
        refine b_aload_n (pc := 28) C dX12_newName_28 rfl 0 rfl ?_
        refine b_getI (pc := 29) C dX12_newName_29 fl_X12_84 (Hh.1 _ _ sh_92) rfl ?_
        obtain ⟨σ10, hc9, hF⟩ := bbv_e hF
        refine b_cV2v (d' := (d + 6)) (pc := 32) C dX12_newName_32 mm_X12_130 (Hh.1 _ _ sh_92) rfl (Nat.le_of_ble_eq_true rfl) (by omega) (Hh.2.2 _ _ _ _ _ _ _ _ _ (lvl_eq (by omega) (e_X12_wrong (d + 6) (3 : Int32) (σ6.1 92 4) _ _ hc9))) ?_
        exact b_sub [0, 1] rfl (e_X12_newName_J35 C Hh Rt x1 _ hF)
  · rw [if_neg hc1] at hF
    exact b_vret (pc := 7) C Rt dX12_newName_7 hF
set_option maxHeartbeats 4000000 in
set_option maxRecDepth 20000 in
theorem e_X12_newName {l : Launch} {G : bG} {ρ : Nat → Nat} {A : Nat → Prop} (d : Nat) (x1 : Int32) (σ : bSto) (σ' : bSto) (hF : f_X12_newName x1 σ = some σ') : bEv l G bSHf ρ A yX12_newName cX12_newName 3 none (d + 7) [.ref 92, .int x1] σ none σ' := b_met (d := d + 7) (by decide +kernel) (Nat.le_of_ble_eq_true rfl) rfl (fun X C Rt h1 h2 h3 => e_X12_newName_0 C ⟨fun o q h => by rw [h1]; exact h, fun i h => by rw [h2]; exact h, h3⟩ Rt _ _ hF)
/-! BenchColonyModel.named -/
def f_X12_named_J45 (x1 : Int32) (x3 : Int32) (σ : bSto) : Option (Int32 × bSto) := (if (σ.1 92 13) = 0 then some ((x3 - x1), σ) else some ((0 : Int32), σ))
def f_X12_named (x1 : Int32) (x2 : Int32) (σ : bSto) : Option (Int32 × bSto) := (if (σ.1 92 13) = 0 then bbv (f_X12_mustName  σ) (fun σ3 => (if (σ3.1 92 13) = 0 then bbd (f_X12_find  σ3) (fun v7 σ6 => bbd (f_X12_in v7 x1 x2 σ6) (fun v10 σ9 => (if v10 = 0 then bbv (f_X12_wrong (2 : Int32) (σ9.1 92 4) σ9) (fun σ13 => f_X12_named_J45 x1 v7 σ13) else f_X12_named_J45 x1 v7 σ9))) else some ((0 : Int32), σ3))) else some ((0 : Int32), σ))
set_option maxHeartbeats 4000000 in
set_option maxRecDepth 20000 in
theorem e_X12_named_J45 {X : bX} {l : Launch} {G : bG} {ρ : Nat → Nat} {A : Nat → Prop} {d : Nat} {r : Int32} {σ' : bSto} (C : bCX X cX12_named RX12 (d + 7)) (Hh : bH X l G bSHf ρ A 4) (Rt : bRX X (some .int) (some (.int r)) σ') (x1 : Int32) (x3 : Int32) (σ : bSto) (hF : f_X12_named_J45 x1 x3 σ = some (r, σ')) : bAJ X 45 [(0, .ref 92), (1, .int x1), (3, .int x3)] [] σ := by
  rw [f_X12_named_J45] at hF
  refine b_aload_n (pc := 45) C dX12_named_45 rfl 0 rfl ?_
  refine b_getI (pc := 46) C dX12_named_46 fl_X12_103 (Hh.1 _ _ sh_92) rfl ?_
  refine b_if_eq (tgt := 56) (pc := 49) C dX12_named_49 rfl (fun hc1 => ?_) (fun hc1 => ?_)
  · rw [if_pos hc1] at hF
    refine b_iload_n (pc := 56) C dX12_named_56 rfl 2 rfl ?_
    refine b_iload_n (pc := 57) C dX12_named_57 rfl 1 rfl ?_
    refine b_isub (pc := 58) C dX12_named_58 ?_
    exact b_iret (pc := 59) C Rt dX12_named_59 hF
  · rw [if_neg hc1] at hF
    refine b_iconst (pc := 52) C dX12_named_52 ic_0 ?_
    refine b_goto (tgt := 59) (pc := 53) C dX12_named_53 rfl ?_
    exact b_iret (pc := 59) C Rt dX12_named_59 hF
set_option maxHeartbeats 4000000 in
set_option maxRecDepth 20000 in
theorem e_X12_named_0 {X : bX} {l : Launch} {G : bG} {ρ : Nat → Nat} {A : Nat → Prop} {d : Nat} {r : Int32} {σ' : bSto} (C : bCX X cX12_named RX12 (d + 7)) (Hh : bH X l G bSHf ρ A 4) (Rt : bRX X (some .int) (some (.int r)) σ') (x1 : Int32) (x2 : Int32) (σ : bSto) (hF : f_X12_named x1 x2 σ = some (r, σ')) : bAJ X 0 [(0, .ref 92), (1, .int x1), (2, .int x2)] [] σ := by
  rw [f_X12_named] at hF
  refine b_aload_n (pc := 0) C dX12_named_0 rfl 0 rfl ?_
  refine b_getI (pc := 1) C dX12_named_1 fl_X12_103 (Hh.1 _ _ sh_92) rfl ?_
  refine b_if_eq (tgt := 9) (pc := 4) C dX12_named_4 rfl (fun hc1 => ?_) (fun hc1 => ?_)
  · rw [if_pos hc1] at hF
    refine b_aload_n (pc := 9) C dX12_named_9 rfl 0 rfl ?_
    obtain ⟨σ3, hc2, hF⟩ := bbv_e hF
    refine b_cV0v (d' := (d + 6)) (pc := 10) C dX12_named_10 mm_X12_154 (Hh.1 _ _ sh_92) rfl (Nat.le_of_ble_eq_true rfl) (by omega) (Hh.2.2 _ _ _ _ _ _ _ _ _ (lvl_eq (by omega) (e_X12_mustName (d + 0)  _ _ hc2))) ?_
    refine b_aload_n (pc := 13) C dX12_named_13 rfl 0 rfl ?_
    refine b_getI (pc := 14) C dX12_named_14 fl_X12_103 (Hh.1 _ _ sh_92) rfl ?_
    refine b_if_eq (tgt := 22) (pc := 17) C dX12_named_17 rfl (fun hc4 => ?_) (fun hc4 => ?_)
    · rw [if_pos hc4] at hF
      refine b_aload_n (pc := 22) C dX12_named_22 rfl 0 rfl ?_
      obtain ⟨v7, σ6, hc5, hF⟩ := bbd_e hF
      refine b_cV0i (d' := (d + 6)) (pc := 23) C dX12_named_23 mm_X12_157 (Hh.1 _ _ sh_92) rfl (Nat.le_of_ble_eq_true rfl) (by omega) (Hh.2.2 _ _ _ _ _ _ _ _ _ (lvl_eq (by omega) (e_X12_find (d + 6)  _ _ _ hc5))) ?_
      refine b_istore_n (L' := [(3, .int v7), (0, .ref 92), (1, .int x1), (2, .int x2)]) (pc := 26) C dX12_named_26 rfl rfl (Hh.2.1 _ (Nat.le_of_ble_eq_true rfl)) rfl ?_
      refine b_iload_n (pc := 27) C dX12_named_27 rfl 0 rfl ?_
      refine b_iload_n (pc := 28) C dX12_named_28 rfl 2 rfl ?_
      refine b_iload_n (pc := 29) C dX12_named_29 rfl 3 rfl ?_
      obtain ⟨v10, σ9, hc8, hF⟩ := bbd_e hF
      refine b_cS3i (d' := (d + 6)) (pc := 30) C dX12_named_30 mm_X12_160 (Nat.le_of_ble_eq_true rfl) (by omega) (Hh.2.2 _ _ _ _ _ _ _ _ _ (lvl_eq (by omega) (e_X12_in (d + 6) v7 x1 x2 _ _ _ hc8))) ?_
      refine b_if_ne (tgt := 45) (pc := 33) C dX12_named_33 rfl (fun hc11 => ?_) (fun hc11 => ?_)
      · rw [if_neg hc11] at hF
        exact b_sub [1, 2, 0] rfl (e_X12_named_J45 C Hh Rt x1 v7 _ hF)
      · rw [if_pos hc11] at hF
        refine b_aload_n (pc := 36) C dX12_named_36 rfl 1 rfl ?_
        refine b_iconst (pc := 37) C dX12_named_37 ic_2 ?_
        refine b_aload_n (pc := 38) C dX12_named_38 rfl 1 rfl ?_
        refine b_getI (pc := 39) C dX12_named_39 fl_X12_84 (Hh.1 _ _ sh_92) rfl ?_
        obtain ⟨σ13, hc12, hF⟩ := bbv_e hF
        refine b_cV2v (d' := (d + 6)) (pc := 42) C dX12_named_42 mm_X12_130 (Hh.1 _ _ sh_92) rfl (Nat.le_of_ble_eq_true rfl) (by omega) (Hh.2.2 _ _ _ _ _ _ _ _ _ (lvl_eq (by omega) (e_X12_wrong (d + 6) (2 : Int32) (σ9.1 92 4) _ _ hc12))) ?_
        exact b_sub [1, 2, 0] rfl (e_X12_named_J45 C Hh Rt x1 v7 _ hF)
    · rw [if_neg hc4] at hF
      refine b_iconst (pc := 20) C dX12_named_20 ic_0 ?_
      exact b_iret (pc := 21) C Rt dX12_named_21 hF
  · rw [if_neg hc1] at hF
    refine b_iconst (pc := 7) C dX12_named_7 ic_0 ?_
    exact b_iret (pc := 8) C Rt dX12_named_8 hF
set_option maxHeartbeats 4000000 in
set_option maxRecDepth 20000 in
theorem e_X12_named {l : Launch} {G : bG} {ρ : Nat → Nat} {A : Nat → Prop} (d : Nat) (x1 : Int32) (x2 : Int32) (σ : bSto) (r : Int32) (σ' : bSto) (hF : f_X12_named x1 x2 σ = some (r, σ')) : bEv l G bSHf ρ A yX12_named cX12_named 4 (some .int) (d + 7) [.ref 92, .int x1, .int x2] σ (some (.int r)) σ' := b_met (d := d + 7) (by decide +kernel) (Nat.le_of_ble_eq_true rfl) rfl (fun X C Rt h1 h2 h3 => e_X12_named_0 C ⟨fun o q h => by rw [h1]; exact h, fun i h => by rw [h2]; exact h, h3⟩ Rt _ _ _ hF)
/-! BenchColonyModel.personHere -/
def f_X12_personHere  (σ : bSto) : Option (Int32 × bSto) := bbd (f_X12_named (6 : Int32) (12 : Int32) σ) (fun v3 σ2 => some (v3, σ2))
set_option maxHeartbeats 4000000 in
set_option maxRecDepth 20000 in
theorem e_X12_personHere_0 {X : bX} {l : Launch} {G : bG} {ρ : Nat → Nat} {A : Nat → Prop} {d : Nat} {r : Int32} {σ' : bSto} (C : bCX X cX12_personHere RX12 (d + 8)) (Hh : bH X l G bSHf ρ A 1) (Rt : bRX X (some .int) (some (.int r)) σ')  (σ : bSto) (hF : f_X12_personHere  σ = some (r, σ')) : bAJ X 0 [(0, .ref 92)] [] σ := by
  rw [f_X12_personHere] at hF
  refine b_aload_n (pc := 0) C dX12_personHere_0 rfl 0 rfl ?_
  refine b_bipush (pc := 1) C dX12_personHere_1 bp_6 ?_
  refine b_bipush (pc := 3) C dX12_personHere_3 bp_12 ?_
  obtain ⟨v3, σ2, hc1, hF⟩ := bbd_e hF
  refine b_cV2i (d' := (d + 7)) (pc := 5) C dX12_personHere_5 mm_X12_164 (Hh.1 _ _ sh_92) rfl (Nat.le_of_ble_eq_true rfl) (by omega) (Hh.2.2 _ _ _ _ _ _ _ _ _ (lvl_eq (by omega) (e_X12_named (d + 0) (6 : Int32) (12 : Int32) _ _ _ hc1))) ?_
  exact b_iret (pc := 8) C Rt dX12_personHere_8 hF
set_option maxHeartbeats 4000000 in
set_option maxRecDepth 20000 in
theorem e_X12_personHere {l : Launch} {G : bG} {ρ : Nat → Nat} {A : Nat → Prop} (d : Nat)  (σ : bSto) (r : Int32) (σ' : bSto) (hF : f_X12_personHere  σ = some (r, σ')) : bEv l G bSHf ρ A yX12_personHere cX12_personHere 1 (some .int) (d + 8) [.ref 92] σ (some (.int r)) σ' := b_met (d := d + 8) (by decide +kernel) (Nat.le_of_ble_eq_true rfl) rfl (fun X C Rt h1 h2 h3 => e_X12_personHere_0 C ⟨fun o q h => by rw [h1]; exact h, fun i h => by rw [h2]; exact h, h3⟩ Rt  _ hF)
/-! BenchColonyModel.personPassed -/
def f_X12_personPassed  (σ : bSto) : Option (Int32 × bSto) := bbd (f_X12_personHere  σ) (fun v3 σ2 => (if (σ2.1 92 13) = 0 then bbv (f_X12_next  σ2) (fun σ6 => some (v3, σ6)) else some (v3, σ2)))
set_option maxHeartbeats 4000000 in
set_option maxRecDepth 20000 in
theorem e_X12_personPassed_0 {X : bX} {l : Launch} {G : bG} {ρ : Nat → Nat} {A : Nat → Prop} {d : Nat} {r : Int32} {σ' : bSto} (C : bCX X cX12_personPassed RX12 (d + 9)) (Hh : bH X l G bSHf ρ A 2) (Rt : bRX X (some .int) (some (.int r)) σ')  (σ : bSto) (hF : f_X12_personPassed  σ = some (r, σ')) : bAJ X 0 [(0, .ref 92)] [] σ := by
  rw [f_X12_personPassed] at hF
  refine b_aload_n (pc := 0) C dX12_personPassed_0 rfl 0 rfl ?_
  obtain ⟨v3, σ2, hc1, hF⟩ := bbd_e hF
  refine b_cV0i (d' := (d + 8)) (pc := 1) C dX12_personPassed_1 mm_X12_168 (Hh.1 _ _ sh_92) rfl (Nat.le_of_ble_eq_true rfl) (by omega) (Hh.2.2 _ _ _ _ _ _ _ _ _ (lvl_eq (by omega) (e_X12_personHere (d + 0)  _ _ _ hc1))) ?_
  refine b_istore_n (L' := [(1, .int v3), (0, .ref 92)]) (pc := 4) C dX12_personPassed_4 rfl rfl (Hh.2.1 _ (Nat.le_of_ble_eq_true rfl)) rfl ?_
  refine b_aload_n (pc := 5) C dX12_personPassed_5 rfl 1 rfl ?_
  refine b_getI (pc := 6) C dX12_personPassed_6 fl_X12_103 (Hh.1 _ _ sh_92) rfl ?_
  refine b_if_ne (tgt := 16) (pc := 9) C dX12_personPassed_9 rfl (fun hc4 => ?_) (fun hc4 => ?_)
  · rw [if_neg hc4] at hF
    refine b_iload_n (pc := 16) C dX12_personPassed_16 rfl 0 rfl ?_
    exact b_iret (pc := 17) C Rt dX12_personPassed_17 hF
  · rw [if_pos hc4] at hF
    refine b_aload_n (pc := 12) C dX12_personPassed_12 rfl 1 rfl ?_
    obtain ⟨σ6, hc5, hF⟩ := bbv_e hF
    refine b_cV0v (d' := (d + 8)) (pc := 13) C dX12_personPassed_13 mm_X12_124 (Hh.1 _ _ sh_92) rfl (Nat.le_of_ble_eq_true rfl) (by omega) (Hh.2.2 _ _ _ _ _ _ _ _ _ (lvl_eq (by omega) (e_X12_next (d + 7)  _ _ hc5))) ?_
    refine b_iload_n (pc := 16) C dX12_personPassed_16 rfl 0 rfl ?_
    exact b_iret (pc := 17) C Rt dX12_personPassed_17 hF
set_option maxHeartbeats 4000000 in
set_option maxRecDepth 20000 in
theorem e_X12_personPassed {l : Launch} {G : bG} {ρ : Nat → Nat} {A : Nat → Prop} (d : Nat)  (σ : bSto) (r : Int32) (σ' : bSto) (hF : f_X12_personPassed  σ = some (r, σ')) : bEv l G bSHf ρ A yX12_personPassed cX12_personPassed 2 (some .int) (d + 9) [.ref 92] σ (some (.int r)) σ' := b_met (d := d + 9) (by decide +kernel) (Nat.le_of_ble_eq_true rfl) rfl (fun X C Rt h1 h2 h3 => e_X12_personPassed_0 C ⟨fun o q h => by rw [h1]; exact h, fun i h => by rw [h2]; exact h, h3⟩ Rt  _ hF)
/-! BenchColonyModel.numberHere -/
def f_X12_numberHere_J50 (x1 : Int32) (σ : bSto) : Option (Int32 × bSto) := (if (σ.1 92 13) = 0 then some ((σ.1 92 7), σ) else some (x1, σ))
def f_X12_numberHere (x1 : Int32) (x2 : Int32) (σ : bSto) : Option (Int32 × bSto) := (if (σ.1 92 13) = 0 then (if (σ.1 92 6) = (3 : Int32) then bbd (f_X12_in (σ.1 92 7) x1 x2 σ) (fun v5 σ4 => (if v5 = 0 then bbv (f_X12_wrong (4 : Int32) (σ4.1 92 4) σ4) (fun σ8 => f_X12_numberHere_J50 x1 σ8) else f_X12_numberHere_J50 x1 σ4)) else bbv (f_X12_wrong (1 : Int32) (σ.1 92 4) σ) (fun σ10 => f_X12_numberHere_J50 x1 σ10)) else some (x1, σ))
set_option maxHeartbeats 4000000 in
set_option maxRecDepth 20000 in
theorem e_X12_numberHere_J50 {X : bX} {l : Launch} {G : bG} {ρ : Nat → Nat} {A : Nat → Prop} {d : Nat} {r : Int32} {σ' : bSto} (C : bCX X cX12_numberHere RX12 (d + 1)) (Hh : bH X l G bSHf ρ A 3) (Rt : bRX X (some .int) (some (.int r)) σ') (x1 : Int32) (σ : bSto) (hF : f_X12_numberHere_J50 x1 σ = some (r, σ')) : bAJ X 50 [(0, .ref 92), (1, .int x1)] [] σ := by
  rw [f_X12_numberHere_J50] at hF
  refine b_aload_n (pc := 50) C dX12_numberHere_50 rfl 0 rfl ?_
  refine b_getI (pc := 51) C dX12_numberHere_51 fl_X12_103 (Hh.1 _ _ sh_92) rfl ?_
  refine b_if_eq (tgt := 61) (pc := 54) C dX12_numberHere_54 rfl (fun hc1 => ?_) (fun hc1 => ?_)
  · rw [if_pos hc1] at hF
    refine b_aload_n (pc := 61) C dX12_numberHere_61 rfl 0 rfl ?_
    refine b_getI (pc := 62) C dX12_numberHere_62 fl_X12_90 (Hh.1 _ _ sh_92) rfl ?_
    exact b_iret (pc := 65) C Rt dX12_numberHere_65 hF
  · rw [if_neg hc1] at hF
    refine b_iload_n (pc := 57) C dX12_numberHere_57 rfl 1 rfl ?_
    refine b_goto (tgt := 65) (pc := 58) C dX12_numberHere_58 rfl ?_
    exact b_iret (pc := 65) C Rt dX12_numberHere_65 hF
set_option maxHeartbeats 4000000 in
set_option maxRecDepth 20000 in
theorem e_X12_numberHere_0 {X : bX} {l : Launch} {G : bG} {ρ : Nat → Nat} {A : Nat → Prop} {d : Nat} {r : Int32} {σ' : bSto} (C : bCX X cX12_numberHere RX12 (d + 1)) (Hh : bH X l G bSHf ρ A 3) (Rt : bRX X (some .int) (some (.int r)) σ') (x1 : Int32) (x2 : Int32) (σ : bSto) (hF : f_X12_numberHere x1 x2 σ = some (r, σ')) : bAJ X 0 [(0, .ref 92), (1, .int x1), (2, .int x2)] [] σ := by
  rw [f_X12_numberHere] at hF
  refine b_aload_n (pc := 0) C dX12_numberHere_0 rfl 0 rfl ?_
  refine b_getI (pc := 1) C dX12_numberHere_1 fl_X12_103 (Hh.1 _ _ sh_92) rfl ?_
  refine b_if_eq (tgt := 9) (pc := 4) C dX12_numberHere_4 rfl (fun hc1 => ?_) (fun hc1 => ?_)
  · rw [if_pos hc1] at hF
    refine b_aload_n (pc := 9) C dX12_numberHere_9 rfl 0 rfl ?_
    refine b_getI (pc := 10) C dX12_numberHere_10 fl_X12_93 (Hh.1 _ _ sh_92) rfl ?_
    refine b_iconst (pc := 13) C dX12_numberHere_13 ic_3 ?_
    refine b_icmp_eq (tgt := 29) (pc := 14) C dX12_numberHere_14 rfl (fun hc2 => ?_) (fun hc2 => ?_)
    · rw [if_pos hc2] at hF
      refine b_aload_n (pc := 29) C dX12_numberHere_29 rfl 0 rfl ?_
      refine b_getI (pc := 30) C dX12_numberHere_30 fl_X12_90 (Hh.1 _ _ sh_92) rfl ?_
      refine b_iload_n (pc := 33) C dX12_numberHere_33 rfl 1 rfl ?_
      refine b_iload_n (pc := 34) C dX12_numberHere_34 rfl 2 rfl ?_
      obtain ⟨v5, σ4, hc3, hF⟩ := bbd_e hF
      refine b_cS3i (d' := (d + 0)) (pc := 35) C dX12_numberHere_35 mm_X12_160 (Nat.le_of_ble_eq_true rfl) (by omega) (Hh.2.2 _ _ _ _ _ _ _ _ _ (lvl_eq (by omega) (e_X12_in (d + 0) (σ.1 92 7) x1 x2 _ _ _ hc3))) ?_
      refine b_if_ne (tgt := 50) (pc := 38) C dX12_numberHere_38 rfl (fun hc6 => ?_) (fun hc6 => ?_)
      · rw [if_neg hc6] at hF
        exact b_sub [0, 1] rfl (e_X12_numberHere_J50 C Hh Rt x1 _ hF)
      · rw [if_pos hc6] at hF
        refine b_aload_n (pc := 41) C dX12_numberHere_41 rfl 0 rfl ?_
        refine b_iconst (pc := 42) C dX12_numberHere_42 ic_4 ?_
        refine b_aload_n (pc := 43) C dX12_numberHere_43 rfl 0 rfl ?_
        refine b_getI (pc := 44) C dX12_numberHere_44 fl_X12_84 (Hh.1 _ _ sh_92) rfl ?_
        obtain ⟨σ8, hc7, hF⟩ := bbv_e hF
        refine b_cV2v (d' := (d + 0)) (pc := 47) C dX12_numberHere_47 mm_X12_130 (Hh.1 _ _ sh_92) rfl (Nat.le_of_ble_eq_true rfl) (by omega) (Hh.2.2 _ _ _ _ _ _ _ _ _ (lvl_eq (by omega) (e_X12_wrong (d + 0) (4 : Int32) (σ4.1 92 4) _ _ hc7))) ?_
        exact b_sub [0, 1] rfl (e_X12_numberHere_J50 C Hh Rt x1 _ hF)
    · rw [if_neg hc2] at hF
      refine b_aload_n (pc := 17) C dX12_numberHere_17 rfl 0 rfl ?_
      refine b_iconst (pc := 18) C dX12_numberHere_18 ic_1 ?_
      refine b_aload_n (pc := 19) C dX12_numberHere_19 rfl 0 rfl ?_
      refine b_getI (pc := 20) C dX12_numberHere_20 fl_X12_84 (Hh.1 _ _ sh_92) rfl ?_
      obtain ⟨σ10, hc9, hF⟩ := bbv_e hF
      refine b_cV2v (d' := (d + 0)) (pc := 23) C dX12_numberHere_23 mm_X12_130 (Hh.1 _ _ sh_92) rfl (Nat.le_of_ble_eq_true rfl) (by omega) (Hh.2.2 _ _ _ _ _ _ _ _ _ (lvl_eq (by omega) (e_X12_wrong (d + 0) (1 : Int32) (σ.1 92 4) _ _ hc9))) ?_
      refine b_goto (tgt := 50) (pc := 26) C dX12_numberHere_26 rfl ?_
      exact b_sub [0, 1] rfl (e_X12_numberHere_J50 C Hh Rt x1 _ hF)
  · rw [if_neg hc1] at hF
    refine b_iload_n (pc := 7) C dX12_numberHere_7 rfl 1 rfl ?_
    exact b_iret (pc := 8) C Rt dX12_numberHere_8 hF
set_option maxHeartbeats 4000000 in
set_option maxRecDepth 20000 in
theorem e_X12_numberHere {l : Launch} {G : bG} {ρ : Nat → Nat} {A : Nat → Prop} (d : Nat) (x1 : Int32) (x2 : Int32) (σ : bSto) (r : Int32) (σ' : bSto) (hF : f_X12_numberHere x1 x2 σ = some (r, σ')) : bEv l G bSHf ρ A yX12_numberHere cX12_numberHere 3 (some .int) (d + 1) [.ref 92, .int x1, .int x2] σ (some (.int r)) σ' := b_met (d := d + 1) (by decide +kernel) (Nat.le_of_ble_eq_true rfl) rfl (fun X C Rt h1 h2 h3 => e_X12_numberHere_0 C ⟨fun o q h => by rw [h1]; exact h, fun i h => by rw [h2]; exact h, h3⟩ Rt _ _ _ hF)
/-! BenchColonyModel.number -/
def f_X12_number (x1 : Int32) (x2 : Int32) (σ : bSto) : Option (Int32 × bSto) := bbd (f_X12_numberHere x1 x2 σ) (fun v3 σ2 => (if (σ2.1 92 13) = 0 then bbv (f_X12_next  σ2) (fun σ6 => some (v3, σ6)) else some (v3, σ2)))
set_option maxHeartbeats 4000000 in
set_option maxRecDepth 20000 in
theorem e_X12_number_0 {X : bX} {l : Launch} {G : bG} {ρ : Nat → Nat} {A : Nat → Prop} {d : Nat} {r : Int32} {σ' : bSto} (C : bCX X cX12_number RX12 (d + 2)) (Hh : bH X l G bSHf ρ A 4) (Rt : bRX X (some .int) (some (.int r)) σ') (x1 : Int32) (x2 : Int32) (σ : bSto) (hF : f_X12_number x1 x2 σ = some (r, σ')) : bAJ X 0 [(0, .ref 92), (1, .int x1), (2, .int x2)] [] σ := by
  rw [f_X12_number] at hF
  refine b_aload_n (pc := 0) C dX12_number_0 rfl 0 rfl ?_
  refine b_iload_n (pc := 1) C dX12_number_1 rfl 1 rfl ?_
  refine b_iload_n (pc := 2) C dX12_number_2 rfl 2 rfl ?_
  obtain ⟨v3, σ2, hc1, hF⟩ := bbd_e hF
  refine b_cV2i (d' := (d + 1)) (pc := 3) C dX12_number_3 mm_X12_171 (Hh.1 _ _ sh_92) rfl (Nat.le_of_ble_eq_true rfl) (by omega) (Hh.2.2 _ _ _ _ _ _ _ _ _ (lvl_eq (by omega) (e_X12_numberHere (d + 0) x1 x2 _ _ _ hc1))) ?_
  refine b_istore_n (L' := [(3, .int v3), (0, .ref 92), (1, .int x1), (2, .int x2)]) (pc := 6) C dX12_number_6 rfl rfl (Hh.2.1 _ (Nat.le_of_ble_eq_true rfl)) rfl ?_
  refine b_aload_n (pc := 7) C dX12_number_7 rfl 1 rfl ?_
  refine b_getI (pc := 8) C dX12_number_8 fl_X12_103 (Hh.1 _ _ sh_92) rfl ?_
  refine b_if_ne (tgt := 18) (pc := 11) C dX12_number_11 rfl (fun hc4 => ?_) (fun hc4 => ?_)
  · rw [if_neg hc4] at hF
    refine b_iload_n (pc := 18) C dX12_number_18 rfl 0 rfl ?_
    exact b_iret (pc := 19) C Rt dX12_number_19 hF
  · rw [if_pos hc4] at hF
    refine b_aload_n (pc := 14) C dX12_number_14 rfl 1 rfl ?_
    obtain ⟨σ6, hc5, hF⟩ := bbv_e hF
    refine b_cV0v (d' := (d + 1)) (pc := 15) C dX12_number_15 mm_X12_124 (Hh.1 _ _ sh_92) rfl (Nat.le_of_ble_eq_true rfl) (by omega) (Hh.2.2 _ _ _ _ _ _ _ _ _ (lvl_eq (by omega) (e_X12_next (d + 0)  _ _ hc5))) ?_
    refine b_iload_n (pc := 18) C dX12_number_18 rfl 0 rfl ?_
    exact b_iret (pc := 19) C Rt dX12_number_19 hF
set_option maxHeartbeats 4000000 in
set_option maxRecDepth 20000 in
theorem e_X12_number {l : Launch} {G : bG} {ρ : Nat → Nat} {A : Nat → Prop} (d : Nat) (x1 : Int32) (x2 : Int32) (σ : bSto) (r : Int32) (σ' : bSto) (hF : f_X12_number x1 x2 σ = some (r, σ')) : bEv l G bSHf ρ A yX12_number cX12_number 4 (some .int) (d + 2) [.ref 92, .int x1, .int x2] σ (some (.int r)) σ' := b_met (d := d + 2) (by decide +kernel) (Nat.le_of_ble_eq_true rfl) rfl (fun X C Rt h1 h2 h3 => e_X12_number_0 C ⟨fun o q h => by rw [h1]; exact h, fun i h => by rw [h2]; exact h, h3⟩ Rt _ _ _ hF)
/-! BenchColonyModel.after -/
def f_X12_after (x1 : Nat) (x2 : Int32) (x3 : Int32) (σ : bSto) : Option (Int32 × bSto) := bbv (f_X12_must x1 σ) (fun σ2 => bbd (f_X12_number x2 x3 σ2) (fun v5 σ4 => some (v5, σ4)))
set_option maxHeartbeats 4000000 in
set_option maxRecDepth 20000 in
theorem e_X12_after_0 {X : bX} {l : Launch} {G : bG} {ρ : Nat → Nat} {A : Nat → Prop} {d : Nat} {r : Int32} {σ' : bSto} (C : bCX X cX12_after RX12 (d + 8)) (Hh : bH X l G bSHf ρ A 4) (Rt : bRX X (some .int) (some (.int r)) σ') (x1 : Nat) (hx1 : x1 < bnS) (x2 : Int32) (x3 : Int32) (σ : bSto) (hF : f_X12_after x1 x2 x3 σ = some (r, σ')) : bAJ X 0 [(0, .ref 92), (1, .ref (1000 + x1)), (2, .int x2), (3, .int x3)] [] σ := by
  rw [f_X12_after] at hF
  refine b_aload_n (pc := 0) C dX12_after_0 rfl 0 rfl ?_
  refine b_aload_n (pc := 1) C dX12_after_1 rfl 1 rfl ?_
  obtain ⟨σ2, hc1, hF⟩ := bbv_e hF
  refine b_cV1v (d' := (d + 7)) (pc := 2) C dX12_after_2 mm_X12_174 (Hh.1 _ _ sh_92) rfl (Nat.le_of_ble_eq_true rfl) (by omega) (Hh.2.2 _ _ _ _ _ _ _ _ _ (lvl_eq (by omega) (e_X12_must (d + 0) _ hx1 _ _ hc1))) ?_
  refine b_aload_n (pc := 5) C dX12_after_5 rfl 0 rfl ?_
  refine b_iload_n (pc := 6) C dX12_after_6 rfl 2 rfl ?_
  refine b_iload_n (pc := 7) C dX12_after_7 rfl 3 rfl ?_
  obtain ⟨v5, σ4, hc3, hF⟩ := bbd_e hF
  refine b_cV2i (d' := (d + 7)) (pc := 8) C dX12_after_8 mm_X12_178 (Hh.1 _ _ sh_92) rfl (Nat.le_of_ble_eq_true rfl) (by omega) (Hh.2.2 _ _ _ _ _ _ _ _ _ (lvl_eq (by omega) (e_X12_number (d + 5) x2 x3 _ _ _ hc3))) ?_
  exact b_iret (pc := 11) C Rt dX12_after_11 hF
set_option maxHeartbeats 4000000 in
set_option maxRecDepth 20000 in
theorem e_X12_after {l : Launch} {G : bG} {ρ : Nat → Nat} {A : Nat → Prop} (d : Nat) (x1 : Nat) (hx1 : x1 < bnS) (x2 : Int32) (x3 : Int32) (σ : bSto) (r : Int32) (σ' : bSto) (hF : f_X12_after x1 x2 x3 σ = some (r, σ')) : bEv l G bSHf ρ A yX12_after cX12_after 4 (some .int) (d + 8) [.ref 92, .ref (1000 + x1), .int x2, .int x3] σ (some (.int r)) σ' := b_met (d := d + 8) (by decide +kernel) (Nat.le_of_ble_eq_true rfl) rfl (fun X C Rt h1 h2 h3 => e_X12_after_0 C ⟨fun o q h => by rw [h1]; exact h, fun i h => by rw [h2]; exact h, h3⟩ Rt _ hx1 _ _ _ hF)
/-! BenchColonyModel.oneOf -/
def f_X12_oneOf_J66 (x5 : Int32) (σ : bSto) : Option (Int32 × bSto) := (if (σ.1 92 13) = 0 then bbv (f_X12_next  σ) (fun σ3 => some (x5, σ3)) else some (x5, σ))
def f_X12_oneOf_J50 (s0 : Int32) (σ : bSto) : Option (Int32 × bSto) := (if 0 ≤ s0 then f_X12_oneOf_J66 s0 σ else bbv (f_X12_wrong (1 : Int32) (σ.1 92 4) σ) (fun σ3 => f_X12_oneOf_J66 s0 σ3))
def f_X12_oneOf (x1 : Nat) (x2 : Nat) (x3 : Nat) (x4 : Nat) (σ : bSto) : Option (Int32 × bSto) := bbd (f_X12_isWord x1 σ) (fun v3 σ2 => (if v3 = 0 then bbd (f_X12_isWord x2 σ2) (fun v7 σ6 => (if v7 = 0 then bbd (f_X12_isWord x3 σ6) (fun v11 σ10 => (if v11 = 0 then bbd (f_X12_isWord x4 σ10) (fun v15 σ14 => (if v15 = 0 then f_X12_oneOf_J50 (-1 : Int32) σ14 else f_X12_oneOf_J50 (3 : Int32) σ14)) else f_X12_oneOf_J50 (2 : Int32) σ10)) else f_X12_oneOf_J50 (1 : Int32) σ6)) else f_X12_oneOf_J50 (0 : Int32) σ2))
set_option maxHeartbeats 4000000 in
set_option maxRecDepth 20000 in
theorem e_X12_oneOf_J66 {X : bX} {l : Launch} {G : bG} {ρ : Nat → Nat} {A : Nat → Prop} {d : Nat} {r : Int32} {σ' : bSto} (C : bCX X cX12_oneOf RX12 (d + 6)) (Hh : bH X l G bSHf ρ A 6) (Rt : bRX X (some .int) (some (.int r)) σ') (x5 : Int32) (σ : bSto) (hF : f_X12_oneOf_J66 x5 σ = some (r, σ')) : bAJ X 66 [(0, .ref 92), (5, .int x5)] [] σ := by
  rw [f_X12_oneOf_J66] at hF
  refine b_aload_n (pc := 66) C dX12_oneOf_66 rfl 0 rfl ?_
  refine b_getI (pc := 67) C dX12_oneOf_67 fl_X12_103 (Hh.1 _ _ sh_92) rfl ?_
  refine b_if_ne (tgt := 77) (pc := 70) C dX12_oneOf_70 rfl (fun hc1 => ?_) (fun hc1 => ?_)
  · rw [if_neg hc1] at hF
    refine b_iload (pc := 77) C dX12_oneOf_77 1 rfl ?_
    exact b_iret (pc := 79) C Rt dX12_oneOf_79 hF
  · rw [if_pos hc1] at hF
    refine b_aload_n (pc := 73) C dX12_oneOf_73 rfl 0 rfl ?_
    obtain ⟨σ3, hc2, hF⟩ := bbv_e hF
    refine b_cV0v (d' := (d + 5)) (pc := 74) C dX12_oneOf_74 mm_X12_124 (Hh.1 _ _ sh_92) rfl (Nat.le_of_ble_eq_true rfl) (by omega) (Hh.2.2 _ _ _ _ _ _ _ _ _ (lvl_eq (by omega) (e_X12_next (d + 4)  _ _ hc2))) ?_
    refine b_iload (pc := 77) C dX12_oneOf_77 1 rfl ?_
    exact b_iret (pc := 79) C Rt dX12_oneOf_79 hF
set_option maxHeartbeats 4000000 in
set_option maxRecDepth 20000 in
theorem e_X12_oneOf_J50 {X : bX} {l : Launch} {G : bG} {ρ : Nat → Nat} {A : Nat → Prop} {d : Nat} {r : Int32} {σ' : bSto} (C : bCX X cX12_oneOf RX12 (d + 6)) (Hh : bH X l G bSHf ρ A 6) (Rt : bRX X (some .int) (some (.int r)) σ') (s0 : Int32) (σ : bSto) (hF : f_X12_oneOf_J50 s0 σ = some (r, σ')) : bAJ X 50 [(0, .ref 92)] [.int s0] σ := by
  rw [f_X12_oneOf_J50] at hF
  refine b_istore (L' := [(5, .int s0), (0, .ref 92)]) (pc := 50) C dX12_oneOf_50 rfl (Hh.2.1 _ (Nat.le_of_ble_eq_true rfl)) rfl ?_
  refine b_iload (pc := 52) C dX12_oneOf_52 0 rfl ?_
  refine b_if_ge (tgt := 66) (pc := 54) C dX12_oneOf_54 rfl (fun hc1 => ?_) (fun hc1 => ?_)
  · rw [if_pos hc1] at hF
    exact b_sub [1, 0] rfl (e_X12_oneOf_J66 C Hh Rt s0 _ hF)
  · rw [if_neg hc1] at hF
    refine b_aload_n (pc := 57) C dX12_oneOf_57 rfl 1 rfl ?_
    refine b_iconst (pc := 58) C dX12_oneOf_58 ic_1 ?_
    refine b_aload_n (pc := 59) C dX12_oneOf_59 rfl 1 rfl ?_
    refine b_getI (pc := 60) C dX12_oneOf_60 fl_X12_84 (Hh.1 _ _ sh_92) rfl ?_
    obtain ⟨σ3, hc2, hF⟩ := bbv_e hF
    refine b_cV2v (d' := (d + 5)) (pc := 63) C dX12_oneOf_63 mm_X12_130 (Hh.1 _ _ sh_92) rfl (Nat.le_of_ble_eq_true rfl) (by omega) (Hh.2.2 _ _ _ _ _ _ _ _ _ (lvl_eq (by omega) (e_X12_wrong (d + 5) (1 : Int32) (σ.1 92 4) _ _ hc2))) ?_
    exact b_sub [1, 0] rfl (e_X12_oneOf_J66 C Hh Rt s0 _ hF)
set_option maxHeartbeats 4000000 in
set_option maxRecDepth 20000 in
theorem e_X12_oneOf_0 {X : bX} {l : Launch} {G : bG} {ρ : Nat → Nat} {A : Nat → Prop} {d : Nat} {r : Int32} {σ' : bSto} (C : bCX X cX12_oneOf RX12 (d + 6)) (Hh : bH X l G bSHf ρ A 6) (Rt : bRX X (some .int) (some (.int r)) σ') (x1 : Nat) (hx1 : x1 < bnS) (x2 : Nat) (hx2 : x2 < bnS) (x3 : Nat) (hx3 : x3 < bnS) (x4 : Nat) (hx4 : x4 < bnS) (σ : bSto) (hF : f_X12_oneOf x1 x2 x3 x4 σ = some (r, σ')) : bAJ X 0 [(0, .ref 92), (1, .ref (1000 + x1)), (2, .ref (1000 + x2)), (3, .ref (1000 + x3)), (4, .ref (1000 + x4))] [] σ := by
  rw [f_X12_oneOf] at hF
  refine b_aload_n (pc := 0) C dX12_oneOf_0 rfl 0 rfl ?_
  refine b_aload_n (pc := 1) C dX12_oneOf_1 rfl 1 rfl ?_
  obtain ⟨v3, σ2, hc1, hF⟩ := bbd_e hF
  refine b_cV1i (d' := (d + 5)) (pc := 2) C dX12_oneOf_2 mm_X12_120 (Hh.1 _ _ sh_92) rfl (Nat.le_of_ble_eq_true rfl) (by omega) (Hh.2.2 _ _ _ _ _ _ _ _ _ (lvl_eq (by omega) (e_X12_isWord (d + 0) _ hx1 _ _ _ hc1))) ?_
  refine b_if_eq (tgt := 12) (pc := 5) C dX12_oneOf_5 rfl (fun hc4 => ?_) (fun hc4 => ?_)
  · rw [if_pos hc4] at hF
    refine b_aload_n (pc := 12) C dX12_oneOf_12 rfl 0 rfl ?_
    refine b_aload_n (pc := 13) C dX12_oneOf_13 rfl 2 rfl ?_
    obtain ⟨v7, σ6, hc5, hF⟩ := bbd_e hF
    refine b_cV1i (d' := (d + 5)) (pc := 14) C dX12_oneOf_14 mm_X12_120 (Hh.1 _ _ sh_92) rfl (Nat.le_of_ble_eq_true rfl) (by omega) (Hh.2.2 _ _ _ _ _ _ _ _ _ (lvl_eq (by omega) (e_X12_isWord (d + 0) _ hx2 _ _ _ hc5))) ?_
    refine b_if_eq (tgt := 24) (pc := 17) C dX12_oneOf_17 rfl (fun hc8 => ?_) (fun hc8 => ?_)
    · rw [if_pos hc8] at hF
      refine b_aload_n (pc := 24) C dX12_oneOf_24 rfl 0 rfl ?_
      refine b_aload_n (pc := 25) C dX12_oneOf_25 rfl 3 rfl ?_
      obtain ⟨v11, σ10, hc9, hF⟩ := bbd_e hF
      refine b_cV1i (d' := (d + 5)) (pc := 26) C dX12_oneOf_26 mm_X12_120 (Hh.1 _ _ sh_92) rfl (Nat.le_of_ble_eq_true rfl) (by omega) (Hh.2.2 _ _ _ _ _ _ _ _ _ (lvl_eq (by omega) (e_X12_isWord (d + 0) _ hx3 _ _ _ hc9))) ?_
      refine b_if_eq (tgt := 36) (pc := 29) C dX12_oneOf_29 rfl (fun hc12 => ?_) (fun hc12 => ?_)
      · rw [if_pos hc12] at hF
        refine b_aload_n (pc := 36) C dX12_oneOf_36 rfl 0 rfl ?_
        refine b_aload (pc := 37) C dX12_oneOf_37 4 rfl ?_
        obtain ⟨v15, σ14, hc13, hF⟩ := bbd_e hF
        refine b_cV1i (d' := (d + 5)) (pc := 39) C dX12_oneOf_39 mm_X12_120 (Hh.1 _ _ sh_92) rfl (Nat.le_of_ble_eq_true rfl) (by omega) (Hh.2.2 _ _ _ _ _ _ _ _ _ (lvl_eq (by omega) (e_X12_isWord (d + 0) _ hx4 _ _ _ hc13))) ?_
        refine b_if_eq (tgt := 49) (pc := 42) C dX12_oneOf_42 rfl (fun hc16 => ?_) (fun hc16 => ?_)
        · rw [if_pos hc16] at hF
          refine b_iconst (pc := 49) C dX12_oneOf_49 ic_m1 ?_
          exact b_sub [0] rfl (e_X12_oneOf_J50 C Hh Rt (-1 : Int32) _ hF)
        · rw [if_neg hc16] at hF
          refine b_iconst (pc := 45) C dX12_oneOf_45 ic_3 ?_
          refine b_goto (tgt := 50) (pc := 46) C dX12_oneOf_46 rfl ?_
          exact b_sub [0] rfl (e_X12_oneOf_J50 C Hh Rt (3 : Int32) _ hF)
      · rw [if_neg hc12] at hF
        refine b_iconst (pc := 32) C dX12_oneOf_32 ic_2 ?_
        refine b_goto (tgt := 50) (pc := 33) C dX12_oneOf_33 rfl ?_
        exact b_sub [0] rfl (e_X12_oneOf_J50 C Hh Rt (2 : Int32) _ hF)
    · rw [if_neg hc8] at hF
      refine b_iconst (pc := 20) C dX12_oneOf_20 ic_1 ?_
      refine b_goto (tgt := 50) (pc := 21) C dX12_oneOf_21 rfl ?_
      exact b_sub [0] rfl (e_X12_oneOf_J50 C Hh Rt (1 : Int32) _ hF)
  · rw [if_neg hc4] at hF
    refine b_iconst (pc := 8) C dX12_oneOf_8 ic_0 ?_
    refine b_goto (tgt := 50) (pc := 9) C dX12_oneOf_9 rfl ?_
    exact b_sub [0] rfl (e_X12_oneOf_J50 C Hh Rt (0 : Int32) _ hF)
set_option maxHeartbeats 4000000 in
set_option maxRecDepth 20000 in
theorem e_X12_oneOf {l : Launch} {G : bG} {ρ : Nat → Nat} {A : Nat → Prop} (d : Nat) (x1 : Nat) (hx1 : x1 < bnS) (x2 : Nat) (hx2 : x2 < bnS) (x3 : Nat) (hx3 : x3 < bnS) (x4 : Nat) (hx4 : x4 < bnS) (σ : bSto) (r : Int32) (σ' : bSto) (hF : f_X12_oneOf x1 x2 x3 x4 σ = some (r, σ')) : bEv l G bSHf ρ A yX12_oneOf cX12_oneOf 6 (some .int) (d + 6) [.ref 92, .ref (1000 + x1), .ref (1000 + x2), .ref (1000 + x3), .ref (1000 + x4)] σ (some (.int r)) σ' := b_met (d := d + 6) (by decide +kernel) (Nat.le_of_ble_eq_true rfl) rfl (fun X C Rt h1 h2 h3 => e_X12_oneOf_0 C ⟨fun o q h => by rw [h1]; exact h, fun i h => by rw [h2]; exact h, h3⟩ Rt _ hx1 _ hx2 _ hx3 _ hx4 _ hF)
/-! BenchColonyModel.roomLine -/
def f_X12_roomLine_J18  (σ : bSto) : Option bSto := (if (σ.1 92 13) = 0 then bbv (f_X12_next  σ) (fun σ3 => bbd (f_X12_after 28 (1 : Int32) (9 : Int32) σ3) (fun v6 σ5 => bbd (f_X12_after 24 (1 : Int32) (9 : Int32) σ5) (fun v9 σ8 => blet (bI σ8 96 1 v9) (fun σ10 => bbv (f_X12_must 23 σ10) (fun σ13 => bbd (f_X12_number (0 : Int32) (v6 - (1 : Int32)) σ13) (fun v16 σ15 => bbd (f_X12_number (0 : Int32) ((σ15.1 96 1) - (1 : Int32)) σ15) (fun v19 σ18 => blet (bI σ18 96 9 (((10 : Int32) * v19) + v16)) (fun σ20 => bbd (f_X12_after 9 (1 : Int32) (60 : Int32) σ20) (fun v24 σ23 => blet (bI σ23 96 2 v24) (fun σ25 => bbd (f_X12_after 22 (0 : Int32) (200 : Int32) σ25) (fun v29 σ28 => blet (bI σ28 96 10 v29) (fun σ30 => (if (σ30.1 92 13) = 0 then blet (bI σ30 96 0 v6) (fun σ33 => some σ33) else some σ30))))))))))))) else some σ)
def f_X12_roomLine  (σ : bSto) : Option bSto := (if (σ.1 96 0) ≤ 0 then f_X12_roomLine_J18  σ else bbv (f_X12_wrong (3 : Int32) (σ.1 92 4) σ) (fun σ3 => f_X12_roomLine_J18  σ3))
set_option maxHeartbeats 4000000 in
set_option maxRecDepth 20000 in
theorem e_X12_roomLine_J18 {X : bX} {l : Launch} {G : bG} {ρ : Nat → Nat} {A : Nat → Prop} {d : Nat} {σ' : bSto} (C : bCX X cX12_roomLine RX12 (d + 9)) (Hh : bH X l G bSHf ρ A 3) (Rt : bRX X none none σ')  (σ : bSto) (hF : f_X12_roomLine_J18  σ = some σ') : bAJ X 18 [(0, .ref 92)] [] σ := by
  rw [f_X12_roomLine_J18] at hF
  refine b_aload_n (pc := 18) C dX12_roomLine_18 rfl 0 rfl ?_
  refine b_getI (pc := 19) C dX12_roomLine_19 fl_X12_103 (Hh.1 _ _ sh_92) rfl ?_
  refine b_if_eq (tgt := 26) (pc := 22) C dX12_roomLine_22 rfl (fun hc1 => ?_) (fun hc1 => ?_)
  · rw [if_pos hc1] at hF
    refine b_aload_n (pc := 26) C dX12_roomLine_26 rfl 0 rfl ?_
    obtain ⟨σ3, hc2, hF⟩ := bbv_e hF
    refine b_cV0v (d' := (d + 8)) (pc := 27) C dX12_roomLine_27 mm_X12_124 (Hh.1 _ _ sh_92) rfl (Nat.le_of_ble_eq_true rfl) (by omega) (Hh.2.2 _ _ _ _ _ _ _ _ _ (lvl_eq (by omega) (e_X12_next (d + 7)  _ _ hc2))) ?_
    refine b_aload_n (pc := 30) C dX12_roomLine_30 rfl 0 rfl ?_
    refine b_ldcS (pc := 31) C dX12_roomLine_31 "wide" 38 rfl ?_
    refine b_iconst (pc := 33) C dX12_roomLine_33 ic_1 ?_
    refine b_bipush (pc := 34) C dX12_roomLine_34 bp_9 ?_
    obtain ⟨v6, σ5, hc4, hF⟩ := bbd_e hF
    refine b_cV3i (d' := (d + 8)) (pc := 36) C dX12_roomLine_36 mm_X12_231 (Hh.1 _ _ sh_92) rfl (Nat.le_of_ble_eq_true rfl) (by omega) (Hh.2.2 _ _ _ _ _ _ _ _ _ (lvl_eq (by omega) (e_X12_after (d + 0) _ (by decide) (1 : Int32) (9 : Int32) _ _ _ hc4))) ?_
    refine b_istore_n (L' := [(1, .int v6), (0, .ref 92)]) (pc := 39) C dX12_roomLine_39 rfl rfl (Hh.2.1 _ (Nat.le_of_ble_eq_true rfl)) rfl ?_
    refine b_aload_n (pc := 40) C dX12_roomLine_40 rfl 1 rfl ?_
    refine b_getS (pc := 41) C dX12_roomLine_41 fl_X12_23 (Hh.1 _ _ sh_92) rfl ?_
    refine b_iconst (pc := 44) C dX12_roomLine_44 ic_1 ?_
    refine b_aload_n (pc := 45) C dX12_roomLine_45 rfl 1 rfl ?_
    refine b_ldcS (pc := 46) C dX12_roomLine_46 "tall" 39 rfl ?_
    refine b_iconst (pc := 48) C dX12_roomLine_48 ic_1 ?_
    refine b_bipush (pc := 49) C dX12_roomLine_49 bp_9 ?_
    obtain ⟨v9, σ8, hc7, hF⟩ := bbd_e hF
    refine b_cV3i (d' := (d + 8)) (pc := 51) C dX12_roomLine_51 mm_X12_231 (Hh.1 _ _ sh_92) rfl (Nat.le_of_ble_eq_true rfl) (by omega) (Hh.2.2 _ _ _ _ _ _ _ _ _ (lvl_eq (by omega) (e_X12_after (d + 0) _ (by decide) (1 : Int32) (9 : Int32) _ _ _ hc7))) ?_
    obtain ⟨σ10, e11, hF⟩ := blet_e hF
    refine b_iastK (pc := 54) C dX12_roomLine_54 (Hh.1 _ _ sh_96) tn_1 (by decide) e11 ?_
    refine b_aload_n (pc := 55) C dX12_roomLine_55 rfl 1 rfl ?_
    refine b_ldcS (pc := 56) C dX12_roomLine_56 "stove" 40 rfl ?_
    obtain ⟨σ13, hc12, hF⟩ := bbv_e hF
    refine b_cV1v (d' := (d + 8)) (pc := 58) C dX12_roomLine_58 mm_X12_174 (Hh.1 _ _ sh_92) rfl (Nat.le_of_ble_eq_true rfl) (by omega) (Hh.2.2 _ _ _ _ _ _ _ _ _ (lvl_eq (by omega) (e_X12_must (d + 1) _ (by decide) _ _ hc12))) ?_
    refine b_aload_n (pc := 61) C dX12_roomLine_61 rfl 1 rfl ?_
    refine b_iconst (pc := 62) C dX12_roomLine_62 ic_0 ?_
    refine b_iload_n (pc := 63) C dX12_roomLine_63 rfl 0 rfl ?_
    refine b_iconst (pc := 64) C dX12_roomLine_64 ic_1 ?_
    refine b_isub (pc := 65) C dX12_roomLine_65 ?_
    obtain ⟨v16, σ15, hc14, hF⟩ := bbd_e hF
    refine b_cV2i (d' := (d + 8)) (pc := 66) C dX12_roomLine_66 mm_X12_178 (Hh.1 _ _ sh_92) rfl (Nat.le_of_ble_eq_true rfl) (by omega) (Hh.2.2 _ _ _ _ _ _ _ _ _ (lvl_eq (by omega) (e_X12_number (d + 6) (0 : Int32) (v6 - (1 : Int32)) _ _ _ hc14))) ?_
    refine b_istore_n (L' := [(2, .int v16), (1, .int v6), (0, .ref 92)]) (pc := 69) C dX12_roomLine_69 rfl rfl (Hh.2.1 _ (Nat.le_of_ble_eq_true rfl)) rfl ?_
    refine b_aload_n (pc := 70) C dX12_roomLine_70 rfl 2 rfl ?_
    refine b_getS (pc := 71) C dX12_roomLine_71 fl_X12_23 (Hh.1 _ _ sh_92) rfl ?_
    refine b_bipush (pc := 74) C dX12_roomLine_74 bp_9 ?_
    refine b_bipush (pc := 76) C dX12_roomLine_76 bp_10 ?_
    refine b_aload_n (pc := 78) C dX12_roomLine_78 rfl 2 rfl ?_
    refine b_iconst (pc := 79) C dX12_roomLine_79 ic_0 ?_
    refine b_aload_n (pc := 80) C dX12_roomLine_80 rfl 2 rfl ?_
    refine b_getS (pc := 81) C dX12_roomLine_81 fl_X12_23 (Hh.1 _ _ sh_92) rfl ?_
    refine b_iconst (pc := 84) C dX12_roomLine_84 ic_1 ?_
    refine b_ialdK (pc := 85) C dX12_roomLine_85 (Hh.1 _ _ sh_96) tn_1 (by decide) ?_
    refine b_iconst (pc := 86) C dX12_roomLine_86 ic_1 ?_
    refine b_isub (pc := 87) C dX12_roomLine_87 ?_
    obtain ⟨v19, σ18, hc17, hF⟩ := bbd_e hF
    refine b_cV2i (d' := (d + 8)) (pc := 88) C dX12_roomLine_88 mm_X12_178 (Hh.1 _ _ sh_92) rfl (Nat.le_of_ble_eq_true rfl) (by omega) (Hh.2.2 _ _ _ _ _ _ _ _ _ (lvl_eq (by omega) (e_X12_number (d + 6) (0 : Int32) ((σ15.1 96 1) - (1 : Int32)) _ _ _ hc17))) ?_
    refine b_imul (pc := 91) C dX12_roomLine_91 ?_
    refine b_iload_n (pc := 92) C dX12_roomLine_92 rfl 0 rfl ?_
    refine b_iadd (pc := 93) C dX12_roomLine_93 ?_
    obtain ⟨σ20, e21, hF⟩ := blet_e hF
    refine b_iastK (pc := 94) C dX12_roomLine_94 (Hh.1 _ _ sh_96) tn_9 (by decide) e21 ?_
    refine b_aload_n (pc := 95) C dX12_roomLine_95 rfl 2 rfl ?_
    refine b_getS (pc := 96) C dX12_roomLine_96 fl_X12_23 (Hh.1 _ _ sh_92) rfl ?_
    refine b_iconst (pc := 99) C dX12_roomLine_99 ic_2 ?_
    refine b_aload_n (pc := 100) C dX12_roomLine_100 rfl 2 rfl ?_
    refine b_ldcS (pc := 101) C dX12_roomLine_101 "heat" 41 rfl ?_
    refine b_iconst (pc := 103) C dX12_roomLine_103 ic_1 ?_
    refine b_bipush (pc := 104) C dX12_roomLine_104 bp_60 ?_
    obtain ⟨v24, σ23, hc22, hF⟩ := bbd_e hF
    refine b_cV3i (d' := (d + 8)) (pc := 106) C dX12_roomLine_106 mm_X12_231 (Hh.1 _ _ sh_92) rfl (Nat.le_of_ble_eq_true rfl) (by omega) (Hh.2.2 _ _ _ _ _ _ _ _ _ (lvl_eq (by omega) (e_X12_after (d + 0) _ (by decide) (1 : Int32) (60 : Int32) _ _ _ hc22))) ?_
    obtain ⟨σ25, e26, hF⟩ := blet_e hF
    refine b_iastK (pc := 109) C dX12_roomLine_109 (Hh.1 _ _ sh_96) tn_2 (by decide) e26 ?_
    refine b_aload_n (pc := 110) C dX12_roomLine_110 rfl 2 rfl ?_
    refine b_getS (pc := 111) C dX12_roomLine_111 fl_X12_23 (Hh.1 _ _ sh_92) rfl ?_
    refine b_bipush (pc := 114) C dX12_roomLine_114 bp_10 ?_
    refine b_aload_n (pc := 116) C dX12_roomLine_116 rfl 2 rfl ?_
    refine b_ldcS (pc := 117) C dX12_roomLine_117 "stock" 42 rfl ?_
    refine b_iconst (pc := 119) C dX12_roomLine_119 ic_0 ?_
    refine b_sipush (pc := 120) C dX12_roomLine_120 sp_200 ?_
    obtain ⟨v29, σ28, hc27, hF⟩ := bbd_e hF
    refine b_cV3i (d' := (d + 8)) (pc := 123) C dX12_roomLine_123 mm_X12_231 (Hh.1 _ _ sh_92) rfl (Nat.le_of_ble_eq_true rfl) (by omega) (Hh.2.2 _ _ _ _ _ _ _ _ _ (lvl_eq (by omega) (e_X12_after (d + 0) _ (by decide) (0 : Int32) (200 : Int32) _ _ _ hc27))) ?_
    obtain ⟨σ30, e31, hF⟩ := blet_e hF
    refine b_iastK (pc := 126) C dX12_roomLine_126 (Hh.1 _ _ sh_96) tn_10 (by decide) e31 ?_
    refine b_aload_n (pc := 127) C dX12_roomLine_127 rfl 2 rfl ?_
    refine b_getI (pc := 128) C dX12_roomLine_128 fl_X12_103 (Hh.1 _ _ sh_92) rfl ?_
    refine b_if_ne (tgt := 141) (pc := 131) C dX12_roomLine_131 rfl (fun hc32 => ?_) (fun hc32 => ?_)
    · rw [if_neg hc32] at hF
      exact b_vret (pc := 141) C Rt dX12_roomLine_141 hF
    · rw [if_pos hc32] at hF
      refine b_aload_n (pc := 134) C dX12_roomLine_134 rfl 2 rfl ?_
      refine b_getS (pc := 135) C dX12_roomLine_135 fl_X12_23 (Hh.1 _ _ sh_92) rfl ?_
      refine b_iconst (pc := 138) C dX12_roomLine_138 ic_0 ?_
      refine b_iload_n (pc := 139) C dX12_roomLine_139 rfl 1 rfl ?_
      obtain ⟨σ33, e34, hF⟩ := blet_e hF
      refine b_iastK (pc := 140) C dX12_roomLine_140 (Hh.1 _ _ sh_96) tn_0 (by decide) e34 ?_
      exact b_vret (pc := 141) C Rt dX12_roomLine_141 hF
  · rw [if_neg hc1] at hF
    exact b_vret (pc := 25) C Rt dX12_roomLine_25 hF
set_option maxHeartbeats 4000000 in
set_option maxRecDepth 20000 in
theorem e_X12_roomLine_0 {X : bX} {l : Launch} {G : bG} {ρ : Nat → Nat} {A : Nat → Prop} {d : Nat} {σ' : bSto} (C : bCX X cX12_roomLine RX12 (d + 9)) (Hh : bH X l G bSHf ρ A 3) (Rt : bRX X none none σ')  (σ : bSto) (hF : f_X12_roomLine  σ = some σ') : bAJ X 0 [(0, .ref 92)] [] σ := by
  rw [f_X12_roomLine] at hF
  refine b_aload_n (pc := 0) C dX12_roomLine_0 rfl 0 rfl ?_
  refine b_getS (pc := 1) C dX12_roomLine_1 fl_X12_23 (Hh.1 _ _ sh_92) rfl ?_
  refine b_iconst (pc := 4) C dX12_roomLine_4 ic_0 ?_
  refine b_ialdK (pc := 5) C dX12_roomLine_5 (Hh.1 _ _ sh_96) tn_0 (by decide) ?_
  refine b_if_le (tgt := 18) (pc := 6) C dX12_roomLine_6 rfl (fun hc1 => ?_) (fun hc1 => ?_)
  · rw [if_pos hc1] at hF
    exact b_sub [0] rfl (e_X12_roomLine_J18 C Hh Rt  _ hF)
  · rw [if_neg hc1] at hF
    refine b_aload_n (pc := 9) C dX12_roomLine_9 rfl 0 rfl ?_
    refine b_iconst (pc := 10) C dX12_roomLine_10 ic_3 ?_
    refine b_aload_n (pc := 11) C dX12_roomLine_11 rfl 0 rfl ?_
    refine b_getI (pc := 12) C dX12_roomLine_12 fl_X12_84 (Hh.1 _ _ sh_92) rfl ?_
    obtain ⟨σ3, hc2, hF⟩ := bbv_e hF
    refine b_cV2v (d' := (d + 8)) (pc := 15) C dX12_roomLine_15 mm_X12_130 (Hh.1 _ _ sh_92) rfl (Nat.le_of_ble_eq_true rfl) (by omega) (Hh.2.2 _ _ _ _ _ _ _ _ _ (lvl_eq (by omega) (e_X12_wrong (d + 8) (3 : Int32) (σ.1 92 4) _ _ hc2))) ?_
    exact b_sub [0] rfl (e_X12_roomLine_J18 C Hh Rt  _ hF)
set_option maxHeartbeats 4000000 in
set_option maxRecDepth 20000 in
theorem e_X12_roomLine {l : Launch} {G : bG} {ρ : Nat → Nat} {A : Nat → Prop} (d : Nat)  (σ : bSto) (σ' : bSto) (hF : f_X12_roomLine  σ = some σ') : bEv l G bSHf ρ A yX12_roomLine cX12_roomLine 3 none (d + 9) [.ref 92] σ none σ' := b_met (d := d + 9) (by decide +kernel) (Nat.le_of_ble_eq_true rfl) rfl (fun X C Rt h1 h2 h3 => e_X12_roomLine_0 C ⟨fun o q h => by rw [h1]; exact h, fun i h => by rw [h2]; exact h, h3⟩ Rt  _ hF)
/-! BenchColonyModel.begins -/
def f_X12_begins_J42  (σ : bSto) : Option (Int32 × bSto) := (if (σ.1 92 13) = 0 then bbv (f_X12_next  σ) (fun σ3 => some ((1 : Int32), σ3)) else some ((1 : Int32), σ))
def f_X12_begins_J23  (σ : bSto) : Option (Int32 × bSto) := (if (σ.1 96 0) = 0 then bbv (f_X12_wrong (6 : Int32) (σ.1 92 4) σ) (fun σ3 => f_X12_begins_J42  σ3) else f_X12_begins_J42  σ)
def f_X12_begins (x1 : Nat) (x2 : Int32) (σ : bSto) : Option (Int32 × bSto) := bbd (f_X12_isWord x1 σ) (fun v3 σ2 => (if v3 = 0 then some ((0 : Int32), σ2) else (if x2 = 0 then bbv (f_X12_wrong (5 : Int32) (σ2.1 92 4) σ2) (fun σ7 => f_X12_begins_J23  σ7) else f_X12_begins_J23  σ2)))
set_option maxHeartbeats 4000000 in
set_option maxRecDepth 20000 in
theorem e_X12_begins_J42 {X : bX} {l : Launch} {G : bG} {ρ : Nat → Nat} {A : Nat → Prop} {d : Nat} {r : Int32} {σ' : bSto} (C : bCX X cX12_begins RX12 (d + 6)) (Hh : bH X l G bSHf ρ A 3) (Rt : bRX X (some .boolean) (some (.int r)) σ')  (σ : bSto) (hF : f_X12_begins_J42  σ = some (r, σ')) : bAJ X 42 [(0, .ref 92)] [] σ := by
  rw [f_X12_begins_J42] at hF
  refine b_aload_n (pc := 42) C dX12_begins_42 rfl 0 rfl ?_
  refine b_getI (pc := 43) C dX12_begins_43 fl_X12_103 (Hh.1 _ _ sh_92) rfl ?_
  refine b_if_ne (tgt := 53) (pc := 46) C dX12_begins_46 rfl (fun hc1 => ?_) (fun hc1 => ?_)
  · rw [if_neg hc1] at hF
    refine b_iconst (pc := 53) C dX12_begins_53 ic_1 ?_
    exact b_zret (pc := 54) C Rt dX12_begins_54 rfl hF
  · rw [if_pos hc1] at hF
    refine b_aload_n (pc := 49) C dX12_begins_49 rfl 0 rfl ?_
    obtain ⟨σ3, hc2, hF⟩ := bbv_e hF
    refine b_cV0v (d' := (d + 5)) (pc := 50) C dX12_begins_50 mm_X12_124 (Hh.1 _ _ sh_92) rfl (Nat.le_of_ble_eq_true rfl) (by omega) (Hh.2.2 _ _ _ _ _ _ _ _ _ (lvl_eq (by omega) (e_X12_next (d + 4)  _ _ hc2))) ?_
    refine b_iconst (pc := 53) C dX12_begins_53 ic_1 ?_
    exact b_zret (pc := 54) C Rt dX12_begins_54 rfl hF
set_option maxHeartbeats 4000000 in
set_option maxRecDepth 20000 in
theorem e_X12_begins_J23 {X : bX} {l : Launch} {G : bG} {ρ : Nat → Nat} {A : Nat → Prop} {d : Nat} {r : Int32} {σ' : bSto} (C : bCX X cX12_begins RX12 (d + 6)) (Hh : bH X l G bSHf ρ A 3) (Rt : bRX X (some .boolean) (some (.int r)) σ')  (σ : bSto) (hF : f_X12_begins_J23  σ = some (r, σ')) : bAJ X 23 [(0, .ref 92)] [] σ := by
  rw [f_X12_begins_J23] at hF
  refine b_aload_n (pc := 23) C dX12_begins_23 rfl 0 rfl ?_
  refine b_getS (pc := 24) C dX12_begins_24 fl_X12_23 (Hh.1 _ _ sh_92) rfl ?_
  refine b_iconst (pc := 27) C dX12_begins_27 ic_0 ?_
  refine b_ialdK (pc := 28) C dX12_begins_28 (Hh.1 _ _ sh_96) tn_0 (by decide) ?_
  refine b_if_ne (tgt := 42) (pc := 29) C dX12_begins_29 rfl (fun hc1 => ?_) (fun hc1 => ?_)
  · rw [if_neg hc1] at hF
    exact b_sub [0] rfl (e_X12_begins_J42 C Hh Rt  _ hF)
  · rw [if_pos hc1] at hF
    refine b_aload_n (pc := 32) C dX12_begins_32 rfl 0 rfl ?_
    refine b_bipush (pc := 33) C dX12_begins_33 bp_6 ?_
    refine b_aload_n (pc := 35) C dX12_begins_35 rfl 0 rfl ?_
    refine b_getI (pc := 36) C dX12_begins_36 fl_X12_84 (Hh.1 _ _ sh_92) rfl ?_
    obtain ⟨σ3, hc2, hF⟩ := bbv_e hF
    refine b_cV2v (d' := (d + 5)) (pc := 39) C dX12_begins_39 mm_X12_130 (Hh.1 _ _ sh_92) rfl (Nat.le_of_ble_eq_true rfl) (by omega) (Hh.2.2 _ _ _ _ _ _ _ _ _ (lvl_eq (by omega) (e_X12_wrong (d + 5) (6 : Int32) (σ.1 92 4) _ _ hc2))) ?_
    exact b_sub [0] rfl (e_X12_begins_J42 C Hh Rt  _ hF)
set_option maxHeartbeats 4000000 in
set_option maxRecDepth 20000 in
theorem e_X12_begins_0 {X : bX} {l : Launch} {G : bG} {ρ : Nat → Nat} {A : Nat → Prop} {d : Nat} {r : Int32} {σ' : bSto} (C : bCX X cX12_begins RX12 (d + 6)) (Hh : bH X l G bSHf ρ A 3) (Rt : bRX X (some .boolean) (some (.int r)) σ') (x1 : Nat) (hx1 : x1 < bnS) (x2 : Int32) (σ : bSto) (hF : f_X12_begins x1 x2 σ = some (r, σ')) : bAJ X 0 [(0, .ref 92), (1, .ref (1000 + x1)), (2, .int x2)] [] σ := by
  rw [f_X12_begins] at hF
  refine b_aload_n (pc := 0) C dX12_begins_0 rfl 0 rfl ?_
  refine b_aload_n (pc := 1) C dX12_begins_1 rfl 1 rfl ?_
  obtain ⟨v3, σ2, hc1, hF⟩ := bbd_e hF
  refine b_cV1i (d' := (d + 5)) (pc := 2) C dX12_begins_2 mm_X12_120 (Hh.1 _ _ sh_92) rfl (Nat.le_of_ble_eq_true rfl) (by omega) (Hh.2.2 _ _ _ _ _ _ _ _ _ (lvl_eq (by omega) (e_X12_isWord (d + 0) _ hx1 _ _ _ hc1))) ?_
  refine b_if_ne (tgt := 10) (pc := 5) C dX12_begins_5 rfl (fun hc4 => ?_) (fun hc4 => ?_)
  · rw [if_neg hc4] at hF
    refine b_iload_n (pc := 10) C dX12_begins_10 rfl 2 rfl ?_
    refine b_if_ne (tgt := 23) (pc := 11) C dX12_begins_11 rfl (fun hc5 => ?_) (fun hc5 => ?_)
    · rw [if_neg hc5] at hF
      exact b_sub [0] rfl (e_X12_begins_J23 C Hh Rt  _ hF)
    · rw [if_pos hc5] at hF
      refine b_aload_n (pc := 14) C dX12_begins_14 rfl 0 rfl ?_
      refine b_iconst (pc := 15) C dX12_begins_15 ic_5 ?_
      refine b_aload_n (pc := 16) C dX12_begins_16 rfl 0 rfl ?_
      refine b_getI (pc := 17) C dX12_begins_17 fl_X12_84 (Hh.1 _ _ sh_92) rfl ?_
      obtain ⟨σ7, hc6, hF⟩ := bbv_e hF
      refine b_cV2v (d' := (d + 5)) (pc := 20) C dX12_begins_20 mm_X12_130 (Hh.1 _ _ sh_92) rfl (Nat.le_of_ble_eq_true rfl) (by omega) (Hh.2.2 _ _ _ _ _ _ _ _ _ (lvl_eq (by omega) (e_X12_wrong (d + 5) (5 : Int32) (σ2.1 92 4) _ _ hc6))) ?_
      exact b_sub [0] rfl (e_X12_begins_J23 C Hh Rt  _ hF)
  · rw [if_pos hc4] at hF
    refine b_iconst (pc := 8) C dX12_begins_8 ic_0 ?_
    exact b_zret (pc := 9) C Rt dX12_begins_9 rfl hF
set_option maxHeartbeats 4000000 in
set_option maxRecDepth 20000 in
theorem e_X12_begins {l : Launch} {G : bG} {ρ : Nat → Nat} {A : Nat → Prop} (d : Nat) (x1 : Nat) (hx1 : x1 < bnS) (x2 : Int32) (σ : bSto) (r : Int32) (σ' : bSto) (hF : f_X12_begins x1 x2 σ = some (r, σ')) : bEv l G bSHf ρ A yX12_begins cX12_begins 3 (some .boolean) (d + 6) [.ref 92, .ref (1000 + x1), .int x2] σ (some (.int r)) σ' := b_met (d := d + 6) (by decide +kernel) (Nat.le_of_ble_eq_true rfl) rfl (fun X C Rt h1 h2 h3 => e_X12_begins_0 C ⟨fun o q h => by rw [h1]; exact h, fun i h => by rw [h2]; exact h, h3⟩ Rt _ hx1 _ _ hF)
/-! BenchColonyModel.benchLine -/
def f_X12_benchLine_L116 : Nat → Int32 → Int32 → Int32 → Int32 → bSto → Option (Int32 × Int32 × Int32 × bSto)
  | 0, _, _, _, _, _ => none
  | n + 1, x1, x3, x4, x5, σ => (if (σ.1 96 3) ≤ x5 then some (x1, x3, x4, σ) else (if x4 = 0 then if (((11 : Int32) + ((4 : Int32) * x5)) + (1 : Int32)) < 0 ∨ 406 ≤ (((11 : Int32) + ((4 : Int32) * x5)) + (1 : Int32)).toNatClampNeg then none else (if (σ.1 96 (((11 : Int32) + ((4 : Int32) * x5)) + (1 : Int32)).toNatClampNeg) = x3 then blet (x5 + (1 : Int32)) (fun x5_9 => f_X12_benchLine_L116 n x1 x3 (1 : Int32) x5_9 σ) else blet (x5 + (1 : Int32)) (fun x5_7 => f_X12_benchLine_L116 n x1 x3 (0 : Int32) x5_7 σ)) else blet (x5 + (1 : Int32)) (fun x5_3 => f_X12_benchLine_L116 n x1 x3 (1 : Int32) x5_3 σ)))
def f_X12_benchLine_J185 (x1 : Int32) (x3 : Int32) (σ : bSto) : Option bSto := (if (σ.1 92 13) = 0 then bbv (f_X12_next  σ) (fun σ3 => if (x1 + (1 : Int32)) < 0 ∨ 406 ≤ (x1 + (1 : Int32)).toNatClampNeg then none else blet (bI σ3 96 (x1 + (1 : Int32)).toNatClampNeg x3) (fun σ4 => bbd (f_X12_after 21 (1 : Int32) (3 : Int32) σ4) (fun v9 σ8 => if (x1 + (2 : Int32)) < 0 ∨ 406 ≤ (x1 + (2 : Int32)).toNatClampNeg then none else blet (bI σ8 96 (x1 + (2 : Int32)).toNatClampNeg v9) (fun σ10 => bbd (f_X12_after 18 (0 : Int32) (30 : Int32) σ10) (fun v15 σ14 => if (x1 + (3 : Int32)) < 0 ∨ 406 ≤ (x1 + (3 : Int32)).toNatClampNeg then none else blet (bI σ14 96 (x1 + (3 : Int32)).toNatClampNeg v15) (fun σ16 => (if (σ16.1 92 13) = 0 then blet (bI σ16 96 3 ((σ16.1 96 3) + (1 : Int32))) (fun σ20 => some σ20) else some σ16))))))) else some σ)
def f_X12_benchLine_J111 (x1 : Int32) (x3 : Int32) (s0 : Int32) (σ : bSto) : Option bSto := bl3 (f_X12_benchLine_L116 bFU x1 x3 s0 (0 : Int32) σ) (fun x1_1 x3_1 x4_1 σ2 => (if (σ2.1 92 13) = 0 then (if x4_1 = 0 then f_X12_benchLine_J185 x1_1 x3_1 σ2 else bbv (f_X12_wrong (7 : Int32) (σ2.1 92 4) σ2) (fun σ6 => f_X12_benchLine_J185 x1_1 x3_1 σ6)) else f_X12_benchLine_J185 x1_1 x3_1 σ2))
def f_X12_benchLine_J55 (x1 : Int32) (σ : bSto) : Option bSto := bbv (f_X12_must 1 σ) (fun σ2 => bbd (f_X12_number (0 : Int32) ((σ2.1 96 0) - (1 : Int32)) σ2) (fun v5 σ4 => bbd (f_X12_numberHere (0 : Int32) ((σ4.1 96 1) - (1 : Int32)) σ4) (fun v8 σ7 => blet (((10 : Int32) * v8) + v5) (fun x3_9 => (if x3_9 = (σ7.1 96 9) then f_X12_benchLine_J111 x1 x3_9 (1 : Int32) σ7 else f_X12_benchLine_J111 x1 x3_9 (0 : Int32) σ7)))))
def f_X12_benchLine  (σ : bSto) : Option bSto := (if (σ.1 92 13) = 0 then blet ((11 : Int32) + ((4 : Int32) * (σ.1 96 3))) (fun x1_2 => bbv (f_X12_newName (σ.1 96 3) σ) (fun σ5 => (if (σ5.1 92 13) = 0 then bbd (f_X12_oneOf 15 26 11 0 σ5) (fun v9 σ8 => if x1_2 < 0 ∨ 406 ≤ x1_2.toNatClampNeg then none else blet (bI σ8 96 x1_2.toNatClampNeg v9) (fun σ10 => f_X12_benchLine_J55 x1_2 σ10)) else f_X12_benchLine_J55 x1_2 σ5))) else some σ)
set_option maxHeartbeats 4000000 in
set_option maxRecDepth 20000 in
theorem e_X12_benchLine_L116 {X : bX} {l : Launch} {G : bG} {ρ : Nat → Nat} {A : Nat → Prop} {d : Nat} {σ' : bSto} (C : bCX X cX12_benchLine RX12 (d + 9)) (Hh : bH X l G bSHf ρ A 6) (Rt : bRX X none none σ') : ∀ (n : Nat) (x1 : Int32) (x3 : Int32) (x4 : Int32) (x5 : Int32) (σ : bSto) (q : (Int32 × Int32 × Int32 × bSto)), f_X12_benchLine_L116 n x1 x3 x4 x5 σ = some q → (∀ (x1 : Int32) (x3 : Int32) (x4 : Int32) (s : bSto), q = (x1, x3, x4, s) → bAJ X 163 [(0, .ref 92), (1, .int x1), (3, .int x3), (4, .int x4)] [] s) → bAJ X 116 [(0, .ref 92), (1, .int x1), (3, .int x3), (4, .int x4), (5, .int x5)] [] σ := by
  intro n
  induction n with
  | zero => intro x1 x3 x4 x5 σ q hF; rw [f_X12_benchLine_L116] at hF; cases hF
  | succ n ih =>
    intro x1 x3 x4 x5 σ q hF hx
    rw [f_X12_benchLine_L116] at hF
    refine b_iload (pc := 116) C dX12_benchLine_116 4 rfl ?_
    refine b_aload_n (pc := 118) C dX12_benchLine_118 rfl 0 rfl ?_
    refine b_getS (pc := 119) C dX12_benchLine_119 fl_X12_23 (Hh.1 _ _ sh_92) rfl ?_
    refine b_iconst (pc := 122) C dX12_benchLine_122 ic_3 ?_
    refine b_ialdK (pc := 123) C dX12_benchLine_123 (Hh.1 _ _ sh_96) tn_3 (by decide) ?_
    refine b_icmp_ge (tgt := 163) (pc := 124) C dX12_benchLine_124 rfl (fun hc1 => ?_) (fun hc1 => ?_)
    · rw [if_pos hc1] at hF
      exact b_sub [0, 1, 2, 3] rfl (hx _ _ _ _ (Option.some.inj hF).symm )
    · rw [if_neg hc1] at hF
      refine b_iload (pc := 127) C dX12_benchLine_127 3 rfl ?_
      refine b_if_ne (tgt := 150) (pc := 129) C dX12_benchLine_129 rfl (fun hc2 => ?_) (fun hc2 => ?_)
      · rw [if_neg hc2] at hF
        refine b_iconst (pc := 150) C dX12_benchLine_150 ic_1 ?_
        refine b_goto (tgt := 155) (pc := 151) C dX12_benchLine_151 rfl ?_
        refine b_istore (L' := [(4, .int (1 : Int32)), (0, .ref 92), (1, .int x1), (3, .int x3), (5, .int x5)]) (pc := 155) C dX12_benchLine_155 rfl (Hh.2.1 _ (Nat.le_of_ble_eq_true rfl)) rfl ?_
        obtain ⟨x5_3, e4, hF⟩ := blet_e hF
        refine b_iinc (L' := [(5, .int x5_3), (4, .int (1 : Int32)), (0, .ref 92), (1, .int x1), (3, .int x3)]) (pc := 157) C dX12_benchLine_157 4 rfl ic_1 e4 (Hh.2.1 _ (Nat.le_of_ble_eq_true rfl)) rfl ?_
        refine b_goto (tgt := 116) (pc := 160) C dX12_benchLine_160 rfl ?_
        exact b_sub [2, 3, 4, 1, 0] rfl (ih x1 x3 (1 : Int32) x5_3 _ _ hF hx)
      · rw [if_pos hc2] at hF
        refine b_aload_n (pc := 132) C dX12_benchLine_132 rfl 0 rfl ?_
        refine b_getS (pc := 133) C dX12_benchLine_133 fl_X12_23 (Hh.1 _ _ sh_92) rfl ?_
        refine b_bipush (pc := 136) C dX12_benchLine_136 bp_11 ?_
        refine b_iconst (pc := 138) C dX12_benchLine_138 ic_4 ?_
        refine b_iload (pc := 139) C dX12_benchLine_139 4 rfl ?_
        refine b_imul (pc := 141) C dX12_benchLine_141 ?_
        refine b_iadd (pc := 142) C dX12_benchLine_142 ?_
        refine b_iconst (pc := 143) C dX12_benchLine_143 ic_1 ?_
        refine b_iadd (pc := 144) C dX12_benchLine_144 ?_
        obtain ⟨hb5, hF⟩ := bif_n hF
        refine b_iald (pc := 145) C dX12_benchLine_145 (Hh.1 _ _ sh_96) hb5 ?_
        refine b_iload_n (pc := 146) C dX12_benchLine_146 rfl 2 rfl ?_
        refine b_icmp_ne (tgt := 154) (pc := 147) C dX12_benchLine_147 rfl (fun hc6 => ?_) (fun hc6 => ?_)
        · rw [if_neg hc6] at hF
          refine b_iconst (pc := 154) C dX12_benchLine_154 ic_0 ?_
          refine b_istore (L' := [(4, .int (0 : Int32)), (0, .ref 92), (1, .int x1), (3, .int x3), (5, .int x5)]) (pc := 155) C dX12_benchLine_155 rfl (Hh.2.1 _ (Nat.le_of_ble_eq_true rfl)) rfl ?_
          obtain ⟨x5_7, e8, hF⟩ := blet_e hF
          refine b_iinc (L' := [(5, .int x5_7), (4, .int (0 : Int32)), (0, .ref 92), (1, .int x1), (3, .int x3)]) (pc := 157) C dX12_benchLine_157 4 rfl ic_1 e8 (Hh.2.1 _ (Nat.le_of_ble_eq_true rfl)) rfl ?_
          refine b_goto (tgt := 116) (pc := 160) C dX12_benchLine_160 rfl ?_
          exact b_sub [2, 3, 4, 1, 0] rfl (ih x1 x3 (0 : Int32) x5_7 _ _ hF hx)
        · rw [if_pos hc6] at hF
          refine b_iconst (pc := 150) C dX12_benchLine_150 ic_1 ?_
          refine b_goto (tgt := 155) (pc := 151) C dX12_benchLine_151 rfl ?_
          refine b_istore (L' := [(4, .int (1 : Int32)), (0, .ref 92), (1, .int x1), (3, .int x3), (5, .int x5)]) (pc := 155) C dX12_benchLine_155 rfl (Hh.2.1 _ (Nat.le_of_ble_eq_true rfl)) rfl ?_
          obtain ⟨x5_9, e10, hF⟩ := blet_e hF
          refine b_iinc (L' := [(5, .int x5_9), (4, .int (1 : Int32)), (0, .ref 92), (1, .int x1), (3, .int x3)]) (pc := 157) C dX12_benchLine_157 4 rfl ic_1 e10 (Hh.2.1 _ (Nat.le_of_ble_eq_true rfl)) rfl ?_
          refine b_goto (tgt := 116) (pc := 160) C dX12_benchLine_160 rfl ?_
          exact b_sub [2, 3, 4, 1, 0] rfl (ih x1 x3 (1 : Int32) x5_9 _ _ hF hx)
set_option maxHeartbeats 4000000 in
set_option maxRecDepth 20000 in
theorem e_X12_benchLine_J185 {X : bX} {l : Launch} {G : bG} {ρ : Nat → Nat} {A : Nat → Prop} {d : Nat} {σ' : bSto} (C : bCX X cX12_benchLine RX12 (d + 9)) (Hh : bH X l G bSHf ρ A 6) (Rt : bRX X none none σ') (x1 : Int32) (x3 : Int32) (σ : bSto) (hF : f_X12_benchLine_J185 x1 x3 σ = some σ') : bAJ X 185 [(0, .ref 92), (1, .int x1), (3, .int x3)] [] σ := by
  rw [f_X12_benchLine_J185] at hF
  refine b_aload_n (pc := 185) C dX12_benchLine_185 rfl 0 rfl ?_
  refine b_getI (pc := 186) C dX12_benchLine_186 fl_X12_103 (Hh.1 _ _ sh_92) rfl ?_
  refine b_if_eq (tgt := 193) (pc := 189) C dX12_benchLine_189 rfl (fun hc1 => ?_) (fun hc1 => ?_)
  · rw [if_pos hc1] at hF
    refine b_aload_n (pc := 193) C dX12_benchLine_193 rfl 0 rfl ?_
    obtain ⟨σ3, hc2, hF⟩ := bbv_e hF
    refine b_cV0v (d' := (d + 8)) (pc := 194) C dX12_benchLine_194 mm_X12_124 (Hh.1 _ _ sh_92) rfl (Nat.le_of_ble_eq_true rfl) (by omega) (Hh.2.2 _ _ _ _ _ _ _ _ _ (lvl_eq (by omega) (e_X12_next (d + 7)  _ _ hc2))) ?_
    refine b_aload_n (pc := 197) C dX12_benchLine_197 rfl 0 rfl ?_
    refine b_getS (pc := 198) C dX12_benchLine_198 fl_X12_23 (Hh.1 _ _ sh_92) rfl ?_
    refine b_iload_n (pc := 201) C dX12_benchLine_201 rfl 1 rfl ?_
    refine b_iconst (pc := 202) C dX12_benchLine_202 ic_1 ?_
    refine b_iadd (pc := 203) C dX12_benchLine_203 ?_
    refine b_iload_n (pc := 204) C dX12_benchLine_204 rfl 2 rfl ?_
    obtain ⟨hb6, hF⟩ := bif_n hF
    obtain ⟨σ4, e5, hF⟩ := blet_e hF
    refine b_iast (pc := 205) C dX12_benchLine_205 (Hh.1 _ _ sh_96) hb6 e5 ?_
    refine b_aload_n (pc := 206) C dX12_benchLine_206 rfl 0 rfl ?_
    refine b_getS (pc := 207) C dX12_benchLine_207 fl_X12_23 (Hh.1 _ _ sh_92) rfl ?_
    refine b_iload_n (pc := 210) C dX12_benchLine_210 rfl 1 rfl ?_
    refine b_iconst (pc := 211) C dX12_benchLine_211 ic_2 ?_
    refine b_iadd (pc := 212) C dX12_benchLine_212 ?_
    refine b_aload_n (pc := 213) C dX12_benchLine_213 rfl 0 rfl ?_
    refine b_ldcSw (pc := 214) C dX12_benchLine_214 "seats" 48 rfl ?_
    refine b_iconst (pc := 217) C dX12_benchLine_217 ic_1 ?_
    refine b_iconst (pc := 218) C dX12_benchLine_218 ic_3 ?_
    obtain ⟨v9, σ8, hc7, hF⟩ := bbd_e hF
    refine b_cV3i (d' := (d + 8)) (pc := 219) C dX12_benchLine_219 mm_X12_231 (Hh.1 _ _ sh_92) rfl (Nat.le_of_ble_eq_true rfl) (by omega) (Hh.2.2 _ _ _ _ _ _ _ _ _ (lvl_eq (by omega) (e_X12_after (d + 0) _ (by decide) (1 : Int32) (3 : Int32) _ _ _ hc7))) ?_
    obtain ⟨hb12, hF⟩ := bif_n hF
    obtain ⟨σ10, e11, hF⟩ := blet_e hF
    refine b_iast (pc := 222) C dX12_benchLine_222 (Hh.1 _ _ sh_96) hb12 e11 ?_
    refine b_aload_n (pc := 223) C dX12_benchLine_223 rfl 0 rfl ?_
    refine b_getS (pc := 224) C dX12_benchLine_224 fl_X12_23 (Hh.1 _ _ sh_92) rfl ?_
    refine b_iload_n (pc := 227) C dX12_benchLine_227 rfl 1 rfl ?_
    refine b_iconst (pc := 228) C dX12_benchLine_228 ic_3 ?_
    refine b_iadd (pc := 229) C dX12_benchLine_229 ?_
    refine b_aload_n (pc := 230) C dX12_benchLine_230 rfl 0 rfl ?_
    refine b_ldcSw (pc := 231) C dX12_benchLine_231 "rent" 49 rfl ?_
    refine b_iconst (pc := 234) C dX12_benchLine_234 ic_0 ?_
    refine b_bipush (pc := 235) C dX12_benchLine_235 bp_30 ?_
    obtain ⟨v15, σ14, hc13, hF⟩ := bbd_e hF
    refine b_cV3i (d' := (d + 8)) (pc := 237) C dX12_benchLine_237 mm_X12_231 (Hh.1 _ _ sh_92) rfl (Nat.le_of_ble_eq_true rfl) (by omega) (Hh.2.2 _ _ _ _ _ _ _ _ _ (lvl_eq (by omega) (e_X12_after (d + 0) _ (by decide) (0 : Int32) (30 : Int32) _ _ _ hc13))) ?_
    obtain ⟨hb18, hF⟩ := bif_n hF
    obtain ⟨σ16, e17, hF⟩ := blet_e hF
    refine b_iast (pc := 240) C dX12_benchLine_240 (Hh.1 _ _ sh_96) hb18 e17 ?_
    refine b_aload_n (pc := 241) C dX12_benchLine_241 rfl 0 rfl ?_
    refine b_getI (pc := 242) C dX12_benchLine_242 fl_X12_103 (Hh.1 _ _ sh_92) rfl ?_
    refine b_if_ne (tgt := 258) (pc := 245) C dX12_benchLine_245 rfl (fun hc19 => ?_) (fun hc19 => ?_)
    · rw [if_neg hc19] at hF
      exact b_vret (pc := 258) C Rt dX12_benchLine_258 hF
    · rw [if_pos hc19] at hF
      refine b_aload_n (pc := 248) C dX12_benchLine_248 rfl 0 rfl ?_
      refine b_getS (pc := 249) C dX12_benchLine_249 fl_X12_23 (Hh.1 _ _ sh_92) rfl ?_
      refine b_iconst (pc := 252) C dX12_benchLine_252 ic_3 ?_
      refine b_dup2 (pc := 253) C dX12_benchLine_253 rfl rfl ?_
      refine b_ialdK (pc := 254) C dX12_benchLine_254 (Hh.1 _ _ sh_96) tn_3 (by decide) ?_
      refine b_iconst (pc := 255) C dX12_benchLine_255 ic_1 ?_
      refine b_iadd (pc := 256) C dX12_benchLine_256 ?_
      obtain ⟨σ20, e21, hF⟩ := blet_e hF
      refine b_iastK (pc := 257) C dX12_benchLine_257 (Hh.1 _ _ sh_96) tn_3 (by decide) e21 ?_
      exact b_vret (pc := 258) C Rt dX12_benchLine_258 hF
  · rw [if_neg hc1] at hF
    exact b_vret (pc := 192) C Rt dX12_benchLine_192 hF
set_option maxHeartbeats 4000000 in
set_option maxRecDepth 20000 in
theorem e_X12_benchLine_J111 {X : bX} {l : Launch} {G : bG} {ρ : Nat → Nat} {A : Nat → Prop} {d : Nat} {σ' : bSto} (C : bCX X cX12_benchLine RX12 (d + 9)) (Hh : bH X l G bSHf ρ A 6) (Rt : bRX X none none σ') (x1 : Int32) (x3 : Int32) (s0 : Int32) (σ : bSto) (hF : f_X12_benchLine_J111 x1 x3 s0 σ = some σ') : bAJ X 111 [(0, .ref 92), (1, .int x1), (3, .int x3)] [.int s0] σ := by
  rw [f_X12_benchLine_J111] at hF
  refine b_istore (L' := [(4, .int s0), (0, .ref 92), (1, .int x1), (3, .int x3)]) (pc := 111) C dX12_benchLine_111 rfl (Hh.2.1 _ (Nat.le_of_ble_eq_true rfl)) rfl ?_
  refine b_iconst (pc := 113) C dX12_benchLine_113 ic_0 ?_
  refine b_istore (L' := [(5, .int (0 : Int32)), (4, .int s0), (0, .ref 92), (1, .int x1), (3, .int x3)]) (pc := 114) C dX12_benchLine_114 rfl (Hh.2.1 _ (Nat.le_of_ble_eq_true rfl)) rfl ?_
  obtain ⟨x1_1, x3_1, x4_1, σ2, hq1, hF⟩ := bl3_e hF
  refine b_sub [2, 3, 4, 1, 0] rfl (e_X12_benchLine_L116 C Hh Rt bFU x1 x3 s0 (0 : Int32) _ _ hq1 (fun _ _ _ _ e  => ?_))
  cases e
  refine b_aload_n (pc := 163) C dX12_benchLine_163 rfl 0 rfl ?_
  refine b_getI (pc := 164) C dX12_benchLine_164 fl_X12_103 (Hh.1 _ _ sh_92) rfl ?_
  refine b_if_ne (tgt := 185) (pc := 167) C dX12_benchLine_167 rfl (fun hc3 => ?_) (fun hc3 => ?_)
  · rw [if_neg hc3] at hF
    exact b_sub [0, 1, 2] rfl (e_X12_benchLine_J185 C Hh Rt x1_1 x3_1 _ hF)
  · rw [if_pos hc3] at hF
    refine b_iload (pc := 170) C dX12_benchLine_170 3 rfl ?_
    refine b_if_eq (tgt := 185) (pc := 172) C dX12_benchLine_172 rfl (fun hc4 => ?_) (fun hc4 => ?_)
    · rw [if_pos hc4] at hF
      exact b_sub [0, 1, 2] rfl (e_X12_benchLine_J185 C Hh Rt x1_1 x3_1 _ hF)
    · rw [if_neg hc4] at hF
      refine b_aload_n (pc := 175) C dX12_benchLine_175 rfl 0 rfl ?_
      refine b_bipush (pc := 176) C dX12_benchLine_176 bp_7 ?_
      refine b_aload_n (pc := 178) C dX12_benchLine_178 rfl 0 rfl ?_
      refine b_getI (pc := 179) C dX12_benchLine_179 fl_X12_84 (Hh.1 _ _ sh_92) rfl ?_
      obtain ⟨σ6, hc5, hF⟩ := bbv_e hF
      refine b_cV2v (d' := (d + 8)) (pc := 182) C dX12_benchLine_182 mm_X12_130 (Hh.1 _ _ sh_92) rfl (Nat.le_of_ble_eq_true rfl) (by omega) (Hh.2.2 _ _ _ _ _ _ _ _ _ (lvl_eq (by omega) (e_X12_wrong (d + 8) (7 : Int32) (σ2.1 92 4) _ _ hc5))) ?_
      exact b_sub [0, 1, 2] rfl (e_X12_benchLine_J185 C Hh Rt x1_1 x3_1 _ hF)
set_option maxHeartbeats 4000000 in
set_option maxRecDepth 20000 in
theorem e_X12_benchLine_J55 {X : bX} {l : Launch} {G : bG} {ρ : Nat → Nat} {A : Nat → Prop} {d : Nat} {σ' : bSto} (C : bCX X cX12_benchLine RX12 (d + 9)) (Hh : bH X l G bSHf ρ A 6) (Rt : bRX X none none σ') (x1 : Int32) (σ : bSto) (hF : f_X12_benchLine_J55 x1 σ = some σ') : bAJ X 55 [(0, .ref 92), (1, .int x1)] [] σ := by
  rw [f_X12_benchLine_J55] at hF
  refine b_aload_n (pc := 55) C dX12_benchLine_55 rfl 0 rfl ?_
  refine b_ldcSw (pc := 56) C dX12_benchLine_56 "at" 47 rfl ?_
  obtain ⟨σ2, hc1, hF⟩ := bbv_e hF
  refine b_cV1v (d' := (d + 8)) (pc := 59) C dX12_benchLine_59 mm_X12_174 (Hh.1 _ _ sh_92) rfl (Nat.le_of_ble_eq_true rfl) (by omega) (Hh.2.2 _ _ _ _ _ _ _ _ _ (lvl_eq (by omega) (e_X12_must (d + 1) _ (by decide) _ _ hc1))) ?_
  refine b_aload_n (pc := 62) C dX12_benchLine_62 rfl 0 rfl ?_
  refine b_iconst (pc := 63) C dX12_benchLine_63 ic_0 ?_
  refine b_aload_n (pc := 64) C dX12_benchLine_64 rfl 0 rfl ?_
  refine b_getS (pc := 65) C dX12_benchLine_65 fl_X12_23 (Hh.1 _ _ sh_92) rfl ?_
  refine b_iconst (pc := 68) C dX12_benchLine_68 ic_0 ?_
  refine b_ialdK (pc := 69) C dX12_benchLine_69 (Hh.1 _ _ sh_96) tn_0 (by decide) ?_
  refine b_iconst (pc := 70) C dX12_benchLine_70 ic_1 ?_
  refine b_isub (pc := 71) C dX12_benchLine_71 ?_
  obtain ⟨v5, σ4, hc3, hF⟩ := bbd_e hF
  refine b_cV2i (d' := (d + 8)) (pc := 72) C dX12_benchLine_72 mm_X12_178 (Hh.1 _ _ sh_92) rfl (Nat.le_of_ble_eq_true rfl) (by omega) (Hh.2.2 _ _ _ _ _ _ _ _ _ (lvl_eq (by omega) (e_X12_number (d + 6) (0 : Int32) ((σ2.1 96 0) - (1 : Int32)) _ _ _ hc3))) ?_
  refine b_istore_n (L' := [(2, .int v5), (0, .ref 92), (1, .int x1)]) (pc := 75) C dX12_benchLine_75 rfl rfl (Hh.2.1 _ (Nat.le_of_ble_eq_true rfl)) rfl ?_
  refine b_bipush (pc := 76) C dX12_benchLine_76 bp_10 ?_
  refine b_aload_n (pc := 78) C dX12_benchLine_78 rfl 1 rfl ?_
  refine b_iconst (pc := 79) C dX12_benchLine_79 ic_0 ?_
  refine b_aload_n (pc := 80) C dX12_benchLine_80 rfl 1 rfl ?_
  refine b_getS (pc := 81) C dX12_benchLine_81 fl_X12_23 (Hh.1 _ _ sh_92) rfl ?_
  refine b_iconst (pc := 84) C dX12_benchLine_84 ic_1 ?_
  refine b_ialdK (pc := 85) C dX12_benchLine_85 (Hh.1 _ _ sh_96) tn_1 (by decide) ?_
  refine b_iconst (pc := 86) C dX12_benchLine_86 ic_1 ?_
  refine b_isub (pc := 87) C dX12_benchLine_87 ?_
  obtain ⟨v8, σ7, hc6, hF⟩ := bbd_e hF
  refine b_cV2i (d' := (d + 8)) (pc := 88) C dX12_benchLine_88 mm_X12_171 (Hh.1 _ _ sh_92) rfl (Nat.le_of_ble_eq_true rfl) (by omega) (Hh.2.2 _ _ _ _ _ _ _ _ _ (lvl_eq (by omega) (e_X12_numberHere (d + 7) (0 : Int32) ((σ4.1 96 1) - (1 : Int32)) _ _ _ hc6))) ?_
  refine b_imul (pc := 91) C dX12_benchLine_91 ?_
  refine b_iload_n (pc := 92) C dX12_benchLine_92 rfl 0 rfl ?_
  refine b_iadd (pc := 93) C dX12_benchLine_93 ?_
  obtain ⟨x3_9, e10, hF⟩ := blet_e hF
  refine b_istore_n (L' := [(3, .int x3_9), (2, .int v5), (0, .ref 92), (1, .int x1)]) (pc := 94) C dX12_benchLine_94 rfl e10 (Hh.2.1 _ (Nat.le_of_ble_eq_true rfl)) rfl ?_
  refine b_iload_n (pc := 95) C dX12_benchLine_95 rfl 0 rfl ?_
  refine b_aload_n (pc := 96) C dX12_benchLine_96 rfl 2 rfl ?_
  refine b_getS (pc := 97) C dX12_benchLine_97 fl_X12_23 (Hh.1 _ _ sh_92) rfl ?_
  refine b_bipush (pc := 100) C dX12_benchLine_100 bp_9 ?_
  refine b_ialdK (pc := 102) C dX12_benchLine_102 (Hh.1 _ _ sh_96) tn_9 (by decide) ?_
  refine b_icmp_ne (tgt := 110) (pc := 103) C dX12_benchLine_103 rfl (fun hc11 => ?_) (fun hc11 => ?_)
  · rw [if_neg hc11] at hF
    refine b_iconst (pc := 110) C dX12_benchLine_110 ic_0 ?_
    exact b_sub [2, 3, 0] rfl (e_X12_benchLine_J111 C Hh Rt x1 x3_9 (0 : Int32) _ hF)
  · rw [if_pos hc11] at hF
    refine b_iconst (pc := 106) C dX12_benchLine_106 ic_1 ?_
    refine b_goto (tgt := 111) (pc := 107) C dX12_benchLine_107 rfl ?_
    exact b_sub [2, 3, 0] rfl (e_X12_benchLine_J111 C Hh Rt x1 x3_9 (1 : Int32) _ hF)
set_option maxHeartbeats 4000000 in
set_option maxRecDepth 20000 in
theorem e_X12_benchLine_0 {X : bX} {l : Launch} {G : bG} {ρ : Nat → Nat} {A : Nat → Prop} {d : Nat} {σ' : bSto} (C : bCX X cX12_benchLine RX12 (d + 9)) (Hh : bH X l G bSHf ρ A 6) (Rt : bRX X none none σ')  (σ : bSto) (hF : f_X12_benchLine  σ = some σ') : bAJ X 0 [(0, .ref 92)] [] σ := by
  rw [f_X12_benchLine] at hF
  refine b_aload_n (pc := 0) C dX12_benchLine_0 rfl 0 rfl ?_
  refine b_getI (pc := 1) C dX12_benchLine_1 fl_X12_103 (Hh.1 _ _ sh_92) rfl ?_
  refine b_if_eq (tgt := 8) (pc := 4) C dX12_benchLine_4 rfl (fun hc1 => ?_) (fun hc1 => ?_)
  · rw [if_pos hc1] at hF
    refine b_bipush (pc := 8) C dX12_benchLine_8 bp_11 ?_
    refine b_iconst (pc := 10) C dX12_benchLine_10 ic_4 ?_
    refine b_aload_n (pc := 11) C dX12_benchLine_11 rfl 0 rfl ?_
    refine b_getS (pc := 12) C dX12_benchLine_12 fl_X12_23 (Hh.1 _ _ sh_92) rfl ?_
    refine b_iconst (pc := 15) C dX12_benchLine_15 ic_3 ?_
    refine b_ialdK (pc := 16) C dX12_benchLine_16 (Hh.1 _ _ sh_96) tn_3 (by decide) ?_
    refine b_imul (pc := 17) C dX12_benchLine_17 ?_
    refine b_iadd (pc := 18) C dX12_benchLine_18 ?_
    obtain ⟨x1_2, e3, hF⟩ := blet_e hF
    refine b_istore_n (L' := [(1, .int x1_2), (0, .ref 92)]) (pc := 19) C dX12_benchLine_19 rfl e3 (Hh.2.1 _ (Nat.le_of_ble_eq_true rfl)) rfl ?_
    refine b_aload_n (pc := 20) C dX12_benchLine_20 rfl 1 rfl ?_
    refine b_aload_n (pc := 21) C dX12_benchLine_21 rfl 1 rfl ?_
    refine b_getS (pc := 22) C dX12_benchLine_22 fl_X12_23 (Hh.1 _ _ sh_92) rfl ?_
    refine b_iconst (pc := 25) C dX12_benchLine_25 ic_3 ?_
    refine b_ialdK (pc := 26) C dX12_benchLine_26 (Hh.1 _ _ sh_96) tn_3 (by decide) ?_
    obtain ⟨σ5, hc4, hF⟩ := bbv_e hF
    refine b_cV1v (d' := (d + 8)) (pc := 27) C dX12_benchLine_27 mm_X12_243 (Hh.1 _ _ sh_92) rfl (Nat.le_of_ble_eq_true rfl) (by omega) (Hh.2.2 _ _ _ _ _ _ _ _ _ (lvl_eq (by omega) (e_X12_newName (d + 1) (σ.1 96 3) _ _ hc4))) ?_
    refine b_aload_n (pc := 30) C dX12_benchLine_30 rfl 1 rfl ?_
    refine b_getI (pc := 31) C dX12_benchLine_31 fl_X12_103 (Hh.1 _ _ sh_92) rfl ?_
    refine b_if_ne (tgt := 55) (pc := 34) C dX12_benchLine_34 rfl (fun hc6 => ?_) (fun hc6 => ?_)
    · rw [if_neg hc6] at hF
      exact b_sub [1, 0] rfl (e_X12_benchLine_J55 C Hh Rt x1_2 _ hF)
    · rw [if_pos hc6] at hF
      refine b_aload_n (pc := 37) C dX12_benchLine_37 rfl 1 rfl ?_
      refine b_getS (pc := 38) C dX12_benchLine_38 fl_X12_23 (Hh.1 _ _ sh_92) rfl ?_
      refine b_iload_n (pc := 41) C dX12_benchLine_41 rfl 0 rfl ?_
      refine b_aload_n (pc := 42) C dX12_benchLine_42 rfl 1 rfl ?_
      refine b_ldcS (pc := 43) C dX12_benchLine_43 "open" 43 rfl ?_
      refine b_ldcS (pc := 45) C dX12_benchLine_45 "uppe\x72" 44 rfl ?_
      refine b_ldcS (pc := 47) C dX12_benchLine_47 "island" 45 rfl ?_
      refine b_ldcS (pc := 49) C dX12_benchLine_49 "" 46 rfl ?_
      obtain ⟨v9, σ8, hc7, hF⟩ := bbd_e hF
      refine b_cV4i (d' := (d + 8)) (pc := 51) C dX12_benchLine_51 mm_X12_254 (Hh.1 _ _ sh_92) rfl (Nat.le_of_ble_eq_true rfl) (by omega) (Hh.2.2 _ _ _ _ _ _ _ _ _ (lvl_eq (by omega) (e_X12_oneOf (d + 2) _ (by decide) _ (by decide) _ (by decide) _ (by decide) _ _ _ hc7))) ?_
      obtain ⟨hb12, hF⟩ := bif_n hF
      obtain ⟨σ10, e11, hF⟩ := blet_e hF
      refine b_iast (pc := 54) C dX12_benchLine_54 (Hh.1 _ _ sh_96) hb12 e11 ?_
      exact b_sub [1, 0] rfl (e_X12_benchLine_J55 C Hh Rt x1_2 _ hF)
  · rw [if_neg hc1] at hF
    exact b_vret (pc := 7) C Rt dX12_benchLine_7 hF
set_option maxHeartbeats 4000000 in
set_option maxRecDepth 20000 in
theorem e_X12_benchLine {l : Launch} {G : bG} {ρ : Nat → Nat} {A : Nat → Prop} (d : Nat)  (σ : bSto) (σ' : bSto) (hF : f_X12_benchLine  σ = some σ') : bEv l G bSHf ρ A yX12_benchLine cX12_benchLine 6 none (d + 9) [.ref 92] σ none σ' := b_met (d := d + 9) (by decide +kernel) (Nat.le_of_ble_eq_true rfl) rfl (fun X C Rt h1 h2 h3 => e_X12_benchLine_0 C ⟨fun o q h => by rw [h1]; exact h, fun i h => by rw [h2]; exact h, h3⟩ Rt  _ hF)
/-! BenchColonyModel.mayBe -/
def f_X12_mayBe_J33  (σ : bSto) : Option (Int32 × bSto) := some ((0 : Int32), σ)
def f_X12_mayBe_J19 (x0 : Int32) (x1 : Int32) (σ : bSto) : Option (Int32 × bSto) := (if x1 = (2 : Int32) then (if x0 = (2 : Int32) then some ((1 : Int32), σ) else f_X12_mayBe_J33  σ) else f_X12_mayBe_J33  σ)
def f_X12_mayBe (x0 : Int32) (x1 : Int32) (σ : bSto) : Option (Int32 × bSto) := (if x1 = 0 then some ((1 : Int32), σ) else (if x0 = (3 : Int32) then some ((1 : Int32), σ) else (if x1 = (1 : Int32) then (if x0 = (1 : Int32) then some ((1 : Int32), σ) else f_X12_mayBe_J19 x0 x1 σ) else f_X12_mayBe_J19 x0 x1 σ)))
set_option maxHeartbeats 4000000 in
set_option maxRecDepth 20000 in
theorem e_X12_mayBe_J33 {X : bX} {l : Launch} {G : bG} {ρ : Nat → Nat} {A : Nat → Prop} {d : Nat} {r : Int32} {σ' : bSto} (C : bCX X cX12_mayBe RX12 (d + 0)) (Hh : bH X l G bSHf ρ A 2) (Rt : bRX X (some .boolean) (some (.int r)) σ')  (σ : bSto) (hF : f_X12_mayBe_J33  σ = some (r, σ')) : bAJ X 33 [] [] σ := by
  rw [f_X12_mayBe_J33] at hF
  refine b_iconst (pc := 33) C dX12_mayBe_33 ic_0 ?_
  exact b_zret (pc := 34) C Rt dX12_mayBe_34 rfl hF
set_option maxHeartbeats 4000000 in
set_option maxRecDepth 20000 in
theorem e_X12_mayBe_J19 {X : bX} {l : Launch} {G : bG} {ρ : Nat → Nat} {A : Nat → Prop} {d : Nat} {r : Int32} {σ' : bSto} (C : bCX X cX12_mayBe RX12 (d + 0)) (Hh : bH X l G bSHf ρ A 2) (Rt : bRX X (some .boolean) (some (.int r)) σ') (x0 : Int32) (x1 : Int32) (σ : bSto) (hF : f_X12_mayBe_J19 x0 x1 σ = some (r, σ')) : bAJ X 19 [(0, .int x0), (1, .int x1)] [] σ := by
  rw [f_X12_mayBe_J19] at hF
  refine b_iload_n (pc := 19) C dX12_mayBe_19 rfl 1 rfl ?_
  refine b_iconst (pc := 20) C dX12_mayBe_20 ic_2 ?_
  refine b_icmp_ne (tgt := 33) (pc := 21) C dX12_mayBe_21 rfl (fun hc1 => ?_) (fun hc1 => ?_)
  · rw [if_neg hc1] at hF
    exact b_sub [] rfl (e_X12_mayBe_J33 C Hh Rt  _ hF)
  · rw [if_pos hc1] at hF
    refine b_iload_n (pc := 24) C dX12_mayBe_24 rfl 0 rfl ?_
    refine b_iconst (pc := 25) C dX12_mayBe_25 ic_2 ?_
    refine b_icmp_ne (tgt := 33) (pc := 26) C dX12_mayBe_26 rfl (fun hc2 => ?_) (fun hc2 => ?_)
    · rw [if_neg hc2] at hF
      exact b_sub [] rfl (e_X12_mayBe_J33 C Hh Rt  _ hF)
    · rw [if_pos hc2] at hF
      refine b_iconst (pc := 29) C dX12_mayBe_29 ic_1 ?_
      refine b_goto (tgt := 34) (pc := 30) C dX12_mayBe_30 rfl ?_
      exact b_zret (pc := 34) C Rt dX12_mayBe_34 rfl hF
set_option maxHeartbeats 4000000 in
set_option maxRecDepth 20000 in
theorem e_X12_mayBe_0 {X : bX} {l : Launch} {G : bG} {ρ : Nat → Nat} {A : Nat → Prop} {d : Nat} {r : Int32} {σ' : bSto} (C : bCX X cX12_mayBe RX12 (d + 0)) (Hh : bH X l G bSHf ρ A 2) (Rt : bRX X (some .boolean) (some (.int r)) σ') (x0 : Int32) (x1 : Int32) (σ : bSto) (hF : f_X12_mayBe x0 x1 σ = some (r, σ')) : bAJ X 0 [(0, .int x0), (1, .int x1)] [] σ := by
  rw [f_X12_mayBe] at hF
  refine b_iload_n (pc := 0) C dX12_mayBe_0 rfl 1 rfl ?_
  refine b_if_eq (tgt := 29) (pc := 1) C dX12_mayBe_1 rfl (fun hc1 => ?_) (fun hc1 => ?_)
  · rw [if_pos hc1] at hF
    refine b_iconst (pc := 29) C dX12_mayBe_29 ic_1 ?_
    refine b_goto (tgt := 34) (pc := 30) C dX12_mayBe_30 rfl ?_
    exact b_zret (pc := 34) C Rt dX12_mayBe_34 rfl hF
  · rw [if_neg hc1] at hF
    refine b_iload_n (pc := 4) C dX12_mayBe_4 rfl 0 rfl ?_
    refine b_iconst (pc := 5) C dX12_mayBe_5 ic_3 ?_
    refine b_icmp_eq (tgt := 29) (pc := 6) C dX12_mayBe_6 rfl (fun hc2 => ?_) (fun hc2 => ?_)
    · rw [if_pos hc2] at hF
      refine b_iconst (pc := 29) C dX12_mayBe_29 ic_1 ?_
      refine b_goto (tgt := 34) (pc := 30) C dX12_mayBe_30 rfl ?_
      exact b_zret (pc := 34) C Rt dX12_mayBe_34 rfl hF
    · rw [if_neg hc2] at hF
      refine b_iload_n (pc := 9) C dX12_mayBe_9 rfl 1 rfl ?_
      refine b_iconst (pc := 10) C dX12_mayBe_10 ic_1 ?_
      refine b_icmp_ne (tgt := 19) (pc := 11) C dX12_mayBe_11 rfl (fun hc3 => ?_) (fun hc3 => ?_)
      · rw [if_neg hc3] at hF
        exact b_sub [0, 1] rfl (e_X12_mayBe_J19 C Hh Rt x0 x1 _ hF)
      · rw [if_pos hc3] at hF
        refine b_iload_n (pc := 14) C dX12_mayBe_14 rfl 0 rfl ?_
        refine b_iconst (pc := 15) C dX12_mayBe_15 ic_1 ?_
        refine b_icmp_eq (tgt := 29) (pc := 16) C dX12_mayBe_16 rfl (fun hc4 => ?_) (fun hc4 => ?_)
        · rw [if_pos hc4] at hF
          refine b_iconst (pc := 29) C dX12_mayBe_29 ic_1 ?_
          refine b_goto (tgt := 34) (pc := 30) C dX12_mayBe_30 rfl ?_
          exact b_zret (pc := 34) C Rt dX12_mayBe_34 rfl hF
        · rw [if_neg hc4] at hF
          exact b_sub [0, 1] rfl (e_X12_mayBe_J19 C Hh Rt x0 x1 _ hF)
set_option maxHeartbeats 4000000 in
set_option maxRecDepth 20000 in
theorem e_X12_mayBe {l : Launch} {G : bG} {ρ : Nat → Nat} {A : Nat → Prop} (d : Nat) (x0 : Int32) (x1 : Int32) (σ : bSto) (r : Int32) (σ' : bSto) (hF : f_X12_mayBe x0 x1 σ = some (r, σ')) : bEv l G bSHf ρ A yX12_mayBe cX12_mayBe 2 (some .boolean) (d + 0) [.int x0, .int x1] σ (some (.int r)) σ' := b_met (d := d + 0) (by decide +kernel) (Nat.le_of_ble_eq_true rfl) rfl (fun X C Rt h1 h2 h3 => e_X12_mayBe_0 C ⟨fun o q h => by rw [h1]; exact h, fun i h => by rw [h2]; exact h, h3⟩ Rt _ _ _ hF)
/-! BenchColonyModel.personLine -/
def f_X12_personLine_L117 : Nat → Int32 → Int32 → Int32 → bSto → Option (Int32 × Int32 × bSto)
  | 0, _, _, _, _ => none
  | n + 1, x1, x2, x3, σ => (if (σ.1 92 8) ≤ x3 then some (x1, x2, σ) else if x3 < 0 ∨ 8 ≤ x3.toNatClampNeg then none else if ((((226 : Int32) + ((9 : Int32) * x1)) + (1 : Int32)) + x3) < 0 ∨ 406 ≤ ((((226 : Int32) + ((9 : Int32) * x1)) + (1 : Int32)) + x3).toNatClampNeg then none else blet (bI σ 96 ((((226 : Int32) + ((9 : Int32) * x1)) + (1 : Int32)) + x3).toNatClampNeg (σ.1 94 x3.toNatClampNeg)) (fun σ3 => blet (x3 + (1 : Int32)) (fun x3_6 => f_X12_personLine_L117 n x1 x2 x3_6 σ3)))
def f_X12_personLine_J336  (σ : bSto) : Option bSto := (if (σ.1 92 13) = 0 then blet (bI σ 96 4 ((σ.1 96 4) + (1 : Int32))) (fun σ2 => some σ2) else some σ)
def f_X12_personLine_J247_214 (k : Int32 → Int32 → Int32 → Int32 → Int32 → bSto → Option (Int32 × Int32 × Int32 × bSto)) (x1 : Int32) (x2 : Int32) (x3 : Int32) (x5 : Int32) (s0 : Int32) (s1 : Int32) (σ : bSto) : Option (Int32 × Int32 × Int32 × bSto) := blet (s0 + s1) (fun x4_1 => blet (x5 + (1 : Int32)) (fun x5_3 => k x1 x2 x3 x4_1 x5_3 σ))
def f_X12_personLine_L214 : Nat → Int32 → Int32 → Int32 → Int32 → Int32 → bSto → Option (Int32 × Int32 × Int32 × bSto)
  | 0, _, _, _, _, _, _ => none
  | n + 1, x1, x2, x3, x4, x5, σ => (if x1 ≤ x5 then some (x2, x3, x4, σ) else if (((35 : Int32) + ((4 : Int32) * x5)) + (2 : Int32)) < 0 ∨ 406 ≤ (((35 : Int32) + ((4 : Int32) * x5)) + (2 : Int32)).toNatClampNeg then none else (if (σ.1 96 (((35 : Int32) + ((4 : Int32) * x5)) + (2 : Int32)).toNatClampNeg) = (x3 + (1 : Int32)) then f_X12_personLine_J247_214 (f_X12_personLine_L214 n) x1 x2 x3 x5 x4 (1 : Int32) σ else f_X12_personLine_J247_214 (f_X12_personLine_L214 n) x1 x2 x3 x5 x4 (0 : Int32) σ))
def f_X12_personLine_J314 (x2 : Int32) (x3 : Int32) (σ : bSto) : Option bSto := (if (σ.1 92 13) = 0 then if (x2 + (2 : Int32)) < 0 ∨ 406 ≤ (x2 + (2 : Int32)).toNatClampNeg then none else blet (bI σ 96 (x2 + (2 : Int32)).toNatClampNeg (x3 + (1 : Int32))) (fun σ2 => bbv (f_X12_next  σ2) (fun σ6 => f_X12_personLine_J336  σ6)) else f_X12_personLine_J336  σ)
def f_X12_personLine_J304 (x2 : Int32) (x3 : Int32) (σ : bSto) : Option bSto := bbv (f_X12_wrong (7 : Int32) (σ.1 92 4) σ) (fun σ2 => f_X12_personLine_J314 x2 x3 σ2)
def f_X12_personLine_J90 (x1 : Int32) (x2 : Int32) (σ : bSto) : Option bSto := (if (σ.1 92 13) = 0 then if ((226 : Int32) + ((9 : Int32) * x1)) < 0 ∨ 406 ≤ ((226 : Int32) + ((9 : Int32) * x1)).toNatClampNeg then none else blet (bI σ 96 ((226 : Int32) + ((9 : Int32) * x1)).toNatClampNeg (σ.1 92 8)) (fun σ2 => bl2 (f_X12_personLine_L117 bFU x1 x2 (0 : Int32) σ2) (fun x1_5 x2_5 σ6 => bbv (f_X12_next  σ6) (fun σ8 => bbd (f_X12_after 5 (0 : Int32) (60 : Int32) σ8) (fun v11 σ10 => if (x2_5 + (1 : Int32)) < 0 ∨ 406 ≤ (x2_5 + (1 : Int32)).toNatClampNeg then none else blet (bI σ10 96 (x2_5 + (1 : Int32)).toNatClampNeg v11) (fun σ12 => if (x2_5 + (2 : Int32)) < 0 ∨ 406 ≤ (x2_5 + (2 : Int32)).toNatClampNeg then none else blet (bI σ12 96 (x2_5 + (2 : Int32)).toNatClampNeg (0 : Int32)) (fun σ15 => (if (σ15.1 92 13) = 0 then bbd (f_X12_takesWord 14 σ15) (fun v21 σ20 => (if v21 = 0 then f_X12_personLine_J336  σ20 else bbd (f_X12_named (0 : Int32) (5 : Int32) σ20) (fun v25 σ24 => bl3 (f_X12_personLine_L214 bFU x1_5 x2_5 v25 (0 : Int32) (0 : Int32) σ24) (fun x2_26 x3_26 x4_26 σ27 => (if (σ27.1 92 13) = 0 then if x2_26 < 0 ∨ 406 ≤ x2_26.toNatClampNeg then none else if ((11 : Int32) + ((4 : Int32) * x3_26)) < 0 ∨ 406 ≤ ((11 : Int32) + ((4 : Int32) * x3_26)).toNatClampNeg then none else bbd (f_X12_mayBe (σ27.1 96 x2_26.toNatClampNeg) (σ27.1 96 ((11 : Int32) + ((4 : Int32) * x3_26)).toNatClampNeg) σ27) (fun v33 σ32 => (if v33 = 0 then f_X12_personLine_J304 x2_26 x3_26 σ32 else if (((11 : Int32) + ((4 : Int32) * x3_26)) + (2 : Int32)) < 0 ∨ 406 ≤ (((11 : Int32) + ((4 : Int32) * x3_26)) + (2 : Int32)).toNatClampNeg then none else (if x4_26 < (σ32.1 96 (((11 : Int32) + ((4 : Int32) * x3_26)) + (2 : Int32)).toNatClampNeg) then f_X12_personLine_J314 x2_26 x3_26 σ32 else f_X12_personLine_J304 x2_26 x3_26 σ32))) else f_X12_personLine_J314 x2_26 x3_26 σ27))))) else f_X12_personLine_J336  σ15))))))) else some σ)
def f_X12_personLine_J59 (x1 : Int32) (x2 : Int32) (σ : bSto) : Option bSto := bbv (f_X12_must 8 σ) (fun σ2 => (if (σ2.1 92 13) = 0 then (if (σ2.1 92 6) = (2 : Int32) then f_X12_personLine_J90 x1 x2 σ2 else bbv (f_X12_wrong (1 : Int32) (σ2.1 92 4) σ2) (fun σ6 => f_X12_personLine_J90 x1 x2 σ6)) else f_X12_personLine_J90 x1 x2 σ2))
def f_X12_personLine  (σ : bSto) : Option bSto := (if (σ.1 92 13) = 0 then blet (σ.1 96 4) (fun x1_2 => blet ((35 : Int32) + ((4 : Int32) * x1_2)) (fun x2_4 => bbv (f_X12_newName ((6 : Int32) + x1_2) σ) (fun σ7 => (if (σ7.1 92 13) = 0 then bbd (f_X12_oneOf 25 7 13 4 σ7) (fun v11 σ10 => if x2_4 < 0 ∨ 406 ≤ x2_4.toNatClampNeg then none else blet (bI σ10 96 x2_4.toNatClampNeg v11) (fun σ12 => f_X12_personLine_J59 x1_2 x2_4 σ12)) else f_X12_personLine_J59 x1_2 x2_4 σ7)))) else some σ)
set_option maxHeartbeats 4000000 in
set_option maxRecDepth 20000 in
theorem e_X12_personLine_L117 {X : bX} {l : Launch} {G : bG} {ρ : Nat → Nat} {A : Nat → Prop} {d : Nat} {σ' : bSto} (C : bCX X cX12_personLine RX12 (d + 9)) (Hh : bH X l G bSHf ρ A 6) (Rt : bRX X none none σ') : ∀ (n : Nat) (x1 : Int32) (x2 : Int32) (x3 : Int32) (σ : bSto) (q : (Int32 × Int32 × bSto)), f_X12_personLine_L117 n x1 x2 x3 σ = some q → (∀ (x1 : Int32) (x2 : Int32) (s : bSto), q = (x1, x2, s) → bAJ X 154 [(0, .ref 92), (1, .int x1), (2, .int x2)] [] s) → bAJ X 117 [(0, .ref 92), (1, .int x1), (2, .int x2), (3, .int x3)] [] σ := by
  intro n
  induction n with
  | zero => intro x1 x2 x3 σ q hF; rw [f_X12_personLine_L117] at hF; cases hF
  | succ n ih =>
    intro x1 x2 x3 σ q hF hx
    rw [f_X12_personLine_L117] at hF
    refine b_iload_n (pc := 117) C dX12_personLine_117 rfl 3 rfl ?_
    refine b_aload_n (pc := 118) C dX12_personLine_118 rfl 0 rfl ?_
    refine b_getI (pc := 119) C dX12_personLine_119 fl_X12_87 (Hh.1 _ _ sh_92) rfl ?_
    refine b_icmp_ge (tgt := 154) (pc := 122) C dX12_personLine_122 rfl (fun hc1 => ?_) (fun hc1 => ?_)
    · rw [if_pos hc1] at hF
      exact b_sub [0, 1, 2] rfl (hx _ _ _ (Option.some.inj hF).symm )
    · rw [if_neg hc1] at hF
      refine b_aload_n (pc := 125) C dX12_personLine_125 rfl 0 rfl ?_
      refine b_getS (pc := 126) C dX12_personLine_126 fl_X12_23 (Hh.1 _ _ sh_92) rfl ?_
      refine b_sipush (pc := 129) C dX12_personLine_129 sp_226 ?_
      refine b_bipush (pc := 132) C dX12_personLine_132 bp_9 ?_
      refine b_iload_n (pc := 134) C dX12_personLine_134 rfl 1 rfl ?_
      refine b_imul (pc := 135) C dX12_personLine_135 ?_
      refine b_iadd (pc := 136) C dX12_personLine_136 ?_
      refine b_iconst (pc := 137) C dX12_personLine_137 ic_1 ?_
      refine b_iadd (pc := 138) C dX12_personLine_138 ?_
      refine b_iload_n (pc := 139) C dX12_personLine_139 rfl 3 rfl ?_
      refine b_iadd (pc := 140) C dX12_personLine_140 ?_
      refine b_aload_n (pc := 141) C dX12_personLine_141 rfl 0 rfl ?_
      refine b_getS (pc := 142) C dX12_personLine_142 fl_X12_17 (Hh.1 _ _ sh_92) rfl ?_
      refine b_iload_n (pc := 145) C dX12_personLine_145 rfl 3 rfl ?_
      obtain ⟨hb2, hF⟩ := bif_n hF
      refine b_iald (pc := 146) C dX12_personLine_146 (Hh.1 _ _ sh_94) hb2 ?_
      obtain ⟨hb5, hF⟩ := bif_n hF
      obtain ⟨σ3, e4, hF⟩ := blet_e hF
      refine b_iast (pc := 147) C dX12_personLine_147 (Hh.1 _ _ sh_96) hb5 e4 ?_
      obtain ⟨x3_6, e7, hF⟩ := blet_e hF
      refine b_iinc (L' := [(3, .int x3_6), (0, .ref 92), (1, .int x1), (2, .int x2)]) (pc := 148) C dX12_personLine_148 3 rfl ic_1 e7 (Hh.2.1 _ (Nat.le_of_ble_eq_true rfl)) rfl ?_
      refine b_goto (tgt := 117) (pc := 151) C dX12_personLine_151 rfl ?_
      exact b_sub [1, 2, 3, 0] rfl (ih x1 x2 x3_6 _ _ hF hx)
set_option maxHeartbeats 4000000 in
set_option maxRecDepth 20000 in
theorem e_X12_personLine_J336 {X : bX} {l : Launch} {G : bG} {ρ : Nat → Nat} {A : Nat → Prop} {d : Nat} {σ' : bSto} (C : bCX X cX12_personLine RX12 (d + 9)) (Hh : bH X l G bSHf ρ A 6) (Rt : bRX X none none σ')  (σ : bSto) (hF : f_X12_personLine_J336  σ = some σ') : bAJ X 336 [(0, .ref 92)] [] σ := by
  rw [f_X12_personLine_J336] at hF
  refine b_aload_n (pc := 336) C dX12_personLine_336 rfl 0 rfl ?_
  refine b_getI (pc := 337) C dX12_personLine_337 fl_X12_103 (Hh.1 _ _ sh_92) rfl ?_
  refine b_if_ne (tgt := 353) (pc := 340) C dX12_personLine_340 rfl (fun hc1 => ?_) (fun hc1 => ?_)
  · rw [if_neg hc1] at hF
    exact b_vret (pc := 353) C Rt dX12_personLine_353 hF
  · rw [if_pos hc1] at hF
    refine b_aload_n (pc := 343) C dX12_personLine_343 rfl 0 rfl ?_
    refine b_getS (pc := 344) C dX12_personLine_344 fl_X12_23 (Hh.1 _ _ sh_92) rfl ?_
    refine b_iconst (pc := 347) C dX12_personLine_347 ic_4 ?_
    refine b_dup2 (pc := 348) C dX12_personLine_348 rfl rfl ?_
    refine b_ialdK (pc := 349) C dX12_personLine_349 (Hh.1 _ _ sh_96) tn_4 (by decide) ?_
    refine b_iconst (pc := 350) C dX12_personLine_350 ic_1 ?_
    refine b_iadd (pc := 351) C dX12_personLine_351 ?_
    obtain ⟨σ2, e3, hF⟩ := blet_e hF
    refine b_iastK (pc := 352) C dX12_personLine_352 (Hh.1 _ _ sh_96) tn_4 (by decide) e3 ?_
    exact b_vret (pc := 353) C Rt dX12_personLine_353 hF
set_option maxHeartbeats 4000000 in
set_option maxRecDepth 20000 in
theorem e_X12_personLine_J247_214 {X : bX} {l : Launch} {G : bG} {ρ : Nat → Nat} {A : Nat → Prop} {d : Nat} {σ' : bSto} (C : bCX X cX12_personLine RX12 (d + 9)) (Hh : bH X l G bSHf ρ A 6) (Rt : bRX X none none σ') {k : Int32 → Int32 → Int32 → Int32 → Int32 → bSto → Option (Int32 × Int32 × Int32 × bSto)} (ih : ∀ (x1 : Int32) (x2 : Int32) (x3 : Int32) (x4 : Int32) (x5 : Int32) (σ : bSto) (q : (Int32 × Int32 × Int32 × bSto)), k x1 x2 x3 x4 x5 σ = some q → (∀ (x2 : Int32) (x3 : Int32) (x4 : Int32) (s : bSto), q = (x2, x3, x4, s) → bAJ X 256 [(0, .ref 92), (2, .int x2), (3, .int x3), (4, .int x4)] [] s) → bAJ X 214 [(0, .ref 92), (1, .int x1), (2, .int x2), (3, .int x3), (4, .int x4), (5, .int x5)] [] σ) (x1 : Int32) (x2 : Int32) (x3 : Int32) (x5 : Int32) (s0 : Int32) (s1 : Int32) (σ : bSto) (q : (Int32 × Int32 × Int32 × bSto)) (hF : f_X12_personLine_J247_214 k x1 x2 x3 x5 s0 s1 σ = some q) : (∀ (x2 : Int32) (x3 : Int32) (x4 : Int32) (s : bSto), q = (x2, x3, x4, s) → bAJ X 256 [(0, .ref 92), (2, .int x2), (3, .int x3), (4, .int x4)] [] s) → bAJ X 247 [(0, .ref 92), (1, .int x1), (2, .int x2), (3, .int x3), (5, .int x5)] [.int s1, .int s0] σ := by
  intro hx
  rw [f_X12_personLine_J247_214] at hF
  refine b_iadd (pc := 247) C dX12_personLine_247 ?_
  obtain ⟨x4_1, e2, hF⟩ := blet_e hF
  refine b_istore (L' := [(4, .int x4_1), (0, .ref 92), (1, .int x1), (2, .int x2), (3, .int x3), (5, .int x5)]) (pc := 248) C dX12_personLine_248 e2 (Hh.2.1 _ (Nat.le_of_ble_eq_true rfl)) rfl ?_
  obtain ⟨x5_3, e4, hF⟩ := blet_e hF
  refine b_iinc (L' := [(5, .int x5_3), (4, .int x4_1), (0, .ref 92), (1, .int x1), (2, .int x2), (3, .int x3)]) (pc := 250) C dX12_personLine_250 5 rfl ic_1 e4 (Hh.2.1 _ (Nat.le_of_ble_eq_true rfl)) rfl ?_
  refine b_goto (tgt := 214) (pc := 253) C dX12_personLine_253 rfl ?_
  exact b_sub [2, 3, 4, 5, 1, 0] rfl (ih x1 x2 x3 x4_1 x5_3 _ _ hF hx)
set_option maxHeartbeats 4000000 in
set_option maxRecDepth 20000 in
theorem e_X12_personLine_L214 {X : bX} {l : Launch} {G : bG} {ρ : Nat → Nat} {A : Nat → Prop} {d : Nat} {σ' : bSto} (C : bCX X cX12_personLine RX12 (d + 9)) (Hh : bH X l G bSHf ρ A 6) (Rt : bRX X none none σ') : ∀ (n : Nat) (x1 : Int32) (x2 : Int32) (x3 : Int32) (x4 : Int32) (x5 : Int32) (σ : bSto) (q : (Int32 × Int32 × Int32 × bSto)), f_X12_personLine_L214 n x1 x2 x3 x4 x5 σ = some q → (∀ (x2 : Int32) (x3 : Int32) (x4 : Int32) (s : bSto), q = (x2, x3, x4, s) → bAJ X 256 [(0, .ref 92), (2, .int x2), (3, .int x3), (4, .int x4)] [] s) → bAJ X 214 [(0, .ref 92), (1, .int x1), (2, .int x2), (3, .int x3), (4, .int x4), (5, .int x5)] [] σ := by
  intro n
  induction n with
  | zero => intro x1 x2 x3 x4 x5 σ q hF; rw [f_X12_personLine_L214] at hF; cases hF
  | succ n ih =>
    intro x1 x2 x3 x4 x5 σ q hF hx
    rw [f_X12_personLine_L214] at hF
    refine b_iload (pc := 214) C dX12_personLine_214 5 rfl ?_
    refine b_iload_n (pc := 216) C dX12_personLine_216 rfl 1 rfl ?_
    refine b_icmp_ge (tgt := 256) (pc := 217) C dX12_personLine_217 rfl (fun hc1 => ?_) (fun hc1 => ?_)
    · rw [if_pos hc1] at hF
      exact b_sub [0, 2, 3, 4] rfl (hx _ _ _ _ (Option.some.inj hF).symm )
    · rw [if_neg hc1] at hF
      refine b_iload (pc := 220) C dX12_personLine_220 4 rfl ?_
      refine b_aload_n (pc := 222) C dX12_personLine_222 rfl 0 rfl ?_
      refine b_getS (pc := 223) C dX12_personLine_223 fl_X12_23 (Hh.1 _ _ sh_92) rfl ?_
      refine b_bipush (pc := 226) C dX12_personLine_226 bp_35 ?_
      refine b_iconst (pc := 228) C dX12_personLine_228 ic_4 ?_
      refine b_iload (pc := 229) C dX12_personLine_229 5 rfl ?_
      refine b_imul (pc := 231) C dX12_personLine_231 ?_
      refine b_iadd (pc := 232) C dX12_personLine_232 ?_
      refine b_iconst (pc := 233) C dX12_personLine_233 ic_2 ?_
      refine b_iadd (pc := 234) C dX12_personLine_234 ?_
      obtain ⟨hb2, hF⟩ := bif_n hF
      refine b_iald (pc := 235) C dX12_personLine_235 (Hh.1 _ _ sh_96) hb2 ?_
      refine b_iload_n (pc := 236) C dX12_personLine_236 rfl 3 rfl ?_
      refine b_iconst (pc := 237) C dX12_personLine_237 ic_1 ?_
      refine b_iadd (pc := 238) C dX12_personLine_238 ?_
      refine b_icmp_ne (tgt := 246) (pc := 239) C dX12_personLine_239 rfl (fun hc3 => ?_) (fun hc3 => ?_)
      · rw [if_neg hc3] at hF
        refine b_iconst (pc := 246) C dX12_personLine_246 ic_0 ?_
        exact b_sub [0, 1, 2, 3, 5] rfl (e_X12_personLine_J247_214 C Hh Rt ih x1 x2 x3 x5 x4 (0 : Int32) _ _ hF hx)
      · rw [if_pos hc3] at hF
        refine b_iconst (pc := 242) C dX12_personLine_242 ic_1 ?_
        refine b_goto (tgt := 247) (pc := 243) C dX12_personLine_243 rfl ?_
        exact b_sub [0, 1, 2, 3, 5] rfl (e_X12_personLine_J247_214 C Hh Rt ih x1 x2 x3 x5 x4 (1 : Int32) _ _ hF hx)
set_option maxHeartbeats 4000000 in
set_option maxRecDepth 20000 in
theorem e_X12_personLine_J314 {X : bX} {l : Launch} {G : bG} {ρ : Nat → Nat} {A : Nat → Prop} {d : Nat} {σ' : bSto} (C : bCX X cX12_personLine RX12 (d + 9)) (Hh : bH X l G bSHf ρ A 6) (Rt : bRX X none none σ') (x2 : Int32) (x3 : Int32) (σ : bSto) (hF : f_X12_personLine_J314 x2 x3 σ = some σ') : bAJ X 314 [(0, .ref 92), (2, .int x2), (3, .int x3)] [] σ := by
  rw [f_X12_personLine_J314] at hF
  refine b_aload_n (pc := 314) C dX12_personLine_314 rfl 0 rfl ?_
  refine b_getI (pc := 315) C dX12_personLine_315 fl_X12_103 (Hh.1 _ _ sh_92) rfl ?_
  refine b_if_ne (tgt := 336) (pc := 318) C dX12_personLine_318 rfl (fun hc1 => ?_) (fun hc1 => ?_)
  · rw [if_neg hc1] at hF
    exact b_sub [0] rfl (e_X12_personLine_J336 C Hh Rt  _ hF)
  · rw [if_pos hc1] at hF
    refine b_aload_n (pc := 321) C dX12_personLine_321 rfl 0 rfl ?_
    refine b_getS (pc := 322) C dX12_personLine_322 fl_X12_23 (Hh.1 _ _ sh_92) rfl ?_
    refine b_iload_n (pc := 325) C dX12_personLine_325 rfl 1 rfl ?_
    refine b_iconst (pc := 326) C dX12_personLine_326 ic_2 ?_
    refine b_iadd (pc := 327) C dX12_personLine_327 ?_
    refine b_iload_n (pc := 328) C dX12_personLine_328 rfl 2 rfl ?_
    refine b_iconst (pc := 329) C dX12_personLine_329 ic_1 ?_
    refine b_iadd (pc := 330) C dX12_personLine_330 ?_
    obtain ⟨hb4, hF⟩ := bif_n hF
    obtain ⟨σ2, e3, hF⟩ := blet_e hF
    refine b_iast (pc := 331) C dX12_personLine_331 (Hh.1 _ _ sh_96) hb4 e3 ?_
    refine b_aload_n (pc := 332) C dX12_personLine_332 rfl 0 rfl ?_
    obtain ⟨σ6, hc5, hF⟩ := bbv_e hF
    refine b_cV0v (d' := (d + 8)) (pc := 333) C dX12_personLine_333 mm_X12_124 (Hh.1 _ _ sh_92) rfl (Nat.le_of_ble_eq_true rfl) (by omega) (Hh.2.2 _ _ _ _ _ _ _ _ _ (lvl_eq (by omega) (e_X12_next (d + 7)  _ _ hc5))) ?_
    exact b_sub [0] rfl (e_X12_personLine_J336 C Hh Rt  _ hF)
set_option maxHeartbeats 4000000 in
set_option maxRecDepth 20000 in
theorem e_X12_personLine_J304 {X : bX} {l : Launch} {G : bG} {ρ : Nat → Nat} {A : Nat → Prop} {d : Nat} {σ' : bSto} (C : bCX X cX12_personLine RX12 (d + 9)) (Hh : bH X l G bSHf ρ A 6) (Rt : bRX X none none σ') (x2 : Int32) (x3 : Int32) (σ : bSto) (hF : f_X12_personLine_J304 x2 x3 σ = some σ') : bAJ X 304 [(0, .ref 92), (2, .int x2), (3, .int x3)] [] σ := by
  rw [f_X12_personLine_J304] at hF
  refine b_aload_n (pc := 304) C dX12_personLine_304 rfl 0 rfl ?_
  refine b_bipush (pc := 305) C dX12_personLine_305 bp_7 ?_
  refine b_aload_n (pc := 307) C dX12_personLine_307 rfl 0 rfl ?_
  refine b_getI (pc := 308) C dX12_personLine_308 fl_X12_84 (Hh.1 _ _ sh_92) rfl ?_
  obtain ⟨σ2, hc1, hF⟩ := bbv_e hF
  refine b_cV2v (d' := (d + 8)) (pc := 311) C dX12_personLine_311 mm_X12_130 (Hh.1 _ _ sh_92) rfl (Nat.le_of_ble_eq_true rfl) (by omega) (Hh.2.2 _ _ _ _ _ _ _ _ _ (lvl_eq (by omega) (e_X12_wrong (d + 8) (7 : Int32) (σ.1 92 4) _ _ hc1))) ?_
  exact b_sub [0, 1, 2] rfl (e_X12_personLine_J314 C Hh Rt x2 x3 _ hF)
set_option maxHeartbeats 4000000 in
set_option maxRecDepth 20000 in
theorem e_X12_personLine_J90 {X : bX} {l : Launch} {G : bG} {ρ : Nat → Nat} {A : Nat → Prop} {d : Nat} {σ' : bSto} (C : bCX X cX12_personLine RX12 (d + 9)) (Hh : bH X l G bSHf ρ A 6) (Rt : bRX X none none σ') (x1 : Int32) (x2 : Int32) (σ : bSto) (hF : f_X12_personLine_J90 x1 x2 σ = some σ') : bAJ X 90 [(0, .ref 92), (1, .int x1), (2, .int x2)] [] σ := by
  rw [f_X12_personLine_J90] at hF
  refine b_aload_n (pc := 90) C dX12_personLine_90 rfl 0 rfl ?_
  refine b_getI (pc := 91) C dX12_personLine_91 fl_X12_103 (Hh.1 _ _ sh_92) rfl ?_
  refine b_if_eq (tgt := 98) (pc := 94) C dX12_personLine_94 rfl (fun hc1 => ?_) (fun hc1 => ?_)
  · rw [if_pos hc1] at hF
    refine b_aload_n (pc := 98) C dX12_personLine_98 rfl 0 rfl ?_
    refine b_getS (pc := 99) C dX12_personLine_99 fl_X12_23 (Hh.1 _ _ sh_92) rfl ?_
    refine b_sipush (pc := 102) C dX12_personLine_102 sp_226 ?_
    refine b_bipush (pc := 105) C dX12_personLine_105 bp_9 ?_
    refine b_iload_n (pc := 107) C dX12_personLine_107 rfl 1 rfl ?_
    refine b_imul (pc := 108) C dX12_personLine_108 ?_
    refine b_iadd (pc := 109) C dX12_personLine_109 ?_
    refine b_aload_n (pc := 110) C dX12_personLine_110 rfl 0 rfl ?_
    refine b_getI (pc := 111) C dX12_personLine_111 fl_X12_87 (Hh.1 _ _ sh_92) rfl ?_
    obtain ⟨hb4, hF⟩ := bif_n hF
    obtain ⟨σ2, e3, hF⟩ := blet_e hF
    refine b_iast (pc := 114) C dX12_personLine_114 (Hh.1 _ _ sh_96) hb4 e3 ?_
    refine b_iconst (pc := 115) C dX12_personLine_115 ic_0 ?_
    refine b_istore_n (L' := [(3, .int (0 : Int32)), (0, .ref 92), (1, .int x1), (2, .int x2)]) (pc := 116) C dX12_personLine_116 rfl rfl (Hh.2.1 _ (Nat.le_of_ble_eq_true rfl)) rfl ?_
    obtain ⟨x1_5, x2_5, σ6, hq5, hF⟩ := bl2_e hF
    refine b_sub [1, 2, 3, 0] rfl (e_X12_personLine_L117 C Hh Rt bFU x1 x2 (0 : Int32) _ _ hq5 (fun _ _ _ e  => ?_))
    cases e
    refine b_aload_n (pc := 154) C dX12_personLine_154 rfl 0 rfl ?_
    obtain ⟨σ8, hc7, hF⟩ := bbv_e hF
    refine b_cV0v (d' := (d + 8)) (pc := 155) C dX12_personLine_155 mm_X12_124 (Hh.1 _ _ sh_92) rfl (Nat.le_of_ble_eq_true rfl) (by omega) (Hh.2.2 _ _ _ _ _ _ _ _ _ (lvl_eq (by omega) (e_X12_next (d + 7)  _ _ hc7))) ?_
    refine b_aload_n (pc := 158) C dX12_personLine_158 rfl 0 rfl ?_
    refine b_getS (pc := 159) C dX12_personLine_159 fl_X12_23 (Hh.1 _ _ sh_92) rfl ?_
    refine b_iload_n (pc := 162) C dX12_personLine_162 rfl 2 rfl ?_
    refine b_iconst (pc := 163) C dX12_personLine_163 ic_1 ?_
    refine b_iadd (pc := 164) C dX12_personLine_164 ?_
    refine b_aload_n (pc := 165) C dX12_personLine_165 rfl 0 rfl ?_
    refine b_ldcSw (pc := 166) C dX12_personLine_166 "cold" 55 rfl ?_
    refine b_iconst (pc := 169) C dX12_personLine_169 ic_0 ?_
    refine b_bipush (pc := 170) C dX12_personLine_170 bp_60 ?_
    obtain ⟨v11, σ10, hc9, hF⟩ := bbd_e hF
    refine b_cV3i (d' := (d + 8)) (pc := 172) C dX12_personLine_172 mm_X12_231 (Hh.1 _ _ sh_92) rfl (Nat.le_of_ble_eq_true rfl) (by omega) (Hh.2.2 _ _ _ _ _ _ _ _ _ (lvl_eq (by omega) (e_X12_after (d + 0) _ (by decide) (0 : Int32) (60 : Int32) _ _ _ hc9))) ?_
    obtain ⟨hb14, hF⟩ := bif_n hF
    obtain ⟨σ12, e13, hF⟩ := blet_e hF
    refine b_iast (pc := 175) C dX12_personLine_175 (Hh.1 _ _ sh_96) hb14 e13 ?_
    refine b_aload_n (pc := 176) C dX12_personLine_176 rfl 0 rfl ?_
    refine b_getS (pc := 177) C dX12_personLine_177 fl_X12_23 (Hh.1 _ _ sh_92) rfl ?_
    refine b_iload_n (pc := 180) C dX12_personLine_180 rfl 2 rfl ?_
    refine b_iconst (pc := 181) C dX12_personLine_181 ic_2 ?_
    refine b_iadd (pc := 182) C dX12_personLine_182 ?_
    refine b_iconst (pc := 183) C dX12_personLine_183 ic_0 ?_
    obtain ⟨hb17, hF⟩ := bif_n hF
    obtain ⟨σ15, e16, hF⟩ := blet_e hF
    refine b_iast (pc := 184) C dX12_personLine_184 (Hh.1 _ _ sh_96) hb17 e16 ?_
    refine b_aload_n (pc := 185) C dX12_personLine_185 rfl 0 rfl ?_
    refine b_getI (pc := 186) C dX12_personLine_186 fl_X12_103 (Hh.1 _ _ sh_92) rfl ?_
    refine b_if_ne (tgt := 336) (pc := 189) C dX12_personLine_189 rfl (fun hc18 => ?_) (fun hc18 => ?_)
    · rw [if_neg hc18] at hF
      exact b_sub [0] rfl (e_X12_personLine_J336 C Hh Rt  _ hF)
    · rw [if_pos hc18] at hF
      refine b_aload_n (pc := 192) C dX12_personLine_192 rfl 0 rfl ?_
      refine b_ldcS (pc := 193) C dX12_personLine_193 "on" 37 rfl ?_
      obtain ⟨v21, σ20, hc19, hF⟩ := bbd_e hF
      refine b_cV1i (d' := (d + 8)) (pc := 195) C dX12_personLine_195 mm_X12_127 (Hh.1 _ _ sh_92) rfl (Nat.le_of_ble_eq_true rfl) (by omega) (Hh.2.2 _ _ _ _ _ _ _ _ _ (lvl_eq (by omega) (e_X12_takesWord (d + 2) _ (by decide) _ _ _ hc19))) ?_
      refine b_if_eq (tgt := 336) (pc := 198) C dX12_personLine_198 rfl (fun hc22 => ?_) (fun hc22 => ?_)
      · rw [if_pos hc22] at hF
        exact b_sub [0] rfl (e_X12_personLine_J336 C Hh Rt  _ hF)
      · rw [if_neg hc22] at hF
        refine b_aload_n (pc := 201) C dX12_personLine_201 rfl 0 rfl ?_
        refine b_iconst (pc := 202) C dX12_personLine_202 ic_0 ?_
        refine b_iconst (pc := 203) C dX12_personLine_203 ic_5 ?_
        obtain ⟨v25, σ24, hc23, hF⟩ := bbd_e hF
        refine b_cV2i (d' := (d + 8)) (pc := 204) C dX12_personLine_204 mm_X12_164 (Hh.1 _ _ sh_92) rfl (Nat.le_of_ble_eq_true rfl) (by omega) (Hh.2.2 _ _ _ _ _ _ _ _ _ (lvl_eq (by omega) (e_X12_named (d + 1) (0 : Int32) (5 : Int32) _ _ _ hc23))) ?_
        refine b_istore_n (L' := [(3, .int v25), (0, .ref 92), (1, .int x1_5), (2, .int x2_5)]) (pc := 207) C dX12_personLine_207 rfl rfl (Hh.2.1 _ (Nat.le_of_ble_eq_true rfl)) rfl ?_
        refine b_iconst (pc := 208) C dX12_personLine_208 ic_0 ?_
        refine b_istore (L' := [(4, .int (0 : Int32)), (3, .int v25), (0, .ref 92), (1, .int x1_5), (2, .int x2_5)]) (pc := 209) C dX12_personLine_209 rfl (Hh.2.1 _ (Nat.le_of_ble_eq_true rfl)) rfl ?_
        refine b_iconst (pc := 211) C dX12_personLine_211 ic_0 ?_
        refine b_istore (L' := [(5, .int (0 : Int32)), (4, .int (0 : Int32)), (3, .int v25), (0, .ref 92), (1, .int x1_5), (2, .int x2_5)]) (pc := 212) C dX12_personLine_212 rfl (Hh.2.1 _ (Nat.le_of_ble_eq_true rfl)) rfl ?_
        obtain ⟨x2_26, x3_26, x4_26, σ27, hq26, hF⟩ := bl3_e hF
        refine b_sub [3, 4, 5, 2, 1, 0] rfl (e_X12_personLine_L214 C Hh Rt bFU x1_5 x2_5 v25 (0 : Int32) (0 : Int32) _ _ hq26 (fun _ _ _ _ e  => ?_))
        cases e
        refine b_aload_n (pc := 256) C dX12_personLine_256 rfl 0 rfl ?_
        refine b_getI (pc := 257) C dX12_personLine_257 fl_X12_103 (Hh.1 _ _ sh_92) rfl ?_
        refine b_if_ne (tgt := 314) (pc := 260) C dX12_personLine_260 rfl (fun hc28 => ?_) (fun hc28 => ?_)
        · rw [if_neg hc28] at hF
          exact b_sub [0, 1, 2] rfl (e_X12_personLine_J314 C Hh Rt x2_26 x3_26 _ hF)
        · rw [if_pos hc28] at hF
          refine b_aload_n (pc := 263) C dX12_personLine_263 rfl 0 rfl ?_
          refine b_getS (pc := 264) C dX12_personLine_264 fl_X12_23 (Hh.1 _ _ sh_92) rfl ?_
          refine b_iload_n (pc := 267) C dX12_personLine_267 rfl 1 rfl ?_
          obtain ⟨hb29, hF⟩ := bif_n hF
          refine b_iald (pc := 268) C dX12_personLine_268 (Hh.1 _ _ sh_96) hb29 ?_
          refine b_aload_n (pc := 269) C dX12_personLine_269 rfl 0 rfl ?_
          refine b_getS (pc := 270) C dX12_personLine_270 fl_X12_23 (Hh.1 _ _ sh_92) rfl ?_
          refine b_bipush (pc := 273) C dX12_personLine_273 bp_11 ?_
          refine b_iconst (pc := 275) C dX12_personLine_275 ic_4 ?_
          refine b_iload_n (pc := 276) C dX12_personLine_276 rfl 2 rfl ?_
          refine b_imul (pc := 277) C dX12_personLine_277 ?_
          refine b_iadd (pc := 278) C dX12_personLine_278 ?_
          obtain ⟨hb30, hF⟩ := bif_n hF
          refine b_iald (pc := 279) C dX12_personLine_279 (Hh.1 _ _ sh_96) hb30 ?_
          obtain ⟨v33, σ32, hc31, hF⟩ := bbd_e hF
          refine b_cS2i (d' := (d + 8)) (pc := 280) C dX12_personLine_280 mm_X12_274 (Nat.le_of_ble_eq_true rfl) (by omega) (Hh.2.2 _ _ _ _ _ _ _ _ _ (lvl_eq (by omega) (e_X12_mayBe (d + 8) (σ27.1 96 x2_26.toNatClampNeg) (σ27.1 96 ((11 : Int32) + ((4 : Int32) * x3_26)).toNatClampNeg) _ _ _ hc31))) ?_
          refine b_if_eq (tgt := 304) (pc := 283) C dX12_personLine_283 rfl (fun hc34 => ?_) (fun hc34 => ?_)
          · rw [if_pos hc34] at hF
            exact b_sub [0, 1, 2] rfl (e_X12_personLine_J304 C Hh Rt x2_26 x3_26 _ hF)
          · rw [if_neg hc34] at hF
            refine b_iload (pc := 286) C dX12_personLine_286 3 rfl ?_
            refine b_aload_n (pc := 288) C dX12_personLine_288 rfl 0 rfl ?_
            refine b_getS (pc := 289) C dX12_personLine_289 fl_X12_23 (Hh.1 _ _ sh_92) rfl ?_
            refine b_bipush (pc := 292) C dX12_personLine_292 bp_11 ?_
            refine b_iconst (pc := 294) C dX12_personLine_294 ic_4 ?_
            refine b_iload_n (pc := 295) C dX12_personLine_295 rfl 2 rfl ?_
            refine b_imul (pc := 296) C dX12_personLine_296 ?_
            refine b_iadd (pc := 297) C dX12_personLine_297 ?_
            refine b_iconst (pc := 298) C dX12_personLine_298 ic_2 ?_
            refine b_iadd (pc := 299) C dX12_personLine_299 ?_
            obtain ⟨hb35, hF⟩ := bif_n hF
            refine b_iald (pc := 300) C dX12_personLine_300 (Hh.1 _ _ sh_96) hb35 ?_
            refine b_icmp_lt (tgt := 314) (pc := 301) C dX12_personLine_301 rfl (fun hc36 => ?_) (fun hc36 => ?_)
            · rw [if_pos hc36] at hF
              exact b_sub [0, 1, 2] rfl (e_X12_personLine_J314 C Hh Rt x2_26 x3_26 _ hF)
            · rw [if_neg hc36] at hF
              exact b_sub [0, 1, 2] rfl (e_X12_personLine_J304 C Hh Rt x2_26 x3_26 _ hF)
  · rw [if_neg hc1] at hF
    exact b_vret (pc := 97) C Rt dX12_personLine_97 hF
set_option maxHeartbeats 4000000 in
set_option maxRecDepth 20000 in
theorem e_X12_personLine_J59 {X : bX} {l : Launch} {G : bG} {ρ : Nat → Nat} {A : Nat → Prop} {d : Nat} {σ' : bSto} (C : bCX X cX12_personLine RX12 (d + 9)) (Hh : bH X l G bSHf ρ A 6) (Rt : bRX X none none σ') (x1 : Int32) (x2 : Int32) (σ : bSto) (hF : f_X12_personLine_J59 x1 x2 σ = some σ') : bAJ X 59 [(0, .ref 92), (1, .int x1), (2, .int x2)] [] σ := by
  rw [f_X12_personLine_J59] at hF
  refine b_aload_n (pc := 59) C dX12_personLine_59 rfl 0 rfl ?_
  refine b_ldcSw (pc := 60) C dX12_personLine_60 "fo\x72" 54 rfl ?_
  obtain ⟨σ2, hc1, hF⟩ := bbv_e hF
  refine b_cV1v (d' := (d + 8)) (pc := 63) C dX12_personLine_63 mm_X12_174 (Hh.1 _ _ sh_92) rfl (Nat.le_of_ble_eq_true rfl) (by omega) (Hh.2.2 _ _ _ _ _ _ _ _ _ (lvl_eq (by omega) (e_X12_must (d + 1) _ (by decide) _ _ hc1))) ?_
  refine b_aload_n (pc := 66) C dX12_personLine_66 rfl 0 rfl ?_
  refine b_getI (pc := 67) C dX12_personLine_67 fl_X12_103 (Hh.1 _ _ sh_92) rfl ?_
  refine b_if_ne (tgt := 90) (pc := 70) C dX12_personLine_70 rfl (fun hc3 => ?_) (fun hc3 => ?_)
  · rw [if_neg hc3] at hF
    exact b_sub [0, 1, 2] rfl (e_X12_personLine_J90 C Hh Rt x1 x2 _ hF)
  · rw [if_pos hc3] at hF
    refine b_aload_n (pc := 73) C dX12_personLine_73 rfl 0 rfl ?_
    refine b_getI (pc := 74) C dX12_personLine_74 fl_X12_93 (Hh.1 _ _ sh_92) rfl ?_
    refine b_iconst (pc := 77) C dX12_personLine_77 ic_2 ?_
    refine b_icmp_eq (tgt := 90) (pc := 78) C dX12_personLine_78 rfl (fun hc4 => ?_) (fun hc4 => ?_)
    · rw [if_pos hc4] at hF
      exact b_sub [0, 1, 2] rfl (e_X12_personLine_J90 C Hh Rt x1 x2 _ hF)
    · rw [if_neg hc4] at hF
      refine b_aload_n (pc := 81) C dX12_personLine_81 rfl 0 rfl ?_
      refine b_iconst (pc := 82) C dX12_personLine_82 ic_1 ?_
      refine b_aload_n (pc := 83) C dX12_personLine_83 rfl 0 rfl ?_
      refine b_getI (pc := 84) C dX12_personLine_84 fl_X12_84 (Hh.1 _ _ sh_92) rfl ?_
      obtain ⟨σ6, hc5, hF⟩ := bbv_e hF
      refine b_cV2v (d' := (d + 8)) (pc := 87) C dX12_personLine_87 mm_X12_130 (Hh.1 _ _ sh_92) rfl (Nat.le_of_ble_eq_true rfl) (by omega) (Hh.2.2 _ _ _ _ _ _ _ _ _ (lvl_eq (by omega) (e_X12_wrong (d + 8) (1 : Int32) (σ2.1 92 4) _ _ hc5))) ?_
      exact b_sub [0, 1, 2] rfl (e_X12_personLine_J90 C Hh Rt x1 x2 _ hF)
set_option maxHeartbeats 4000000 in
set_option maxRecDepth 20000 in
theorem e_X12_personLine_0 {X : bX} {l : Launch} {G : bG} {ρ : Nat → Nat} {A : Nat → Prop} {d : Nat} {σ' : bSto} (C : bCX X cX12_personLine RX12 (d + 9)) (Hh : bH X l G bSHf ρ A 6) (Rt : bRX X none none σ')  (σ : bSto) (hF : f_X12_personLine  σ = some σ') : bAJ X 0 [(0, .ref 92)] [] σ := by
  rw [f_X12_personLine] at hF
  refine b_aload_n (pc := 0) C dX12_personLine_0 rfl 0 rfl ?_
  refine b_getI (pc := 1) C dX12_personLine_1 fl_X12_103 (Hh.1 _ _ sh_92) rfl ?_
  refine b_if_eq (tgt := 8) (pc := 4) C dX12_personLine_4 rfl (fun hc1 => ?_) (fun hc1 => ?_)
  · rw [if_pos hc1] at hF
    refine b_aload_n (pc := 8) C dX12_personLine_8 rfl 0 rfl ?_
    refine b_getS (pc := 9) C dX12_personLine_9 fl_X12_23 (Hh.1 _ _ sh_92) rfl ?_
    refine b_iconst (pc := 12) C dX12_personLine_12 ic_4 ?_
    refine b_ialdK (pc := 13) C dX12_personLine_13 (Hh.1 _ _ sh_96) tn_4 (by decide) ?_
    obtain ⟨x1_2, e3, hF⟩ := blet_e hF
    refine b_istore_n (L' := [(1, .int x1_2), (0, .ref 92)]) (pc := 14) C dX12_personLine_14 rfl e3 (Hh.2.1 _ (Nat.le_of_ble_eq_true rfl)) rfl ?_
    refine b_bipush (pc := 15) C dX12_personLine_15 bp_35 ?_
    refine b_iconst (pc := 17) C dX12_personLine_17 ic_4 ?_
    refine b_iload_n (pc := 18) C dX12_personLine_18 rfl 0 rfl ?_
    refine b_imul (pc := 19) C dX12_personLine_19 ?_
    refine b_iadd (pc := 20) C dX12_personLine_20 ?_
    obtain ⟨x2_4, e5, hF⟩ := blet_e hF
    refine b_istore_n (L' := [(2, .int x2_4), (1, .int x1_2), (0, .ref 92)]) (pc := 21) C dX12_personLine_21 rfl e5 (Hh.2.1 _ (Nat.le_of_ble_eq_true rfl)) rfl ?_
    refine b_aload_n (pc := 22) C dX12_personLine_22 rfl 2 rfl ?_
    refine b_bipush (pc := 23) C dX12_personLine_23 bp_6 ?_
    refine b_iload_n (pc := 25) C dX12_personLine_25 rfl 1 rfl ?_
    refine b_iadd (pc := 26) C dX12_personLine_26 ?_
    obtain ⟨σ7, hc6, hF⟩ := bbv_e hF
    refine b_cV1v (d' := (d + 8)) (pc := 27) C dX12_personLine_27 mm_X12_243 (Hh.1 _ _ sh_92) rfl (Nat.le_of_ble_eq_true rfl) (by omega) (Hh.2.2 _ _ _ _ _ _ _ _ _ (lvl_eq (by omega) (e_X12_newName (d + 1) ((6 : Int32) + x1_2) _ _ hc6))) ?_
    refine b_aload_n (pc := 30) C dX12_personLine_30 rfl 2 rfl ?_
    refine b_getI (pc := 31) C dX12_personLine_31 fl_X12_103 (Hh.1 _ _ sh_92) rfl ?_
    refine b_if_ne (tgt := 59) (pc := 34) C dX12_personLine_34 rfl (fun hc8 => ?_) (fun hc8 => ?_)
    · rw [if_neg hc8] at hF
      exact b_sub [2, 1, 0] rfl (e_X12_personLine_J59 C Hh Rt x1_2 x2_4 _ hF)
    · rw [if_pos hc8] at hF
      refine b_aload_n (pc := 37) C dX12_personLine_37 rfl 2 rfl ?_
      refine b_getS (pc := 38) C dX12_personLine_38 fl_X12_23 (Hh.1 _ _ sh_92) rfl ?_
      refine b_iload_n (pc := 41) C dX12_personLine_41 rfl 0 rfl ?_
      refine b_aload_n (pc := 42) C dX12_personLine_42 rfl 2 rfl ?_
      refine b_ldcSw (pc := 43) C dX12_personLine_43 "third" 50 rfl ?_
      refine b_ldcSw (pc := 46) C dX12_personLine_46 "first" 51 rfl ?_
      refine b_ldcSw (pc := 49) C dX12_personLine_49 "lady" 52 rfl ?_
      refine b_ldcSw (pc := 52) C dX12_personLine_52 "child" 53 rfl ?_
      obtain ⟨v11, σ10, hc9, hF⟩ := bbd_e hF
      refine b_cV4i (d' := (d + 8)) (pc := 55) C dX12_personLine_55 mm_X12_254 (Hh.1 _ _ sh_92) rfl (Nat.le_of_ble_eq_true rfl) (by omega) (Hh.2.2 _ _ _ _ _ _ _ _ _ (lvl_eq (by omega) (e_X12_oneOf (d + 2) _ (by decide) _ (by decide) _ (by decide) _ (by decide) _ _ _ hc9))) ?_
      obtain ⟨hb14, hF⟩ := bif_n hF
      obtain ⟨σ12, e13, hF⟩ := blet_e hF
      refine b_iast (pc := 58) C dX12_personLine_58 (Hh.1 _ _ sh_96) hb14 e13 ?_
      exact b_sub [2, 1, 0] rfl (e_X12_personLine_J59 C Hh Rt x1_2 x2_4 _ hF)
  · rw [if_neg hc1] at hF
    exact b_vret (pc := 7) C Rt dX12_personLine_7 hF
set_option maxHeartbeats 4000000 in
set_option maxRecDepth 20000 in
theorem e_X12_personLine {l : Launch} {G : bG} {ρ : Nat → Nat} {A : Nat → Prop} (d : Nat)  (σ : bSto) (σ' : bSto) (hF : f_X12_personLine  σ = some σ') : bEv l G bSHf ρ A yX12_personLine cX12_personLine 6 none (d + 9) [.ref 92] σ none σ' := b_met (d := d + 9) (by decide +kernel) (Nat.le_of_ble_eq_true rfl) rfl (fun X C Rt h1 h2 h3 => e_X12_personLine_0 C ⟨fun o q h => by rw [h1]; exact h, fun i h => by rw [h2]; exact h, h3⟩ Rt  _ hF)
/-! BenchColonyModel.kinLine -/
def f_X12_kinLine_J55 (x1 : Int32) (x2 : Int32) (σ : bSto) : Option bSto := (if (σ.1 92 13) = 0 then bbv (f_X12_next  σ) (fun σ3 => if ((70 : Int32) + x1) < 0 ∨ 406 ≤ ((70 : Int32) + x1).toNatClampNeg then none else if ((70 : Int32) + x1) < 0 ∨ 406 ≤ ((70 : Int32) + x1).toNatClampNeg then none else blet (bI σ3 96 ((70 : Int32) + x1).toNatClampNeg ((σ3.1 96 ((70 : Int32) + x1).toNatClampNeg) ||| ((1 : Int32) <<< (x2 &&& 31)))) (fun σ5 => if ((70 : Int32) + x2) < 0 ∨ 406 ≤ ((70 : Int32) + x2).toNatClampNeg then none else if ((70 : Int32) + x2) < 0 ∨ 406 ≤ ((70 : Int32) + x2).toNatClampNeg then none else blet (bI σ5 96 ((70 : Int32) + x2).toNatClampNeg ((σ5.1 96 ((70 : Int32) + x2).toNatClampNeg) ||| ((1 : Int32) <<< (x1 &&& 31)))) (fun σ9 => blet (bI σ9 96 5 ((σ9.1 96 5) + (1 : Int32))) (fun σ12 => some σ12)))) else some σ)
def f_X12_kinLine_J46 (x1 : Int32) (x2 : Int32) (σ : bSto) : Option bSto := bbv (f_X12_wrong (3 : Int32) (σ.1 92 4) σ) (fun σ2 => f_X12_kinLine_J55 x1 x2 σ2)
def f_X12_kinLine  (σ : bSto) : Option bSto := (if (σ.1 92 13) = 0 then bbd (f_X12_personPassed  σ) (fun v4 σ3 => bbd (f_X12_personHere  σ3) (fun v7 σ6 => (if (σ6.1 92 13) = 0 then (if v4 = v7 then f_X12_kinLine_J46 v4 v7 σ6 else if ((70 : Int32) + v4) < 0 ∨ 406 ≤ ((70 : Int32) + v4).toNatClampNeg then none else bbd (f_X12_hasBit (σ6.1 96 ((70 : Int32) + v4).toNatClampNeg) v7 σ6) (fun v13 σ12 => (if v13 = 0 then f_X12_kinLine_J55 v4 v7 σ12 else f_X12_kinLine_J46 v4 v7 σ12))) else f_X12_kinLine_J55 v4 v7 σ6))) else some σ)
set_option maxHeartbeats 4000000 in
set_option maxRecDepth 20000 in
theorem e_X12_kinLine_J55 {X : bX} {l : Launch} {G : bG} {ρ : Nat → Nat} {A : Nat → Prop} {d : Nat} {σ' : bSto} (C : bCX X cX12_kinLine RX12 (d + 10)) (Hh : bH X l G bSHf ρ A 3) (Rt : bRX X none none σ') (x1 : Int32) (x2 : Int32) (σ : bSto) (hF : f_X12_kinLine_J55 x1 x2 σ = some σ') : bAJ X 55 [(0, .ref 92), (1, .int x1), (2, .int x2)] [] σ := by
  rw [f_X12_kinLine_J55] at hF
  refine b_aload_n (pc := 55) C dX12_kinLine_55 rfl 0 rfl ?_
  refine b_getI (pc := 56) C dX12_kinLine_56 fl_X12_103 (Hh.1 _ _ sh_92) rfl ?_
  refine b_if_eq (tgt := 63) (pc := 59) C dX12_kinLine_59 rfl (fun hc1 => ?_) (fun hc1 => ?_)
  · rw [if_pos hc1] at hF
    refine b_aload_n (pc := 63) C dX12_kinLine_63 rfl 0 rfl ?_
    obtain ⟨σ3, hc2, hF⟩ := bbv_e hF
    refine b_cV0v (d' := (d + 9)) (pc := 64) C dX12_kinLine_64 mm_X12_124 (Hh.1 _ _ sh_92) rfl (Nat.le_of_ble_eq_true rfl) (by omega) (Hh.2.2 _ _ _ _ _ _ _ _ _ (lvl_eq (by omega) (e_X12_next (d + 8)  _ _ hc2))) ?_
    refine b_aload_n (pc := 67) C dX12_kinLine_67 rfl 0 rfl ?_
    refine b_getS (pc := 68) C dX12_kinLine_68 fl_X12_23 (Hh.1 _ _ sh_92) rfl ?_
    refine b_bipush (pc := 71) C dX12_kinLine_71 bp_70 ?_
    refine b_iload_n (pc := 73) C dX12_kinLine_73 rfl 1 rfl ?_
    refine b_iadd (pc := 74) C dX12_kinLine_74 ?_
    refine b_dup2 (pc := 75) C dX12_kinLine_75 rfl rfl ?_
    obtain ⟨hb4, hF⟩ := bif_n hF
    refine b_iald (pc := 76) C dX12_kinLine_76 (Hh.1 _ _ sh_96) hb4 ?_
    refine b_iconst (pc := 77) C dX12_kinLine_77 ic_1 ?_
    refine b_iload_n (pc := 78) C dX12_kinLine_78 rfl 2 rfl ?_
    refine b_ishl (pc := 79) C dX12_kinLine_79 ?_
    refine b_ior (pc := 80) C dX12_kinLine_80 ?_
    obtain ⟨hb7, hF⟩ := bif_n hF
    obtain ⟨σ5, e6, hF⟩ := blet_e hF
    refine b_iast (pc := 81) C dX12_kinLine_81 (Hh.1 _ _ sh_96) hb7 e6 ?_
    refine b_aload_n (pc := 82) C dX12_kinLine_82 rfl 0 rfl ?_
    refine b_getS (pc := 83) C dX12_kinLine_83 fl_X12_23 (Hh.1 _ _ sh_92) rfl ?_
    refine b_bipush (pc := 86) C dX12_kinLine_86 bp_70 ?_
    refine b_iload_n (pc := 88) C dX12_kinLine_88 rfl 2 rfl ?_
    refine b_iadd (pc := 89) C dX12_kinLine_89 ?_
    refine b_dup2 (pc := 90) C dX12_kinLine_90 rfl rfl ?_
    obtain ⟨hb8, hF⟩ := bif_n hF
    refine b_iald (pc := 91) C dX12_kinLine_91 (Hh.1 _ _ sh_96) hb8 ?_
    refine b_iconst (pc := 92) C dX12_kinLine_92 ic_1 ?_
    refine b_iload_n (pc := 93) C dX12_kinLine_93 rfl 1 rfl ?_
    refine b_ishl (pc := 94) C dX12_kinLine_94 ?_
    refine b_ior (pc := 95) C dX12_kinLine_95 ?_
    obtain ⟨hb11, hF⟩ := bif_n hF
    obtain ⟨σ9, e10, hF⟩ := blet_e hF
    refine b_iast (pc := 96) C dX12_kinLine_96 (Hh.1 _ _ sh_96) hb11 e10 ?_
    refine b_aload_n (pc := 97) C dX12_kinLine_97 rfl 0 rfl ?_
    refine b_getS (pc := 98) C dX12_kinLine_98 fl_X12_23 (Hh.1 _ _ sh_92) rfl ?_
    refine b_iconst (pc := 101) C dX12_kinLine_101 ic_5 ?_
    refine b_dup2 (pc := 102) C dX12_kinLine_102 rfl rfl ?_
    refine b_ialdK (pc := 103) C dX12_kinLine_103 (Hh.1 _ _ sh_96) tn_5 (by decide) ?_
    refine b_iconst (pc := 104) C dX12_kinLine_104 ic_1 ?_
    refine b_iadd (pc := 105) C dX12_kinLine_105 ?_
    obtain ⟨σ12, e13, hF⟩ := blet_e hF
    refine b_iastK (pc := 106) C dX12_kinLine_106 (Hh.1 _ _ sh_96) tn_5 (by decide) e13 ?_
    exact b_vret (pc := 107) C Rt dX12_kinLine_107 hF
  · rw [if_neg hc1] at hF
    exact b_vret (pc := 62) C Rt dX12_kinLine_62 hF
set_option maxHeartbeats 4000000 in
set_option maxRecDepth 20000 in
theorem e_X12_kinLine_J46 {X : bX} {l : Launch} {G : bG} {ρ : Nat → Nat} {A : Nat → Prop} {d : Nat} {σ' : bSto} (C : bCX X cX12_kinLine RX12 (d + 10)) (Hh : bH X l G bSHf ρ A 3) (Rt : bRX X none none σ') (x1 : Int32) (x2 : Int32) (σ : bSto) (hF : f_X12_kinLine_J46 x1 x2 σ = some σ') : bAJ X 46 [(0, .ref 92), (1, .int x1), (2, .int x2)] [] σ := by
  rw [f_X12_kinLine_J46] at hF
  refine b_aload_n (pc := 46) C dX12_kinLine_46 rfl 0 rfl ?_
  refine b_iconst (pc := 47) C dX12_kinLine_47 ic_3 ?_
  refine b_aload_n (pc := 48) C dX12_kinLine_48 rfl 0 rfl ?_
  refine b_getI (pc := 49) C dX12_kinLine_49 fl_X12_84 (Hh.1 _ _ sh_92) rfl ?_
  obtain ⟨σ2, hc1, hF⟩ := bbv_e hF
  refine b_cV2v (d' := (d + 9)) (pc := 52) C dX12_kinLine_52 mm_X12_130 (Hh.1 _ _ sh_92) rfl (Nat.le_of_ble_eq_true rfl) (by omega) (Hh.2.2 _ _ _ _ _ _ _ _ _ (lvl_eq (by omega) (e_X12_wrong (d + 9) (3 : Int32) (σ.1 92 4) _ _ hc1))) ?_
  exact b_sub [0, 1, 2] rfl (e_X12_kinLine_J55 C Hh Rt x1 x2 _ hF)
set_option maxHeartbeats 4000000 in
set_option maxRecDepth 20000 in
theorem e_X12_kinLine_0 {X : bX} {l : Launch} {G : bG} {ρ : Nat → Nat} {A : Nat → Prop} {d : Nat} {σ' : bSto} (C : bCX X cX12_kinLine RX12 (d + 10)) (Hh : bH X l G bSHf ρ A 3) (Rt : bRX X none none σ')  (σ : bSto) (hF : f_X12_kinLine  σ = some σ') : bAJ X 0 [(0, .ref 92)] [] σ := by
  rw [f_X12_kinLine] at hF
  refine b_aload_n (pc := 0) C dX12_kinLine_0 rfl 0 rfl ?_
  refine b_getI (pc := 1) C dX12_kinLine_1 fl_X12_103 (Hh.1 _ _ sh_92) rfl ?_
  refine b_if_eq (tgt := 8) (pc := 4) C dX12_kinLine_4 rfl (fun hc1 => ?_) (fun hc1 => ?_)
  · rw [if_pos hc1] at hF
    refine b_aload_n (pc := 8) C dX12_kinLine_8 rfl 0 rfl ?_
    obtain ⟨v4, σ3, hc2, hF⟩ := bbd_e hF
    refine b_cV0i (d' := (d + 9)) (pc := 9) C dX12_kinLine_9 mm_X12_278 (Hh.1 _ _ sh_92) rfl (Nat.le_of_ble_eq_true rfl) (by omega) (Hh.2.2 _ _ _ _ _ _ _ _ _ (lvl_eq (by omega) (e_X12_personPassed (d + 0)  _ _ _ hc2))) ?_
    refine b_istore_n (L' := [(1, .int v4), (0, .ref 92)]) (pc := 12) C dX12_kinLine_12 rfl rfl (Hh.2.1 _ (Nat.le_of_ble_eq_true rfl)) rfl ?_
    refine b_aload_n (pc := 13) C dX12_kinLine_13 rfl 1 rfl ?_
    obtain ⟨v7, σ6, hc5, hF⟩ := bbd_e hF
    refine b_cV0i (d' := (d + 9)) (pc := 14) C dX12_kinLine_14 mm_X12_168 (Hh.1 _ _ sh_92) rfl (Nat.le_of_ble_eq_true rfl) (by omega) (Hh.2.2 _ _ _ _ _ _ _ _ _ (lvl_eq (by omega) (e_X12_personHere (d + 1)  _ _ _ hc5))) ?_
    refine b_istore_n (L' := [(2, .int v7), (1, .int v4), (0, .ref 92)]) (pc := 17) C dX12_kinLine_17 rfl rfl (Hh.2.1 _ (Nat.le_of_ble_eq_true rfl)) rfl ?_
    refine b_aload_n (pc := 18) C dX12_kinLine_18 rfl 2 rfl ?_
    refine b_getI (pc := 19) C dX12_kinLine_19 fl_X12_103 (Hh.1 _ _ sh_92) rfl ?_
    refine b_if_ne (tgt := 55) (pc := 22) C dX12_kinLine_22 rfl (fun hc8 => ?_) (fun hc8 => ?_)
    · rw [if_neg hc8] at hF
      exact b_sub [2, 1, 0] rfl (e_X12_kinLine_J55 C Hh Rt v4 v7 _ hF)
    · rw [if_pos hc8] at hF
      refine b_iload_n (pc := 25) C dX12_kinLine_25 rfl 1 rfl ?_
      refine b_iload_n (pc := 26) C dX12_kinLine_26 rfl 0 rfl ?_
      refine b_icmp_eq (tgt := 46) (pc := 27) C dX12_kinLine_27 rfl (fun hc9 => ?_) (fun hc9 => ?_)
      · rw [if_pos hc9] at hF
        exact b_sub [2, 1, 0] rfl (e_X12_kinLine_J46 C Hh Rt v4 v7 _ hF)
      · rw [if_neg hc9] at hF
        refine b_aload_n (pc := 30) C dX12_kinLine_30 rfl 2 rfl ?_
        refine b_getS (pc := 31) C dX12_kinLine_31 fl_X12_23 (Hh.1 _ _ sh_92) rfl ?_
        refine b_bipush (pc := 34) C dX12_kinLine_34 bp_70 ?_
        refine b_iload_n (pc := 36) C dX12_kinLine_36 rfl 1 rfl ?_
        refine b_iadd (pc := 37) C dX12_kinLine_37 ?_
        obtain ⟨hb10, hF⟩ := bif_n hF
        refine b_iald (pc := 38) C dX12_kinLine_38 (Hh.1 _ _ sh_96) hb10 ?_
        refine b_iload_n (pc := 39) C dX12_kinLine_39 rfl 0 rfl ?_
        obtain ⟨v13, σ12, hc11, hF⟩ := bbd_e hF
        refine b_cS2i (d' := (d + 9)) (pc := 40) C dX12_kinLine_40 mm_X12_281 (Nat.le_of_ble_eq_true rfl) (by omega) (Hh.2.2 _ _ _ _ _ _ _ _ _ (lvl_eq (by omega) (e_X12_hasBit (d + 9) (σ6.1 96 ((70 : Int32) + v4).toNatClampNeg) v7 _ _ _ hc11))) ?_
        refine b_if_eq (tgt := 55) (pc := 43) C dX12_kinLine_43 rfl (fun hc14 => ?_) (fun hc14 => ?_)
        · rw [if_pos hc14] at hF
          exact b_sub [2, 1, 0] rfl (e_X12_kinLine_J55 C Hh Rt v4 v7 _ hF)
        · rw [if_neg hc14] at hF
          exact b_sub [2, 1, 0] rfl (e_X12_kinLine_J46 C Hh Rt v4 v7 _ hF)
  · rw [if_neg hc1] at hF
    exact b_vret (pc := 7) C Rt dX12_kinLine_7 hF
set_option maxHeartbeats 4000000 in
set_option maxRecDepth 20000 in
theorem e_X12_kinLine {l : Launch} {G : bG} {ρ : Nat → Nat} {A : Nat → Prop} (d : Nat)  (σ : bSto) (σ' : bSto) (hF : f_X12_kinLine  σ = some σ') : bEv l G bSHf ρ A yX12_kinLine cX12_kinLine 3 none (d + 10) [.ref 92] σ none σ' := b_met (d := d + 10) (by decide +kernel) (Nat.le_of_ble_eq_true rfl) rfl (fun X C Rt h1 h2 h3 => e_X12_kinLine_0 C ⟨fun o q h => by rw [h1]; exact h, fun i h => by rw [h2]; exact h, h3⟩ Rt  _ hF)
/-! BenchColonyModel.heedsLine -/
def f_X12_heedsLine_J56 (x1 : Int32) (x2 : Int32) (σ : bSto) : Option bSto := (if (σ.1 92 13) = 0 then bbv (f_X12_next  σ) (fun σ3 => bbd (f_X12_after 27 (1 : Int32) (9 : Int32) σ3) (fun v6 σ5 => (if (σ5.1 92 13) = 0 then if (((77 : Int32) + ((7 : Int32) * x1)) + x2) < 0 ∨ 406 ≤ (((77 : Int32) + ((7 : Int32) * x1)) + x2).toNatClampNeg then none else blet (bI σ5 96 (((77 : Int32) + ((7 : Int32) * x1)) + x2).toNatClampNeg v6) (fun σ8 => blet (bI σ8 96 6 ((σ8.1 96 6) + (1 : Int32))) (fun σ11 => some σ11)) else some σ5))) else some σ)
def f_X12_heedsLine_J47 (x1 : Int32) (x2 : Int32) (σ : bSto) : Option bSto := bbv (f_X12_wrong (3 : Int32) (σ.1 92 4) σ) (fun σ2 => f_X12_heedsLine_J56 x1 x2 σ2)
def f_X12_heedsLine  (σ : bSto) : Option bSto := (if (σ.1 92 13) = 0 then bbd (f_X12_personPassed  σ) (fun v4 σ3 => bbd (f_X12_personHere  σ3) (fun v7 σ6 => (if (σ6.1 92 13) = 0 then (if v4 = v7 then f_X12_heedsLine_J47 v4 v7 σ6 else if (((77 : Int32) + ((7 : Int32) * v4)) + v7) < 0 ∨ 406 ≤ (((77 : Int32) + ((7 : Int32) * v4)) + v7).toNatClampNeg then none else (if (σ6.1 96 (((77 : Int32) + ((7 : Int32) * v4)) + v7).toNatClampNeg) ≤ 0 then f_X12_heedsLine_J56 v4 v7 σ6 else f_X12_heedsLine_J47 v4 v7 σ6)) else f_X12_heedsLine_J56 v4 v7 σ6))) else some σ)
set_option maxHeartbeats 4000000 in
set_option maxRecDepth 20000 in
theorem e_X12_heedsLine_J56 {X : bX} {l : Launch} {G : bG} {ρ : Nat → Nat} {A : Nat → Prop} {d : Nat} {σ' : bSto} (C : bCX X cX12_heedsLine RX12 (d + 10)) (Hh : bH X l G bSHf ρ A 4) (Rt : bRX X none none σ') (x1 : Int32) (x2 : Int32) (σ : bSto) (hF : f_X12_heedsLine_J56 x1 x2 σ = some σ') : bAJ X 56 [(0, .ref 92), (1, .int x1), (2, .int x2)] [] σ := by
  rw [f_X12_heedsLine_J56] at hF
  refine b_aload_n (pc := 56) C dX12_heedsLine_56 rfl 0 rfl ?_
  refine b_getI (pc := 57) C dX12_heedsLine_57 fl_X12_103 (Hh.1 _ _ sh_92) rfl ?_
  refine b_if_eq (tgt := 64) (pc := 60) C dX12_heedsLine_60 rfl (fun hc1 => ?_) (fun hc1 => ?_)
  · rw [if_pos hc1] at hF
    refine b_aload_n (pc := 64) C dX12_heedsLine_64 rfl 0 rfl ?_
    obtain ⟨σ3, hc2, hF⟩ := bbv_e hF
    refine b_cV0v (d' := (d + 9)) (pc := 65) C dX12_heedsLine_65 mm_X12_124 (Hh.1 _ _ sh_92) rfl (Nat.le_of_ble_eq_true rfl) (by omega) (Hh.2.2 _ _ _ _ _ _ _ _ _ (lvl_eq (by omega) (e_X12_next (d + 8)  _ _ hc2))) ?_
    refine b_aload_n (pc := 68) C dX12_heedsLine_68 rfl 0 rfl ?_
    refine b_ldcSw (pc := 69) C dX12_heedsLine_69 "weight" 56 rfl ?_
    refine b_iconst (pc := 72) C dX12_heedsLine_72 ic_1 ?_
    refine b_bipush (pc := 73) C dX12_heedsLine_73 bp_9 ?_
    obtain ⟨v6, σ5, hc4, hF⟩ := bbd_e hF
    refine b_cV3i (d' := (d + 9)) (pc := 75) C dX12_heedsLine_75 mm_X12_231 (Hh.1 _ _ sh_92) rfl (Nat.le_of_ble_eq_true rfl) (by omega) (Hh.2.2 _ _ _ _ _ _ _ _ _ (lvl_eq (by omega) (e_X12_after (d + 1) _ (by decide) (1 : Int32) (9 : Int32) _ _ _ hc4))) ?_
    refine b_istore_n (L' := [(3, .int v6), (0, .ref 92), (1, .int x1), (2, .int x2)]) (pc := 78) C dX12_heedsLine_78 rfl rfl (Hh.2.1 _ (Nat.le_of_ble_eq_true rfl)) rfl ?_
    refine b_aload_n (pc := 79) C dX12_heedsLine_79 rfl 1 rfl ?_
    refine b_getI (pc := 80) C dX12_heedsLine_80 fl_X12_103 (Hh.1 _ _ sh_92) rfl ?_
    refine b_if_eq (tgt := 87) (pc := 83) C dX12_heedsLine_83 rfl (fun hc7 => ?_) (fun hc7 => ?_)
    · rw [if_pos hc7] at hF
      refine b_aload_n (pc := 87) C dX12_heedsLine_87 rfl 1 rfl ?_
      refine b_getS (pc := 88) C dX12_heedsLine_88 fl_X12_23 (Hh.1 _ _ sh_92) rfl ?_
      refine b_bipush (pc := 91) C dX12_heedsLine_91 bp_77 ?_
      refine b_bipush (pc := 93) C dX12_heedsLine_93 bp_7 ?_
      refine b_iload_n (pc := 95) C dX12_heedsLine_95 rfl 2 rfl ?_
      refine b_imul (pc := 96) C dX12_heedsLine_96 ?_
      refine b_iadd (pc := 97) C dX12_heedsLine_97 ?_
      refine b_iload_n (pc := 98) C dX12_heedsLine_98 rfl 3 rfl ?_
      refine b_iadd (pc := 99) C dX12_heedsLine_99 ?_
      refine b_iload_n (pc := 100) C dX12_heedsLine_100 rfl 0 rfl ?_
      obtain ⟨hb10, hF⟩ := bif_n hF
      obtain ⟨σ8, e9, hF⟩ := blet_e hF
      refine b_iast (pc := 101) C dX12_heedsLine_101 (Hh.1 _ _ sh_96) hb10 e9 ?_
      refine b_aload_n (pc := 102) C dX12_heedsLine_102 rfl 1 rfl ?_
      refine b_getS (pc := 103) C dX12_heedsLine_103 fl_X12_23 (Hh.1 _ _ sh_92) rfl ?_
      refine b_bipush (pc := 106) C dX12_heedsLine_106 bp_6 ?_
      refine b_dup2 (pc := 108) C dX12_heedsLine_108 rfl rfl ?_
      refine b_ialdK (pc := 109) C dX12_heedsLine_109 (Hh.1 _ _ sh_96) tn_6 (by decide) ?_
      refine b_iconst (pc := 110) C dX12_heedsLine_110 ic_1 ?_
      refine b_iadd (pc := 111) C dX12_heedsLine_111 ?_
      obtain ⟨σ11, e12, hF⟩ := blet_e hF
      refine b_iastK (pc := 112) C dX12_heedsLine_112 (Hh.1 _ _ sh_96) tn_6 (by decide) e12 ?_
      exact b_vret (pc := 113) C Rt dX12_heedsLine_113 hF
    · rw [if_neg hc7] at hF
      exact b_vret (pc := 86) C Rt dX12_heedsLine_86 hF
  · rw [if_neg hc1] at hF
    exact b_vret (pc := 63) C Rt dX12_heedsLine_63 hF
set_option maxHeartbeats 4000000 in
set_option maxRecDepth 20000 in
theorem e_X12_heedsLine_J47 {X : bX} {l : Launch} {G : bG} {ρ : Nat → Nat} {A : Nat → Prop} {d : Nat} {σ' : bSto} (C : bCX X cX12_heedsLine RX12 (d + 10)) (Hh : bH X l G bSHf ρ A 4) (Rt : bRX X none none σ') (x1 : Int32) (x2 : Int32) (σ : bSto) (hF : f_X12_heedsLine_J47 x1 x2 σ = some σ') : bAJ X 47 [(0, .ref 92), (1, .int x1), (2, .int x2)] [] σ := by
  rw [f_X12_heedsLine_J47] at hF
  refine b_aload_n (pc := 47) C dX12_heedsLine_47 rfl 0 rfl ?_
  refine b_iconst (pc := 48) C dX12_heedsLine_48 ic_3 ?_
  refine b_aload_n (pc := 49) C dX12_heedsLine_49 rfl 0 rfl ?_
  refine b_getI (pc := 50) C dX12_heedsLine_50 fl_X12_84 (Hh.1 _ _ sh_92) rfl ?_
  obtain ⟨σ2, hc1, hF⟩ := bbv_e hF
  refine b_cV2v (d' := (d + 9)) (pc := 53) C dX12_heedsLine_53 mm_X12_130 (Hh.1 _ _ sh_92) rfl (Nat.le_of_ble_eq_true rfl) (by omega) (Hh.2.2 _ _ _ _ _ _ _ _ _ (lvl_eq (by omega) (e_X12_wrong (d + 9) (3 : Int32) (σ.1 92 4) _ _ hc1))) ?_
  exact b_sub [0, 1, 2] rfl (e_X12_heedsLine_J56 C Hh Rt x1 x2 _ hF)
set_option maxHeartbeats 4000000 in
set_option maxRecDepth 20000 in
theorem e_X12_heedsLine_0 {X : bX} {l : Launch} {G : bG} {ρ : Nat → Nat} {A : Nat → Prop} {d : Nat} {σ' : bSto} (C : bCX X cX12_heedsLine RX12 (d + 10)) (Hh : bH X l G bSHf ρ A 4) (Rt : bRX X none none σ')  (σ : bSto) (hF : f_X12_heedsLine  σ = some σ') : bAJ X 0 [(0, .ref 92)] [] σ := by
  rw [f_X12_heedsLine] at hF
  refine b_aload_n (pc := 0) C dX12_heedsLine_0 rfl 0 rfl ?_
  refine b_getI (pc := 1) C dX12_heedsLine_1 fl_X12_103 (Hh.1 _ _ sh_92) rfl ?_
  refine b_if_eq (tgt := 8) (pc := 4) C dX12_heedsLine_4 rfl (fun hc1 => ?_) (fun hc1 => ?_)
  · rw [if_pos hc1] at hF
    refine b_aload_n (pc := 8) C dX12_heedsLine_8 rfl 0 rfl ?_
    obtain ⟨v4, σ3, hc2, hF⟩ := bbd_e hF
    refine b_cV0i (d' := (d + 9)) (pc := 9) C dX12_heedsLine_9 mm_X12_278 (Hh.1 _ _ sh_92) rfl (Nat.le_of_ble_eq_true rfl) (by omega) (Hh.2.2 _ _ _ _ _ _ _ _ _ (lvl_eq (by omega) (e_X12_personPassed (d + 0)  _ _ _ hc2))) ?_
    refine b_istore_n (L' := [(1, .int v4), (0, .ref 92)]) (pc := 12) C dX12_heedsLine_12 rfl rfl (Hh.2.1 _ (Nat.le_of_ble_eq_true rfl)) rfl ?_
    refine b_aload_n (pc := 13) C dX12_heedsLine_13 rfl 1 rfl ?_
    obtain ⟨v7, σ6, hc5, hF⟩ := bbd_e hF
    refine b_cV0i (d' := (d + 9)) (pc := 14) C dX12_heedsLine_14 mm_X12_168 (Hh.1 _ _ sh_92) rfl (Nat.le_of_ble_eq_true rfl) (by omega) (Hh.2.2 _ _ _ _ _ _ _ _ _ (lvl_eq (by omega) (e_X12_personHere (d + 1)  _ _ _ hc5))) ?_
    refine b_istore_n (L' := [(2, .int v7), (1, .int v4), (0, .ref 92)]) (pc := 17) C dX12_heedsLine_17 rfl rfl (Hh.2.1 _ (Nat.le_of_ble_eq_true rfl)) rfl ?_
    refine b_aload_n (pc := 18) C dX12_heedsLine_18 rfl 2 rfl ?_
    refine b_getI (pc := 19) C dX12_heedsLine_19 fl_X12_103 (Hh.1 _ _ sh_92) rfl ?_
    refine b_if_ne (tgt := 56) (pc := 22) C dX12_heedsLine_22 rfl (fun hc8 => ?_) (fun hc8 => ?_)
    · rw [if_neg hc8] at hF
      exact b_sub [2, 1, 0] rfl (e_X12_heedsLine_J56 C Hh Rt v4 v7 _ hF)
    · rw [if_pos hc8] at hF
      refine b_iload_n (pc := 25) C dX12_heedsLine_25 rfl 1 rfl ?_
      refine b_iload_n (pc := 26) C dX12_heedsLine_26 rfl 0 rfl ?_
      refine b_icmp_eq (tgt := 47) (pc := 27) C dX12_heedsLine_27 rfl (fun hc9 => ?_) (fun hc9 => ?_)
      · rw [if_pos hc9] at hF
        exact b_sub [2, 1, 0] rfl (e_X12_heedsLine_J47 C Hh Rt v4 v7 _ hF)
      · rw [if_neg hc9] at hF
        refine b_aload_n (pc := 30) C dX12_heedsLine_30 rfl 2 rfl ?_
        refine b_getS (pc := 31) C dX12_heedsLine_31 fl_X12_23 (Hh.1 _ _ sh_92) rfl ?_
        refine b_bipush (pc := 34) C dX12_heedsLine_34 bp_77 ?_
        refine b_bipush (pc := 36) C dX12_heedsLine_36 bp_7 ?_
        refine b_iload_n (pc := 38) C dX12_heedsLine_38 rfl 1 rfl ?_
        refine b_imul (pc := 39) C dX12_heedsLine_39 ?_
        refine b_iadd (pc := 40) C dX12_heedsLine_40 ?_
        refine b_iload_n (pc := 41) C dX12_heedsLine_41 rfl 0 rfl ?_
        refine b_iadd (pc := 42) C dX12_heedsLine_42 ?_
        obtain ⟨hb10, hF⟩ := bif_n hF
        refine b_iald (pc := 43) C dX12_heedsLine_43 (Hh.1 _ _ sh_96) hb10 ?_
        refine b_if_le (tgt := 56) (pc := 44) C dX12_heedsLine_44 rfl (fun hc11 => ?_) (fun hc11 => ?_)
        · rw [if_pos hc11] at hF
          exact b_sub [2, 1, 0] rfl (e_X12_heedsLine_J56 C Hh Rt v4 v7 _ hF)
        · rw [if_neg hc11] at hF
          exact b_sub [2, 1, 0] rfl (e_X12_heedsLine_J47 C Hh Rt v4 v7 _ hF)
  · rw [if_neg hc1] at hF
    exact b_vret (pc := 7) C Rt dX12_heedsLine_7 hF
set_option maxHeartbeats 4000000 in
set_option maxRecDepth 20000 in
theorem e_X12_heedsLine {l : Launch} {G : bG} {ρ : Nat → Nat} {A : Nat → Prop} (d : Nat)  (σ : bSto) (σ' : bSto) (hF : f_X12_heedsLine  σ = some σ') : bEv l G bSHf ρ A yX12_heedsLine cX12_heedsLine 4 none (d + 10) [.ref 92] σ none σ' := b_met (d := d + 10) (by decide +kernel) (Nat.le_of_ble_eq_true rfl) rfl (fun X C Rt h1 h2 h3 => e_X12_heedsLine_0 C ⟨fun o q h => by rw [h1]; exact h, fun i h => by rw [h2]; exact h, h3⟩ Rt  _ hF)
/-! BenchColonyModel.beliefLine -/
def f_X12_beliefLine_J41 (x1 : Int32) (x2 : Int32) (σ : bSto) : Option bSto := (if (σ.1 92 13) = 0 then bbv (f_X12_next  σ) (fun σ3 => if ((63 : Int32) + x2) < 0 ∨ 406 ≤ ((63 : Int32) + x2).toNatClampNeg then none else blet (bI σ3 96 ((63 : Int32) + x2).toNatClampNeg (1 : Int32)) (fun σ4 => if (((35 : Int32) + ((4 : Int32) * x2)) + (3 : Int32)) < 0 ∨ 406 ≤ (((35 : Int32) + ((4 : Int32) * x2)) + (3 : Int32)).toNatClampNeg then none else blet (bI σ4 96 (((35 : Int32) + ((4 : Int32) * x2)) + (3 : Int32)).toNatClampNeg x1) (fun σ7 => some σ7))) else some σ)
def f_X12_beliefLine (x1 : Int32) (σ : bSto) : Option bSto := (if (σ.1 92 13) = 0 then bbd (f_X12_personHere  σ) (fun v4 σ3 => (if (σ3.1 92 13) = 0 then if ((63 : Int32) + v4) < 0 ∨ 406 ≤ ((63 : Int32) + v4).toNatClampNeg then none else (if (σ3.1 96 ((63 : Int32) + v4).toNatClampNeg) ≤ 0 then f_X12_beliefLine_J41 x1 v4 σ3 else bbv (f_X12_wrong (3 : Int32) (σ3.1 92 4) σ3) (fun σ9 => f_X12_beliefLine_J41 x1 v4 σ9)) else f_X12_beliefLine_J41 x1 v4 σ3)) else some σ)
set_option maxHeartbeats 4000000 in
set_option maxRecDepth 20000 in
theorem e_X12_beliefLine_J41 {X : bX} {l : Launch} {G : bG} {ρ : Nat → Nat} {A : Nat → Prop} {d : Nat} {σ' : bSto} (C : bCX X cX12_beliefLine RX12 (d + 9)) (Hh : bH X l G bSHf ρ A 3) (Rt : bRX X none none σ') (x1 : Int32) (x2 : Int32) (σ : bSto) (hF : f_X12_beliefLine_J41 x1 x2 σ = some σ') : bAJ X 41 [(0, .ref 92), (1, .int x1), (2, .int x2)] [] σ := by
  rw [f_X12_beliefLine_J41] at hF
  refine b_aload_n (pc := 41) C dX12_beliefLine_41 rfl 0 rfl ?_
  refine b_getI (pc := 42) C dX12_beliefLine_42 fl_X12_103 (Hh.1 _ _ sh_92) rfl ?_
  refine b_if_eq (tgt := 49) (pc := 45) C dX12_beliefLine_45 rfl (fun hc1 => ?_) (fun hc1 => ?_)
  · rw [if_pos hc1] at hF
    refine b_aload_n (pc := 49) C dX12_beliefLine_49 rfl 0 rfl ?_
    obtain ⟨σ3, hc2, hF⟩ := bbv_e hF
    refine b_cV0v (d' := (d + 8)) (pc := 50) C dX12_beliefLine_50 mm_X12_124 (Hh.1 _ _ sh_92) rfl (Nat.le_of_ble_eq_true rfl) (by omega) (Hh.2.2 _ _ _ _ _ _ _ _ _ (lvl_eq (by omega) (e_X12_next (d + 7)  _ _ hc2))) ?_
    refine b_aload_n (pc := 53) C dX12_beliefLine_53 rfl 0 rfl ?_
    refine b_getS (pc := 54) C dX12_beliefLine_54 fl_X12_23 (Hh.1 _ _ sh_92) rfl ?_
    refine b_bipush (pc := 57) C dX12_beliefLine_57 bp_63 ?_
    refine b_iload_n (pc := 59) C dX12_beliefLine_59 rfl 2 rfl ?_
    refine b_iadd (pc := 60) C dX12_beliefLine_60 ?_
    refine b_iconst (pc := 61) C dX12_beliefLine_61 ic_1 ?_
    obtain ⟨hb6, hF⟩ := bif_n hF
    obtain ⟨σ4, e5, hF⟩ := blet_e hF
    refine b_iast (pc := 62) C dX12_beliefLine_62 (Hh.1 _ _ sh_96) hb6 e5 ?_
    refine b_aload_n (pc := 63) C dX12_beliefLine_63 rfl 0 rfl ?_
    refine b_getS (pc := 64) C dX12_beliefLine_64 fl_X12_23 (Hh.1 _ _ sh_92) rfl ?_
    refine b_bipush (pc := 67) C dX12_beliefLine_67 bp_35 ?_
    refine b_iconst (pc := 69) C dX12_beliefLine_69 ic_4 ?_
    refine b_iload_n (pc := 70) C dX12_beliefLine_70 rfl 2 rfl ?_
    refine b_imul (pc := 71) C dX12_beliefLine_71 ?_
    refine b_iadd (pc := 72) C dX12_beliefLine_72 ?_
    refine b_iconst (pc := 73) C dX12_beliefLine_73 ic_3 ?_
    refine b_iadd (pc := 74) C dX12_beliefLine_74 ?_
    refine b_iload_n (pc := 75) C dX12_beliefLine_75 rfl 1 rfl ?_
    obtain ⟨hb9, hF⟩ := bif_n hF
    obtain ⟨σ7, e8, hF⟩ := blet_e hF
    refine b_iast (pc := 76) C dX12_beliefLine_76 (Hh.1 _ _ sh_96) hb9 e8 ?_
    exact b_vret (pc := 77) C Rt dX12_beliefLine_77 hF
  · rw [if_neg hc1] at hF
    exact b_vret (pc := 48) C Rt dX12_beliefLine_48 hF
set_option maxHeartbeats 4000000 in
set_option maxRecDepth 20000 in
theorem e_X12_beliefLine_0 {X : bX} {l : Launch} {G : bG} {ρ : Nat → Nat} {A : Nat → Prop} {d : Nat} {σ' : bSto} (C : bCX X cX12_beliefLine RX12 (d + 9)) (Hh : bH X l G bSHf ρ A 3) (Rt : bRX X none none σ') (x1 : Int32) (σ : bSto) (hF : f_X12_beliefLine x1 σ = some σ') : bAJ X 0 [(0, .ref 92), (1, .int x1)] [] σ := by
  rw [f_X12_beliefLine] at hF
  refine b_aload_n (pc := 0) C dX12_beliefLine_0 rfl 0 rfl ?_
  refine b_getI (pc := 1) C dX12_beliefLine_1 fl_X12_103 (Hh.1 _ _ sh_92) rfl ?_
  refine b_if_eq (tgt := 8) (pc := 4) C dX12_beliefLine_4 rfl (fun hc1 => ?_) (fun hc1 => ?_)
  · rw [if_pos hc1] at hF
    refine b_aload_n (pc := 8) C dX12_beliefLine_8 rfl 0 rfl ?_
    obtain ⟨v4, σ3, hc2, hF⟩ := bbd_e hF
    refine b_cV0i (d' := (d + 8)) (pc := 9) C dX12_beliefLine_9 mm_X12_168 (Hh.1 _ _ sh_92) rfl (Nat.le_of_ble_eq_true rfl) (by omega) (Hh.2.2 _ _ _ _ _ _ _ _ _ (lvl_eq (by omega) (e_X12_personHere (d + 0)  _ _ _ hc2))) ?_
    refine b_istore_n (L' := [(2, .int v4), (0, .ref 92), (1, .int x1)]) (pc := 12) C dX12_beliefLine_12 rfl rfl (Hh.2.1 _ (Nat.le_of_ble_eq_true rfl)) rfl ?_
    refine b_aload_n (pc := 13) C dX12_beliefLine_13 rfl 1 rfl ?_
    refine b_getI (pc := 14) C dX12_beliefLine_14 fl_X12_103 (Hh.1 _ _ sh_92) rfl ?_
    refine b_if_ne (tgt := 41) (pc := 17) C dX12_beliefLine_17 rfl (fun hc5 => ?_) (fun hc5 => ?_)
    · rw [if_neg hc5] at hF
      exact b_sub [1, 2, 0] rfl (e_X12_beliefLine_J41 C Hh Rt x1 v4 _ hF)
    · rw [if_pos hc5] at hF
      refine b_aload_n (pc := 20) C dX12_beliefLine_20 rfl 1 rfl ?_
      refine b_getS (pc := 21) C dX12_beliefLine_21 fl_X12_23 (Hh.1 _ _ sh_92) rfl ?_
      refine b_bipush (pc := 24) C dX12_beliefLine_24 bp_63 ?_
      refine b_iload_n (pc := 26) C dX12_beliefLine_26 rfl 0 rfl ?_
      refine b_iadd (pc := 27) C dX12_beliefLine_27 ?_
      obtain ⟨hb6, hF⟩ := bif_n hF
      refine b_iald (pc := 28) C dX12_beliefLine_28 (Hh.1 _ _ sh_96) hb6 ?_
      refine b_if_le (tgt := 41) (pc := 29) C dX12_beliefLine_29 rfl (fun hc7 => ?_) (fun hc7 => ?_)
      · rw [if_pos hc7] at hF
        exact b_sub [1, 2, 0] rfl (e_X12_beliefLine_J41 C Hh Rt x1 v4 _ hF)
      · rw [if_neg hc7] at hF
        refine b_aload_n (pc := 32) C dX12_beliefLine_32 rfl 1 rfl ?_
        refine b_iconst (pc := 33) C dX12_beliefLine_33 ic_3 ?_
        refine b_aload_n (pc := 34) C dX12_beliefLine_34 rfl 1 rfl ?_
        refine b_getI (pc := 35) C dX12_beliefLine_35 fl_X12_84 (Hh.1 _ _ sh_92) rfl ?_
        obtain ⟨σ9, hc8, hF⟩ := bbv_e hF
        refine b_cV2v (d' := (d + 8)) (pc := 38) C dX12_beliefLine_38 mm_X12_130 (Hh.1 _ _ sh_92) rfl (Nat.le_of_ble_eq_true rfl) (by omega) (Hh.2.2 _ _ _ _ _ _ _ _ _ (lvl_eq (by omega) (e_X12_wrong (d + 8) (3 : Int32) (σ3.1 92 4) _ _ hc8))) ?_
        exact b_sub [1, 2, 0] rfl (e_X12_beliefLine_J41 C Hh Rt x1 v4 _ hF)
  · rw [if_neg hc1] at hF
    exact b_vret (pc := 7) C Rt dX12_beliefLine_7 hF
set_option maxHeartbeats 4000000 in
set_option maxRecDepth 20000 in
theorem e_X12_beliefLine {l : Launch} {G : bG} {ρ : Nat → Nat} {A : Nat → Prop} (d : Nat) (x1 : Int32) (σ : bSto) (σ' : bSto) (hF : f_X12_beliefLine x1 σ = some σ') : bEv l G bSHf ρ A yX12_beliefLine cX12_beliefLine 3 none (d + 9) [.ref 92, .int x1] σ none σ' := b_met (d := d + 9) (by decide +kernel) (Nat.le_of_ble_eq_true rfl) rfl (fun X C Rt h1 h2 h3 => e_X12_beliefLine_0 C ⟨fun o q h => by rw [h1]; exact h, fun i h => by rw [h2]; exact h, h3⟩ Rt _ _ hF)
/-! BenchColonyModel.hourLine -/
def f_X12_hourLine_J82 (s1 : Int32) (σ : bSto) : Option bSto := if s1 < 0 ∨ 406 ≤ s1.toNatClampNeg then none else if s1 < 0 ∨ 406 ≤ s1.toNatClampNeg then none else blet (bI σ 96 s1.toNatClampNeg ((σ.1 96 s1.toNatClampNeg) + (1 : Int32))) (fun σ2 => some σ2)
def f_X12_hourLine_J44 (x1 : Int32) (x2 : Int32) (σ : bSto) : Option bSto := (if (σ.1 92 13) = 0 then bbv (f_X12_next  σ) (fun σ3 => if ((126 : Int32) + x2) < 0 ∨ 406 ≤ ((126 : Int32) + x2).toNatClampNeg then none else blet (bI σ3 96 ((126 : Int32) + x2).toNatClampNeg x1) (fun σ4 => (if x1 = (1 : Int32) then f_X12_hourLine_J82 (7 : Int32) σ4 else f_X12_hourLine_J82 (8 : Int32) σ4))) else some σ)
def f_X12_hourLine (x1 : Int32) (σ : bSto) : Option bSto := (if (σ.1 92 13) = 0 then bbd (f_X12_numberHere (0 : Int32) (99 : Int32) σ) (fun v4 σ3 => (if (σ3.1 92 13) = 0 then if ((126 : Int32) + v4) < 0 ∨ 406 ≤ ((126 : Int32) + v4).toNatClampNeg then none else (if (σ3.1 96 ((126 : Int32) + v4).toNatClampNeg) ≤ 0 then f_X12_hourLine_J44 x1 v4 σ3 else bbv (f_X12_wrong (3 : Int32) (σ3.1 92 4) σ3) (fun σ9 => f_X12_hourLine_J44 x1 v4 σ9)) else f_X12_hourLine_J44 x1 v4 σ3)) else some σ)
set_option maxHeartbeats 4000000 in
set_option maxRecDepth 20000 in
theorem e_X12_hourLine_J82 {X : bX} {l : Launch} {G : bG} {ρ : Nat → Nat} {A : Nat → Prop} {d : Nat} {σ' : bSto} (C : bCX X cX12_hourLine RX12 (d + 2)) (Hh : bH X l G bSHf ρ A 3) (Rt : bRX X none none σ') (s1 : Int32) (σ : bSto) (hF : f_X12_hourLine_J82 s1 σ = some σ') : bAJ X 82 [] [.int s1, .ref 96] σ := by
  rw [f_X12_hourLine_J82] at hF
  refine b_dup2 (pc := 82) C dX12_hourLine_82 rfl rfl ?_
  obtain ⟨hb1, hF⟩ := bif_n hF
  refine b_iald (pc := 83) C dX12_hourLine_83 (Hh.1 _ _ sh_96) hb1 ?_
  refine b_iconst (pc := 84) C dX12_hourLine_84 ic_1 ?_
  refine b_iadd (pc := 85) C dX12_hourLine_85 ?_
  obtain ⟨hb4, hF⟩ := bif_n hF
  obtain ⟨σ2, e3, hF⟩ := blet_e hF
  refine b_iast (pc := 86) C dX12_hourLine_86 (Hh.1 _ _ sh_96) hb4 e3 ?_
  exact b_vret (pc := 87) C Rt dX12_hourLine_87 hF
set_option maxHeartbeats 4000000 in
set_option maxRecDepth 20000 in
theorem e_X12_hourLine_J44 {X : bX} {l : Launch} {G : bG} {ρ : Nat → Nat} {A : Nat → Prop} {d : Nat} {σ' : bSto} (C : bCX X cX12_hourLine RX12 (d + 2)) (Hh : bH X l G bSHf ρ A 3) (Rt : bRX X none none σ') (x1 : Int32) (x2 : Int32) (σ : bSto) (hF : f_X12_hourLine_J44 x1 x2 σ = some σ') : bAJ X 44 [(0, .ref 92), (1, .int x1), (2, .int x2)] [] σ := by
  rw [f_X12_hourLine_J44] at hF
  refine b_aload_n (pc := 44) C dX12_hourLine_44 rfl 0 rfl ?_
  refine b_getI (pc := 45) C dX12_hourLine_45 fl_X12_103 (Hh.1 _ _ sh_92) rfl ?_
  refine b_if_eq (tgt := 52) (pc := 48) C dX12_hourLine_48 rfl (fun hc1 => ?_) (fun hc1 => ?_)
  · rw [if_pos hc1] at hF
    refine b_aload_n (pc := 52) C dX12_hourLine_52 rfl 0 rfl ?_
    obtain ⟨σ3, hc2, hF⟩ := bbv_e hF
    refine b_cV0v (d' := (d + 1)) (pc := 53) C dX12_hourLine_53 mm_X12_124 (Hh.1 _ _ sh_92) rfl (Nat.le_of_ble_eq_true rfl) (by omega) (Hh.2.2 _ _ _ _ _ _ _ _ _ (lvl_eq (by omega) (e_X12_next (d + 0)  _ _ hc2))) ?_
    refine b_aload_n (pc := 56) C dX12_hourLine_56 rfl 0 rfl ?_
    refine b_getS (pc := 57) C dX12_hourLine_57 fl_X12_23 (Hh.1 _ _ sh_92) rfl ?_
    refine b_bipush (pc := 60) C dX12_hourLine_60 bp_126 ?_
    refine b_iload_n (pc := 62) C dX12_hourLine_62 rfl 2 rfl ?_
    refine b_iadd (pc := 63) C dX12_hourLine_63 ?_
    refine b_iload_n (pc := 64) C dX12_hourLine_64 rfl 1 rfl ?_
    obtain ⟨hb6, hF⟩ := bif_n hF
    obtain ⟨σ4, e5, hF⟩ := blet_e hF
    refine b_iast (pc := 65) C dX12_hourLine_65 (Hh.1 _ _ sh_96) hb6 e5 ?_
    refine b_aload_n (pc := 66) C dX12_hourLine_66 rfl 0 rfl ?_
    refine b_getS (pc := 67) C dX12_hourLine_67 fl_X12_23 (Hh.1 _ _ sh_92) rfl ?_
    refine b_iload_n (pc := 70) C dX12_hourLine_70 rfl 1 rfl ?_
    refine b_iconst (pc := 71) C dX12_hourLine_71 ic_1 ?_
    refine b_icmp_ne (tgt := 80) (pc := 72) C dX12_hourLine_72 rfl (fun hc7 => ?_) (fun hc7 => ?_)
    · rw [if_neg hc7] at hF
      refine b_bipush (pc := 80) C dX12_hourLine_80 bp_8 ?_
      exact b_sub [] rfl (e_X12_hourLine_J82 C Hh Rt (8 : Int32) _ hF)
    · rw [if_pos hc7] at hF
      refine b_bipush (pc := 75) C dX12_hourLine_75 bp_7 ?_
      refine b_goto (tgt := 82) (pc := 77) C dX12_hourLine_77 rfl ?_
      exact b_sub [] rfl (e_X12_hourLine_J82 C Hh Rt (7 : Int32) _ hF)
  · rw [if_neg hc1] at hF
    exact b_vret (pc := 51) C Rt dX12_hourLine_51 hF
set_option maxHeartbeats 4000000 in
set_option maxRecDepth 20000 in
theorem e_X12_hourLine_0 {X : bX} {l : Launch} {G : bG} {ρ : Nat → Nat} {A : Nat → Prop} {d : Nat} {σ' : bSto} (C : bCX X cX12_hourLine RX12 (d + 2)) (Hh : bH X l G bSHf ρ A 3) (Rt : bRX X none none σ') (x1 : Int32) (σ : bSto) (hF : f_X12_hourLine x1 σ = some σ') : bAJ X 0 [(0, .ref 92), (1, .int x1)] [] σ := by
  rw [f_X12_hourLine] at hF
  refine b_aload_n (pc := 0) C dX12_hourLine_0 rfl 0 rfl ?_
  refine b_getI (pc := 1) C dX12_hourLine_1 fl_X12_103 (Hh.1 _ _ sh_92) rfl ?_
  refine b_if_eq (tgt := 8) (pc := 4) C dX12_hourLine_4 rfl (fun hc1 => ?_) (fun hc1 => ?_)
  · rw [if_pos hc1] at hF
    refine b_aload_n (pc := 8) C dX12_hourLine_8 rfl 0 rfl ?_
    refine b_iconst (pc := 9) C dX12_hourLine_9 ic_0 ?_
    refine b_bipush (pc := 10) C dX12_hourLine_10 bp_99 ?_
    obtain ⟨v4, σ3, hc2, hF⟩ := bbd_e hF
    refine b_cV2i (d' := (d + 1)) (pc := 12) C dX12_hourLine_12 mm_X12_171 (Hh.1 _ _ sh_92) rfl (Nat.le_of_ble_eq_true rfl) (by omega) (Hh.2.2 _ _ _ _ _ _ _ _ _ (lvl_eq (by omega) (e_X12_numberHere (d + 0) (0 : Int32) (99 : Int32) _ _ _ hc2))) ?_
    refine b_istore_n (L' := [(2, .int v4), (0, .ref 92), (1, .int x1)]) (pc := 15) C dX12_hourLine_15 rfl rfl (Hh.2.1 _ (Nat.le_of_ble_eq_true rfl)) rfl ?_
    refine b_aload_n (pc := 16) C dX12_hourLine_16 rfl 1 rfl ?_
    refine b_getI (pc := 17) C dX12_hourLine_17 fl_X12_103 (Hh.1 _ _ sh_92) rfl ?_
    refine b_if_ne (tgt := 44) (pc := 20) C dX12_hourLine_20 rfl (fun hc5 => ?_) (fun hc5 => ?_)
    · rw [if_neg hc5] at hF
      exact b_sub [1, 2, 0] rfl (e_X12_hourLine_J44 C Hh Rt x1 v4 _ hF)
    · rw [if_pos hc5] at hF
      refine b_aload_n (pc := 23) C dX12_hourLine_23 rfl 1 rfl ?_
      refine b_getS (pc := 24) C dX12_hourLine_24 fl_X12_23 (Hh.1 _ _ sh_92) rfl ?_
      refine b_bipush (pc := 27) C dX12_hourLine_27 bp_126 ?_
      refine b_iload_n (pc := 29) C dX12_hourLine_29 rfl 0 rfl ?_
      refine b_iadd (pc := 30) C dX12_hourLine_30 ?_
      obtain ⟨hb6, hF⟩ := bif_n hF
      refine b_iald (pc := 31) C dX12_hourLine_31 (Hh.1 _ _ sh_96) hb6 ?_
      refine b_if_le (tgt := 44) (pc := 32) C dX12_hourLine_32 rfl (fun hc7 => ?_) (fun hc7 => ?_)
      · rw [if_pos hc7] at hF
        exact b_sub [1, 2, 0] rfl (e_X12_hourLine_J44 C Hh Rt x1 v4 _ hF)
      · rw [if_neg hc7] at hF
        refine b_aload_n (pc := 35) C dX12_hourLine_35 rfl 1 rfl ?_
        refine b_iconst (pc := 36) C dX12_hourLine_36 ic_3 ?_
        refine b_aload_n (pc := 37) C dX12_hourLine_37 rfl 1 rfl ?_
        refine b_getI (pc := 38) C dX12_hourLine_38 fl_X12_84 (Hh.1 _ _ sh_92) rfl ?_
        obtain ⟨σ9, hc8, hF⟩ := bbv_e hF
        refine b_cV2v (d' := (d + 1)) (pc := 41) C dX12_hourLine_41 mm_X12_130 (Hh.1 _ _ sh_92) rfl (Nat.le_of_ble_eq_true rfl) (by omega) (Hh.2.2 _ _ _ _ _ _ _ _ _ (lvl_eq (by omega) (e_X12_wrong (d + 1) (3 : Int32) (σ3.1 92 4) _ _ hc8))) ?_
        exact b_sub [1, 2, 0] rfl (e_X12_hourLine_J44 C Hh Rt x1 v4 _ hF)
  · rw [if_neg hc1] at hF
    exact b_vret (pc := 7) C Rt dX12_hourLine_7 hF
set_option maxHeartbeats 4000000 in
set_option maxRecDepth 20000 in
theorem e_X12_hourLine {l : Launch} {G : bG} {ρ : Nat → Nat} {A : Nat → Prop} (d : Nat) (x1 : Int32) (σ : bSto) (σ' : bSto) (hF : f_X12_hourLine x1 σ = some σ') : bEv l G bSHf ρ A yX12_hourLine cX12_hourLine 3 none (d + 2) [.ref 92, .int x1] σ none σ' := b_met (d := d + 2) (by decide +kernel) (Nat.le_of_ble_eq_true rfl) rfl (fun X C Rt h1 h2 h3 => e_X12_hourLine_0 C ⟨fun o q h => by rw [h1]; exact h, fun i h => by rw [h2]; exact h, h3⟩ Rt _ _ hF)
/-! BenchColonyModel.readLine -/
def f_X12_readLine_J158 (x1 : Int32) (s1 : Nat) (s2 : Int32) (σ : bSto) : Option bSto := bbd (f_X12_begins s1 s2 σ) (fun v3 σ2 => (if v3 = 0 then bbd (f_X12_begins 2 (1 : Int32) σ2) (fun v7 σ6 => (if v7 = 0 then bbd (f_X12_begins 6 (1 : Int32) σ6) (fun v11 σ10 => (if v11 = 0 then bbd (f_X12_begins 20 x1 σ10) (fun v15 σ14 => (if v15 = 0 then bbd (f_X12_begins 17 x1 σ14) (fun v19 σ18 => (if v19 = 0 then bbv (f_X12_wrong (1 : Int32) (σ18.1 92 4) σ18) (fun σ22 => some σ22) else bbv (f_X12_hourLine (2 : Int32) σ18) (fun σ24 => some σ24))) else bbv (f_X12_hourLine (1 : Int32) σ14) (fun σ26 => some σ26))) else bbv (f_X12_beliefLine (-1 : Int32) σ10) (fun σ28 => some σ28))) else bbv (f_X12_beliefLine (1 : Int32) σ6) (fun σ30 => some σ30))) else bbv (f_X12_heedsLine  σ2) (fun σ32 => some σ32)))
def f_X12_readLine_J125 (x1 : Int32) (s1 : Nat) (s2 : Int32) (σ : bSto) : Option bSto := bbd (f_X12_begins s1 s2 σ) (fun v3 σ2 => (if v3 = 0 then (if (9 : Int32) ≤ (σ2.1 96 6) then f_X12_readLine_J158 x1 10 (0 : Int32) σ2 else f_X12_readLine_J158 x1 10 (1 : Int32) σ2) else bbv (f_X12_kinLine  σ2) (fun σ7 => some σ7)))
def f_X12_readLine_J93 (x1 : Int32) (s1 : Nat) (s2 : Int32) (σ : bSto) : Option bSto := bbd (f_X12_begins s1 s2 σ) (fun v3 σ2 => (if v3 = 0 then (if (6 : Int32) ≤ (σ2.1 96 5) then f_X12_readLine_J125 x1 12 (0 : Int32) σ2 else f_X12_readLine_J125 x1 12 (1 : Int32) σ2) else bbv (f_X12_personLine  σ2) (fun σ7 => some σ7)))
def f_X12_readLine_J61 (x1 : Int32) (s1 : Nat) (s2 : Int32) (σ : bSto) : Option bSto := bbd (f_X12_begins s1 s2 σ) (fun v3 σ2 => (if v3 = 0 then (if (7 : Int32) ≤ (σ2.1 96 4) then f_X12_readLine_J93 x1 16 (0 : Int32) σ2 else f_X12_readLine_J93 x1 16 (1 : Int32) σ2) else bbv (f_X12_benchLine  σ2) (fun σ7 => some σ7)))
def f_X12_readLine_J25 (s0 : Int32) (σ : bSto) : Option bSto := bbd (f_X12_isWord 19 σ) (fun v3 σ2 => (if v3 = 0 then (if (6 : Int32) ≤ (σ2.1 96 3) then f_X12_readLine_J61 s0 3 (0 : Int32) σ2 else f_X12_readLine_J61 s0 3 (1 : Int32) σ2) else bbv (f_X12_roomLine  σ2) (fun σ7 => some σ7)))
def f_X12_readLine  (σ : bSto) : Option bSto := (if (8 : Int32) ≤ ((σ.1 96 7) + (σ.1 96 8)) then f_X12_readLine_J25 (0 : Int32) σ else f_X12_readLine_J25 (1 : Int32) σ)
set_option maxHeartbeats 4000000 in
set_option maxRecDepth 20000 in
theorem e_X12_readLine_J158 {X : bX} {l : Launch} {G : bG} {ρ : Nat → Nat} {A : Nat → Prop} {d : Nat} {σ' : bSto} (C : bCX X cX12_readLine RX12 (d + 11)) (Hh : bH X l G bSHf ρ A 2) (Rt : bRX X none none σ') (x1 : Int32) (s1 : Nat) (hs1 : s1 < bnS) (s2 : Int32) (σ : bSto) (hF : f_X12_readLine_J158 x1 s1 s2 σ = some σ') : bAJ X 158 [(0, .ref 92), (1, .int x1)] [.int s2, .ref (1000 + s1), .ref 92] σ := by
  rw [f_X12_readLine_J158] at hF
  obtain ⟨v3, σ2, hc1, hF⟩ := bbd_e hF
  refine b_cV2i (d' := (d + 10)) (pc := 158) C dX12_readLine_158 mm_X12_206 (Hh.1 _ _ sh_92) rfl (Nat.le_of_ble_eq_true rfl) (by omega) (Hh.2.2 _ _ _ _ _ _ _ _ _ (lvl_eq (by omega) (e_X12_begins (d + 4) _ hs1 s2 _ _ _ hc1))) ?_
  refine b_if_eq (tgt := 171) (pc := 161) C dX12_readLine_161 rfl (fun hc4 => ?_) (fun hc4 => ?_)
  · rw [if_pos hc4] at hF
    refine b_aload_n (pc := 171) C dX12_readLine_171 rfl 0 rfl ?_
    refine b_ldcS (pc := 172) C dX12_readLine_172 "believes" 33 rfl ?_
    refine b_iconst (pc := 174) C dX12_readLine_174 ic_1 ?_
    obtain ⟨v7, σ6, hc5, hF⟩ := bbd_e hF
    refine b_cV2i (d' := (d + 10)) (pc := 175) C dX12_readLine_175 mm_X12_206 (Hh.1 _ _ sh_92) rfl (Nat.le_of_ble_eq_true rfl) (by omega) (Hh.2.2 _ _ _ _ _ _ _ _ _ (lvl_eq (by omega) (e_X12_begins (d + 4) _ (by decide) (1 : Int32) _ _ _ hc5))) ?_
    refine b_if_eq (tgt := 189) (pc := 178) C dX12_readLine_178 rfl (fun hc8 => ?_) (fun hc8 => ?_)
    · rw [if_pos hc8] at hF
      refine b_aload_n (pc := 189) C dX12_readLine_189 rfl 0 rfl ?_
      refine b_ldcS (pc := 190) C dX12_readLine_190 "denies" 34 rfl ?_
      refine b_iconst (pc := 192) C dX12_readLine_192 ic_1 ?_
      obtain ⟨v11, σ10, hc9, hF⟩ := bbd_e hF
      refine b_cV2i (d' := (d + 10)) (pc := 193) C dX12_readLine_193 mm_X12_206 (Hh.1 _ _ sh_92) rfl (Nat.le_of_ble_eq_true rfl) (by omega) (Hh.2.2 _ _ _ _ _ _ _ _ _ (lvl_eq (by omega) (e_X12_begins (d + 4) _ (by decide) (1 : Int32) _ _ _ hc9))) ?_
      refine b_if_eq (tgt := 207) (pc := 196) C dX12_readLine_196 rfl (fun hc12 => ?_) (fun hc12 => ?_)
      · rw [if_pos hc12] at hF
        refine b_aload_n (pc := 207) C dX12_readLine_207 rfl 0 rfl ?_
        refine b_ldcS (pc := 208) C dX12_readLine_208 "rumble" 35 rfl ?_
        refine b_iload_n (pc := 210) C dX12_readLine_210 rfl 1 rfl ?_
        obtain ⟨v15, σ14, hc13, hF⟩ := bbd_e hF
        refine b_cV2i (d' := (d + 10)) (pc := 211) C dX12_readLine_211 mm_X12_206 (Hh.1 _ _ sh_92) rfl (Nat.le_of_ble_eq_true rfl) (by omega) (Hh.2.2 _ _ _ _ _ _ _ _ _ (lvl_eq (by omega) (e_X12_begins (d + 4) _ (by decide) x1 _ _ _ hc13))) ?_
        refine b_if_eq (tgt := 225) (pc := 214) C dX12_readLine_214 rfl (fun hc16 => ?_) (fun hc16 => ?_)
        · rw [if_pos hc16] at hF
          refine b_aload_n (pc := 225) C dX12_readLine_225 rfl 0 rfl ?_
          refine b_ldcS (pc := 226) C dX12_readLine_226 "quiet" 36 rfl ?_
          refine b_iload_n (pc := 228) C dX12_readLine_228 rfl 1 rfl ?_
          obtain ⟨v19, σ18, hc17, hF⟩ := bbd_e hF
          refine b_cV2i (d' := (d + 10)) (pc := 229) C dX12_readLine_229 mm_X12_206 (Hh.1 _ _ sh_92) rfl (Nat.le_of_ble_eq_true rfl) (by omega) (Hh.2.2 _ _ _ _ _ _ _ _ _ (lvl_eq (by omega) (e_X12_begins (d + 4) _ (by decide) x1 _ _ _ hc17))) ?_
          refine b_if_eq (tgt := 243) (pc := 232) C dX12_readLine_232 rfl (fun hc20 => ?_) (fun hc20 => ?_)
          · rw [if_pos hc20] at hF
            refine b_aload_n (pc := 243) C dX12_readLine_243 rfl 0 rfl ?_
            refine b_iconst (pc := 244) C dX12_readLine_244 ic_1 ?_
            refine b_aload_n (pc := 245) C dX12_readLine_245 rfl 0 rfl ?_
            refine b_getI (pc := 246) C dX12_readLine_246 fl_X12_84 (Hh.1 _ _ sh_92) rfl ?_
            obtain ⟨σ22, hc21, hF⟩ := bbv_e hF
            refine b_cV2v (d' := (d + 10)) (pc := 249) C dX12_readLine_249 mm_X12_130 (Hh.1 _ _ sh_92) rfl (Nat.le_of_ble_eq_true rfl) (by omega) (Hh.2.2 _ _ _ _ _ _ _ _ _ (lvl_eq (by omega) (e_X12_wrong (d + 10) (1 : Int32) (σ18.1 92 4) _ _ hc21))) ?_
            exact b_vret (pc := 252) C Rt dX12_readLine_252 hF
          · rw [if_neg hc20] at hF
            refine b_aload_n (pc := 235) C dX12_readLine_235 rfl 0 rfl ?_
            refine b_iconst (pc := 236) C dX12_readLine_236 ic_2 ?_
            obtain ⟨σ24, hc23, hF⟩ := bbv_e hF
            refine b_cV1v (d' := (d + 10)) (pc := 237) C dX12_readLine_237 mm_X12_226 (Hh.1 _ _ sh_92) rfl (Nat.le_of_ble_eq_true rfl) (by omega) (Hh.2.2 _ _ _ _ _ _ _ _ _ (lvl_eq (by omega) (e_X12_hourLine (d + 8) (2 : Int32) _ _ hc23))) ?_
            refine b_goto (tgt := 252) (pc := 240) C dX12_readLine_240 rfl ?_
            exact b_vret (pc := 252) C Rt dX12_readLine_252 hF
        · rw [if_neg hc16] at hF
          refine b_aload_n (pc := 217) C dX12_readLine_217 rfl 0 rfl ?_
          refine b_iconst (pc := 218) C dX12_readLine_218 ic_1 ?_
          obtain ⟨σ26, hc25, hF⟩ := bbv_e hF
          refine b_cV1v (d' := (d + 10)) (pc := 219) C dX12_readLine_219 mm_X12_226 (Hh.1 _ _ sh_92) rfl (Nat.le_of_ble_eq_true rfl) (by omega) (Hh.2.2 _ _ _ _ _ _ _ _ _ (lvl_eq (by omega) (e_X12_hourLine (d + 8) (1 : Int32) _ _ hc25))) ?_
          refine b_goto (tgt := 252) (pc := 222) C dX12_readLine_222 rfl ?_
          exact b_vret (pc := 252) C Rt dX12_readLine_252 hF
      · rw [if_neg hc12] at hF
        refine b_aload_n (pc := 199) C dX12_readLine_199 rfl 0 rfl ?_
        refine b_iconst (pc := 200) C dX12_readLine_200 ic_m1 ?_
        obtain ⟨σ28, hc27, hF⟩ := bbv_e hF
        refine b_cV1v (d' := (d + 10)) (pc := 201) C dX12_readLine_201 mm_X12_222 (Hh.1 _ _ sh_92) rfl (Nat.le_of_ble_eq_true rfl) (by omega) (Hh.2.2 _ _ _ _ _ _ _ _ _ (lvl_eq (by omega) (e_X12_beliefLine (d + 1) (-1 : Int32) _ _ hc27))) ?_
        refine b_goto (tgt := 252) (pc := 204) C dX12_readLine_204 rfl ?_
        exact b_vret (pc := 252) C Rt dX12_readLine_252 hF
    · rw [if_neg hc8] at hF
      refine b_aload_n (pc := 181) C dX12_readLine_181 rfl 0 rfl ?_
      refine b_iconst (pc := 182) C dX12_readLine_182 ic_1 ?_
      obtain ⟨σ30, hc29, hF⟩ := bbv_e hF
      refine b_cV1v (d' := (d + 10)) (pc := 183) C dX12_readLine_183 mm_X12_222 (Hh.1 _ _ sh_92) rfl (Nat.le_of_ble_eq_true rfl) (by omega) (Hh.2.2 _ _ _ _ _ _ _ _ _ (lvl_eq (by omega) (e_X12_beliefLine (d + 1) (1 : Int32) _ _ hc29))) ?_
      refine b_goto (tgt := 252) (pc := 186) C dX12_readLine_186 rfl ?_
      exact b_vret (pc := 252) C Rt dX12_readLine_252 hF
  · rw [if_neg hc4] at hF
    refine b_aload_n (pc := 164) C dX12_readLine_164 rfl 0 rfl ?_
    obtain ⟨σ32, hc31, hF⟩ := bbv_e hF
    refine b_cV0v (d' := (d + 10)) (pc := 165) C dX12_readLine_165 mm_X12_219 (Hh.1 _ _ sh_92) rfl (Nat.le_of_ble_eq_true rfl) (by omega) (Hh.2.2 _ _ _ _ _ _ _ _ _ (lvl_eq (by omega) (e_X12_heedsLine (d + 0)  _ _ hc31))) ?_
    refine b_goto (tgt := 252) (pc := 168) C dX12_readLine_168 rfl ?_
    exact b_vret (pc := 252) C Rt dX12_readLine_252 hF
set_option maxHeartbeats 4000000 in
set_option maxRecDepth 20000 in
theorem e_X12_readLine_J125 {X : bX} {l : Launch} {G : bG} {ρ : Nat → Nat} {A : Nat → Prop} {d : Nat} {σ' : bSto} (C : bCX X cX12_readLine RX12 (d + 11)) (Hh : bH X l G bSHf ρ A 2) (Rt : bRX X none none σ') (x1 : Int32) (s1 : Nat) (hs1 : s1 < bnS) (s2 : Int32) (σ : bSto) (hF : f_X12_readLine_J125 x1 s1 s2 σ = some σ') : bAJ X 125 [(0, .ref 92), (1, .int x1)] [.int s2, .ref (1000 + s1), .ref 92] σ := by
  rw [f_X12_readLine_J125] at hF
  obtain ⟨v3, σ2, hc1, hF⟩ := bbd_e hF
  refine b_cV2i (d' := (d + 10)) (pc := 125) C dX12_readLine_125 mm_X12_206 (Hh.1 _ _ sh_92) rfl (Nat.le_of_ble_eq_true rfl) (by omega) (Hh.2.2 _ _ _ _ _ _ _ _ _ (lvl_eq (by omega) (e_X12_begins (d + 4) _ hs1 s2 _ _ _ hc1))) ?_
  refine b_if_eq (tgt := 138) (pc := 128) C dX12_readLine_128 rfl (fun hc4 => ?_) (fun hc4 => ?_)
  · rw [if_pos hc4] at hF
    refine b_aload_n (pc := 138) C dX12_readLine_138 rfl 0 rfl ?_
    refine b_ldcS (pc := 139) C dX12_readLine_139 "heeds" 32 rfl ?_
    refine b_aload_n (pc := 141) C dX12_readLine_141 rfl 0 rfl ?_
    refine b_getS (pc := 142) C dX12_readLine_142 fl_X12_23 (Hh.1 _ _ sh_92) rfl ?_
    refine b_bipush (pc := 145) C dX12_readLine_145 bp_6 ?_
    refine b_ialdK (pc := 147) C dX12_readLine_147 (Hh.1 _ _ sh_96) tn_6 (by decide) ?_
    refine b_bipush (pc := 148) C dX12_readLine_148 bp_9 ?_
    refine b_icmp_ge (tgt := 157) (pc := 150) C dX12_readLine_150 rfl (fun hc5 => ?_) (fun hc5 => ?_)
    · rw [if_pos hc5] at hF
      refine b_iconst (pc := 157) C dX12_readLine_157 ic_0 ?_
      exact b_sub [0, 1] rfl (e_X12_readLine_J158 C Hh Rt x1 _ (by decide) (0 : Int32) _ hF)
    · rw [if_neg hc5] at hF
      refine b_iconst (pc := 153) C dX12_readLine_153 ic_1 ?_
      refine b_goto (tgt := 158) (pc := 154) C dX12_readLine_154 rfl ?_
      exact b_sub [0, 1] rfl (e_X12_readLine_J158 C Hh Rt x1 _ (by decide) (1 : Int32) _ hF)
  · rw [if_neg hc4] at hF
    refine b_aload_n (pc := 131) C dX12_readLine_131 rfl 0 rfl ?_
    obtain ⟨σ7, hc6, hF⟩ := bbv_e hF
    refine b_cV0v (d' := (d + 10)) (pc := 132) C dX12_readLine_132 mm_X12_216 (Hh.1 _ _ sh_92) rfl (Nat.le_of_ble_eq_true rfl) (by omega) (Hh.2.2 _ _ _ _ _ _ _ _ _ (lvl_eq (by omega) (e_X12_kinLine (d + 0)  _ _ hc6))) ?_
    refine b_goto (tgt := 252) (pc := 135) C dX12_readLine_135 rfl ?_
    exact b_vret (pc := 252) C Rt dX12_readLine_252 hF
set_option maxHeartbeats 4000000 in
set_option maxRecDepth 20000 in
theorem e_X12_readLine_J93 {X : bX} {l : Launch} {G : bG} {ρ : Nat → Nat} {A : Nat → Prop} {d : Nat} {σ' : bSto} (C : bCX X cX12_readLine RX12 (d + 11)) (Hh : bH X l G bSHf ρ A 2) (Rt : bRX X none none σ') (x1 : Int32) (s1 : Nat) (hs1 : s1 < bnS) (s2 : Int32) (σ : bSto) (hF : f_X12_readLine_J93 x1 s1 s2 σ = some σ') : bAJ X 93 [(0, .ref 92), (1, .int x1)] [.int s2, .ref (1000 + s1), .ref 92] σ := by
  rw [f_X12_readLine_J93] at hF
  obtain ⟨v3, σ2, hc1, hF⟩ := bbd_e hF
  refine b_cV2i (d' := (d + 10)) (pc := 93) C dX12_readLine_93 mm_X12_206 (Hh.1 _ _ sh_92) rfl (Nat.le_of_ble_eq_true rfl) (by omega) (Hh.2.2 _ _ _ _ _ _ _ _ _ (lvl_eq (by omega) (e_X12_begins (d + 4) _ hs1 s2 _ _ _ hc1))) ?_
  refine b_if_eq (tgt := 106) (pc := 96) C dX12_readLine_96 rfl (fun hc4 => ?_) (fun hc4 => ?_)
  · rw [if_pos hc4] at hF
    refine b_aload_n (pc := 106) C dX12_readLine_106 rfl 0 rfl ?_
    refine b_ldcS (pc := 107) C dX12_readLine_107 "kin" 31 rfl ?_
    refine b_aload_n (pc := 109) C dX12_readLine_109 rfl 0 rfl ?_
    refine b_getS (pc := 110) C dX12_readLine_110 fl_X12_23 (Hh.1 _ _ sh_92) rfl ?_
    refine b_iconst (pc := 113) C dX12_readLine_113 ic_5 ?_
    refine b_ialdK (pc := 114) C dX12_readLine_114 (Hh.1 _ _ sh_96) tn_5 (by decide) ?_
    refine b_bipush (pc := 115) C dX12_readLine_115 bp_6 ?_
    refine b_icmp_ge (tgt := 124) (pc := 117) C dX12_readLine_117 rfl (fun hc5 => ?_) (fun hc5 => ?_)
    · rw [if_pos hc5] at hF
      refine b_iconst (pc := 124) C dX12_readLine_124 ic_0 ?_
      exact b_sub [0, 1] rfl (e_X12_readLine_J125 C Hh Rt x1 _ (by decide) (0 : Int32) _ hF)
    · rw [if_neg hc5] at hF
      refine b_iconst (pc := 120) C dX12_readLine_120 ic_1 ?_
      refine b_goto (tgt := 125) (pc := 121) C dX12_readLine_121 rfl ?_
      exact b_sub [0, 1] rfl (e_X12_readLine_J125 C Hh Rt x1 _ (by decide) (1 : Int32) _ hF)
  · rw [if_neg hc4] at hF
    refine b_aload_n (pc := 99) C dX12_readLine_99 rfl 0 rfl ?_
    obtain ⟨σ7, hc6, hF⟩ := bbv_e hF
    refine b_cV0v (d' := (d + 10)) (pc := 100) C dX12_readLine_100 mm_X12_213 (Hh.1 _ _ sh_92) rfl (Nat.le_of_ble_eq_true rfl) (by omega) (Hh.2.2 _ _ _ _ _ _ _ _ _ (lvl_eq (by omega) (e_X12_personLine (d + 1)  _ _ hc6))) ?_
    refine b_goto (tgt := 252) (pc := 103) C dX12_readLine_103 rfl ?_
    exact b_vret (pc := 252) C Rt dX12_readLine_252 hF
set_option maxHeartbeats 4000000 in
set_option maxRecDepth 20000 in
theorem e_X12_readLine_J61 {X : bX} {l : Launch} {G : bG} {ρ : Nat → Nat} {A : Nat → Prop} {d : Nat} {σ' : bSto} (C : bCX X cX12_readLine RX12 (d + 11)) (Hh : bH X l G bSHf ρ A 2) (Rt : bRX X none none σ') (x1 : Int32) (s1 : Nat) (hs1 : s1 < bnS) (s2 : Int32) (σ : bSto) (hF : f_X12_readLine_J61 x1 s1 s2 σ = some σ') : bAJ X 61 [(0, .ref 92), (1, .int x1)] [.int s2, .ref (1000 + s1), .ref 92] σ := by
  rw [f_X12_readLine_J61] at hF
  obtain ⟨v3, σ2, hc1, hF⟩ := bbd_e hF
  refine b_cV2i (d' := (d + 10)) (pc := 61) C dX12_readLine_61 mm_X12_206 (Hh.1 _ _ sh_92) rfl (Nat.le_of_ble_eq_true rfl) (by omega) (Hh.2.2 _ _ _ _ _ _ _ _ _ (lvl_eq (by omega) (e_X12_begins (d + 4) _ hs1 s2 _ _ _ hc1))) ?_
  refine b_if_eq (tgt := 74) (pc := 64) C dX12_readLine_64 rfl (fun hc4 => ?_) (fun hc4 => ?_)
  · rw [if_pos hc4] at hF
    refine b_aload_n (pc := 74) C dX12_readLine_74 rfl 0 rfl ?_
    refine b_ldcS (pc := 75) C dX12_readLine_75 "person" 30 rfl ?_
    refine b_aload_n (pc := 77) C dX12_readLine_77 rfl 0 rfl ?_
    refine b_getS (pc := 78) C dX12_readLine_78 fl_X12_23 (Hh.1 _ _ sh_92) rfl ?_
    refine b_iconst (pc := 81) C dX12_readLine_81 ic_4 ?_
    refine b_ialdK (pc := 82) C dX12_readLine_82 (Hh.1 _ _ sh_96) tn_4 (by decide) ?_
    refine b_bipush (pc := 83) C dX12_readLine_83 bp_7 ?_
    refine b_icmp_ge (tgt := 92) (pc := 85) C dX12_readLine_85 rfl (fun hc5 => ?_) (fun hc5 => ?_)
    · rw [if_pos hc5] at hF
      refine b_iconst (pc := 92) C dX12_readLine_92 ic_0 ?_
      exact b_sub [0, 1] rfl (e_X12_readLine_J93 C Hh Rt x1 _ (by decide) (0 : Int32) _ hF)
    · rw [if_neg hc5] at hF
      refine b_iconst (pc := 88) C dX12_readLine_88 ic_1 ?_
      refine b_goto (tgt := 93) (pc := 89) C dX12_readLine_89 rfl ?_
      exact b_sub [0, 1] rfl (e_X12_readLine_J93 C Hh Rt x1 _ (by decide) (1 : Int32) _ hF)
  · rw [if_neg hc4] at hF
    refine b_aload_n (pc := 67) C dX12_readLine_67 rfl 0 rfl ?_
    obtain ⟨σ7, hc6, hF⟩ := bbv_e hF
    refine b_cV0v (d' := (d + 10)) (pc := 68) C dX12_readLine_68 mm_X12_210 (Hh.1 _ _ sh_92) rfl (Nat.le_of_ble_eq_true rfl) (by omega) (Hh.2.2 _ _ _ _ _ _ _ _ _ (lvl_eq (by omega) (e_X12_benchLine (d + 1)  _ _ hc6))) ?_
    refine b_goto (tgt := 252) (pc := 71) C dX12_readLine_71 rfl ?_
    exact b_vret (pc := 252) C Rt dX12_readLine_252 hF
set_option maxHeartbeats 4000000 in
set_option maxRecDepth 20000 in
theorem e_X12_readLine_J25 {X : bX} {l : Launch} {G : bG} {ρ : Nat → Nat} {A : Nat → Prop} {d : Nat} {σ' : bSto} (C : bCX X cX12_readLine RX12 (d + 11)) (Hh : bH X l G bSHf ρ A 2) (Rt : bRX X none none σ') (s0 : Int32) (σ : bSto) (hF : f_X12_readLine_J25 s0 σ = some σ') : bAJ X 25 [(0, .ref 92)] [.int s0] σ := by
  rw [f_X12_readLine_J25] at hF
  refine b_istore_n (L' := [(1, .int s0), (0, .ref 92)]) (pc := 25) C dX12_readLine_25 rfl rfl (Hh.2.1 _ (Nat.le_of_ble_eq_true rfl)) rfl ?_
  refine b_aload_n (pc := 26) C dX12_readLine_26 rfl 1 rfl ?_
  refine b_ldcS (pc := 27) C dX12_readLine_27 "room" 28 rfl ?_
  obtain ⟨v3, σ2, hc1, hF⟩ := bbd_e hF
  refine b_cV1i (d' := (d + 10)) (pc := 29) C dX12_readLine_29 mm_X12_120 (Hh.1 _ _ sh_92) rfl (Nat.le_of_ble_eq_true rfl) (by omega) (Hh.2.2 _ _ _ _ _ _ _ _ _ (lvl_eq (by omega) (e_X12_isWord (d + 5) _ (by decide) _ _ _ hc1))) ?_
  refine b_if_eq (tgt := 42) (pc := 32) C dX12_readLine_32 rfl (fun hc4 => ?_) (fun hc4 => ?_)
  · rw [if_pos hc4] at hF
    refine b_aload_n (pc := 42) C dX12_readLine_42 rfl 1 rfl ?_
    refine b_ldcS (pc := 43) C dX12_readLine_43 "bench" 29 rfl ?_
    refine b_aload_n (pc := 45) C dX12_readLine_45 rfl 1 rfl ?_
    refine b_getS (pc := 46) C dX12_readLine_46 fl_X12_23 (Hh.1 _ _ sh_92) rfl ?_
    refine b_iconst (pc := 49) C dX12_readLine_49 ic_3 ?_
    refine b_ialdK (pc := 50) C dX12_readLine_50 (Hh.1 _ _ sh_96) tn_3 (by decide) ?_
    refine b_bipush (pc := 51) C dX12_readLine_51 bp_6 ?_
    refine b_icmp_ge (tgt := 60) (pc := 53) C dX12_readLine_53 rfl (fun hc5 => ?_) (fun hc5 => ?_)
    · rw [if_pos hc5] at hF
      refine b_iconst (pc := 60) C dX12_readLine_60 ic_0 ?_
      exact b_sub [1, 0] rfl (e_X12_readLine_J61 C Hh Rt s0 _ (by decide) (0 : Int32) _ hF)
    · rw [if_neg hc5] at hF
      refine b_iconst (pc := 56) C dX12_readLine_56 ic_1 ?_
      refine b_goto (tgt := 61) (pc := 57) C dX12_readLine_57 rfl ?_
      exact b_sub [1, 0] rfl (e_X12_readLine_J61 C Hh Rt s0 _ (by decide) (1 : Int32) _ hF)
  · rw [if_neg hc4] at hF
    refine b_aload_n (pc := 35) C dX12_readLine_35 rfl 1 rfl ?_
    obtain ⟨σ7, hc6, hF⟩ := bbv_e hF
    refine b_cV0v (d' := (d + 10)) (pc := 36) C dX12_readLine_36 mm_X12_203 (Hh.1 _ _ sh_92) rfl (Nat.le_of_ble_eq_true rfl) (by omega) (Hh.2.2 _ _ _ _ _ _ _ _ _ (lvl_eq (by omega) (e_X12_roomLine (d + 1)  _ _ hc6))) ?_
    refine b_goto (tgt := 252) (pc := 39) C dX12_readLine_39 rfl ?_
    exact b_vret (pc := 252) C Rt dX12_readLine_252 hF
set_option maxHeartbeats 4000000 in
set_option maxRecDepth 20000 in
theorem e_X12_readLine_0 {X : bX} {l : Launch} {G : bG} {ρ : Nat → Nat} {A : Nat → Prop} {d : Nat} {σ' : bSto} (C : bCX X cX12_readLine RX12 (d + 11)) (Hh : bH X l G bSHf ρ A 2) (Rt : bRX X none none σ')  (σ : bSto) (hF : f_X12_readLine  σ = some σ') : bAJ X 0 [(0, .ref 92)] [] σ := by
  rw [f_X12_readLine] at hF
  refine b_aload_n (pc := 0) C dX12_readLine_0 rfl 0 rfl ?_
  refine b_getS (pc := 1) C dX12_readLine_1 fl_X12_23 (Hh.1 _ _ sh_92) rfl ?_
  refine b_bipush (pc := 4) C dX12_readLine_4 bp_7 ?_
  refine b_ialdK (pc := 6) C dX12_readLine_6 (Hh.1 _ _ sh_96) tn_7 (by decide) ?_
  refine b_aload_n (pc := 7) C dX12_readLine_7 rfl 0 rfl ?_
  refine b_getS (pc := 8) C dX12_readLine_8 fl_X12_23 (Hh.1 _ _ sh_92) rfl ?_
  refine b_bipush (pc := 11) C dX12_readLine_11 bp_8 ?_
  refine b_ialdK (pc := 13) C dX12_readLine_13 (Hh.1 _ _ sh_96) tn_8 (by decide) ?_
  refine b_iadd (pc := 14) C dX12_readLine_14 ?_
  refine b_bipush (pc := 15) C dX12_readLine_15 bp_8 ?_
  refine b_icmp_ge (tgt := 24) (pc := 17) C dX12_readLine_17 rfl (fun hc1 => ?_) (fun hc1 => ?_)
  · rw [if_pos hc1] at hF
    refine b_iconst (pc := 24) C dX12_readLine_24 ic_0 ?_
    exact b_sub [0] rfl (e_X12_readLine_J25 C Hh Rt (0 : Int32) _ hF)
  · rw [if_neg hc1] at hF
    refine b_iconst (pc := 20) C dX12_readLine_20 ic_1 ?_
    refine b_goto (tgt := 25) (pc := 21) C dX12_readLine_21 rfl ?_
    exact b_sub [0] rfl (e_X12_readLine_J25 C Hh Rt (1 : Int32) _ hF)
set_option maxHeartbeats 4000000 in
set_option maxRecDepth 20000 in
theorem e_X12_readLine {l : Launch} {G : bG} {ρ : Nat → Nat} {A : Nat → Prop} (d : Nat)  (σ : bSto) (σ' : bSto) (hF : f_X12_readLine  σ = some σ') : bEv l G bSHf ρ A yX12_readLine cX12_readLine 2 none (d + 11) [.ref 92] σ none σ' := b_met (d := d + 11) (by decide +kernel) (Nat.le_of_ble_eq_true rfl) rfl (fun X C Rt h1 h2 h3 => e_X12_readLine_0 C ⟨fun o q h => by rw [h1]; exact h, fun i h => by rw [h2]; exact h, h3⟩ Rt  _ hF)
/-! BenchColonyModel.room -/
def f_X12_room_L39 : Nat → Int32 → Int32 → bSto → Option (Int32 × bSto)
  | 0, _, _, _ => none
  | n + 1, x1, x2, σ => (if (406 : Int32) ≤ x2 then some (x1, σ) else if x2 < 0 ∨ 406 ≤ x2.toNatClampNeg then none else blet (bI σ 96 x2.toNatClampNeg (0 : Int32)) (fun σ2 => blet (x2 + (1 : Int32)) (fun x2_5 => f_X12_room_L39 n x1 x2_5 σ2)))
def f_X12_room_L77 : Nat → bSto → Option (bSto)
  | 0, _ => none
  | n + 1, σ => (if (σ.1 92 13) = 0 then (if (σ.1 92 6) = (59 : Int32) then bbv (f_X12_next  σ) (fun σ4 => bbv (f_X12_readLine  σ4) (fun σ6 => f_X12_room_L77 n  σ6)) else some σ) else some σ)
def f_X12_room_L193 : Nat → Int32 → bSto → Option (bSto)
  | 0, _, _ => none
  | n + 1, x2, σ => (if (7 : Int32) ≤ x2 then some σ else if (((35 : Int32) + ((4 : Int32) * x2)) + (2 : Int32)) < 0 ∨ 406 ≤ (((35 : Int32) + ((4 : Int32) * x2)) + (2 : Int32)).toNatClampNeg then none else if x2 < 0 ∨ 16 ≤ x2.toNatClampNeg then none else blet (bI σ 97 x2.toNatClampNeg (σ.1 95 (((35 : Int32) + ((4 : Int32) * x2)) + (2 : Int32)).toNatClampNeg)) (fun σ3 => if (((35 : Int32) + ((4 : Int32) * x2)) + (3 : Int32)) < 0 ∨ 406 ≤ (((35 : Int32) + ((4 : Int32) * x2)) + (3 : Int32)).toNatClampNeg then none else if ((7 : Int32) + x2) < 0 ∨ 16 ≤ ((7 : Int32) + x2).toNatClampNeg then none else blet (bI σ3 97 ((7 : Int32) + x2).toNatClampNeg (σ3.1 95 (((35 : Int32) + ((4 : Int32) * x2)) + (3 : Int32)).toNatClampNeg)) (fun σ7 => blet (x2 + (1 : Int32)) (fun x2_10 => f_X12_room_L193 n x2_10 σ7))))
def f_X12_room_J162  (σ : bSto) : Option (Int32 × bSto) := (if (σ.1 92 13) = 0 then bbv (f_X12_copy 96 (0 : Int32) 95 (0 : Int32) (406 : Int32) σ) (fun σ3 => bl0 (f_X12_room_L193 bFU (0 : Int32) σ3) (fun σ5 => blet (bI σ5 97 14 (σ5.1 95 10)) (fun σ6 => blet (bI σ6 97 15 (0 : Int32)) (fun σ8 => blet (bI σ8 92 14 (1 : Int32)) (fun σ10 => blet (bI σ10 92 20 (0 : Int32)) (fun σ12 => blet (bI σ12 92 21 (0 : Int32)) (fun σ14 => some ((σ14.1 95 3), σ14)))))))) else bbd (f_X12_no (4 : Int32) σ) (fun v18 σ17 => some (v18, σ17)))
def f_X12_room_J152  (σ : bSto) : Option (Int32 × bSto) := bbv (f_X12_wrong (6 : Int32) (σ.1 92 4) σ) (fun σ2 => f_X12_room_J162  σ2)
def f_X12_room_J127  (σ : bSto) : Option (Int32 × bSto) := (if (σ.1 92 13) = 0 then (if (σ.1 96 0) = 0 then f_X12_room_J152  σ else (if (σ.1 96 3) = 0 then f_X12_room_J152  σ else f_X12_room_J162  σ)) else f_X12_room_J162  σ)
def f_X12_room_J104  (σ : bSto) : Option (Int32 × bSto) := (if (σ.1 92 13) = 0 then (if (σ.1 92 6) = 0 then f_X12_room_J127  σ else bbv (f_X12_wrong (1 : Int32) (σ.1 92 4) σ) (fun σ4 => f_X12_room_J127  σ4)) else f_X12_room_J127  σ)
def f_X12_room (x1 : Int32) (σ : bSto) : Option (Int32 × bSto) := bbv (f_X12_good  σ) (fun σ2 => bbd (f_X12_in x1 (0 : Int32) (σ2.1 92 2) σ2) (fun v5 σ4 => (if v5 = 0 then bbd (f_X12_no (2 : Int32) σ4) (fun v27 σ26 => some (v27, σ26)) else blet (bI σ4 92 2 (0 : Int32)) (fun σ7 => blet (bI σ7 92 9 (0 : Int32)) (fun σ9 => blet (bI σ9 92 13 (0 : Int32)) (fun σ11 => bl1 (f_X12_room_L39 bFU x1 (0 : Int32) σ11) (fun x1_13 σ14 => blet (bI σ14 92 3 x1_13) (fun σ15 => blet (bI σ15 92 5 (0 : Int32)) (fun σ17 => bbv (f_X12_next  σ17) (fun σ20 => bbv (f_X12_readLine  σ20) (fun σ22 => bl0 (f_X12_room_L77 bFU  σ22) (fun σ24 => f_X12_room_J104  σ24))))))))))))
set_option maxHeartbeats 4000000 in
set_option maxRecDepth 20000 in
theorem e_X12_room_L39 {X : bX} {l : Launch} {G : bG} {ρ : Nat → Nat} {A : Nat → Prop} {d : Nat} {r : Int32} {σ' : bSto} (C : bCX X cX12_room RX12 (d + 12)) (Hh : bH X l G bSHf ρ A 3) (Rt : bRX X (some .int) (some (.int r)) σ') : ∀ (n : Nat) (x1 : Int32) (x2 : Int32) (σ : bSto) (q : (Int32 × bSto)), f_X12_room_L39 n x1 x2 σ = some q → (∀ (x1 : Int32) (s : bSto), q = (x1, s) → bAJ X 59 [(0, .ref 92), (1, .int x1)] [] s) → bAJ X 39 [(0, .ref 92), (1, .int x1), (2, .int x2)] [] σ := by
  intro n
  induction n with
  | zero => intro x1 x2 σ q hF; rw [f_X12_room_L39] at hF; cases hF
  | succ n ih =>
    intro x1 x2 σ q hF hx
    rw [f_X12_room_L39] at hF
    refine b_iload_n (pc := 39) C dX12_room_39 rfl 2 rfl ?_
    refine b_sipush (pc := 40) C dX12_room_40 sp_406 ?_
    refine b_icmp_ge (tgt := 59) (pc := 43) C dX12_room_43 rfl (fun hc1 => ?_) (fun hc1 => ?_)
    · rw [if_pos hc1] at hF
      exact b_sub [0, 1] rfl (hx _ _ (Option.some.inj hF).symm )
    · rw [if_neg hc1] at hF
      refine b_aload_n (pc := 46) C dX12_room_46 rfl 0 rfl ?_
      refine b_getS (pc := 47) C dX12_room_47 fl_X12_23 (Hh.1 _ _ sh_92) rfl ?_
      refine b_iload_n (pc := 50) C dX12_room_50 rfl 2 rfl ?_
      refine b_iconst (pc := 51) C dX12_room_51 ic_0 ?_
      obtain ⟨hb4, hF⟩ := bif_n hF
      obtain ⟨σ2, e3, hF⟩ := blet_e hF
      refine b_iast (pc := 52) C dX12_room_52 (Hh.1 _ _ sh_96) hb4 e3 ?_
      obtain ⟨x2_5, e6, hF⟩ := blet_e hF
      refine b_iinc (L' := [(2, .int x2_5), (0, .ref 92), (1, .int x1)]) (pc := 53) C dX12_room_53 2 rfl ic_1 e6 (Hh.2.1 _ (Nat.le_of_ble_eq_true rfl)) rfl ?_
      refine b_goto (tgt := 39) (pc := 56) C dX12_room_56 rfl ?_
      exact b_sub [1, 2, 0] rfl (ih x1 x2_5 _ _ hF hx)
set_option maxHeartbeats 4000000 in
set_option maxRecDepth 20000 in
theorem e_X12_room_L77 {X : bX} {l : Launch} {G : bG} {ρ : Nat → Nat} {A : Nat → Prop} {d : Nat} {r : Int32} {σ' : bSto} (C : bCX X cX12_room RX12 (d + 12)) (Hh : bH X l G bSHf ρ A 3) (Rt : bRX X (some .int) (some (.int r)) σ') : ∀ (n : Nat)  (σ : bSto) (q : (bSto)), f_X12_room_L77 n  σ = some q → (∀  (s : bSto), q = s → bAJ X 104 [(0, .ref 92)] [] s) → bAJ X 77 [(0, .ref 92)] [] σ := by
  intro n
  induction n with
  | zero => intro  σ q hF; rw [f_X12_room_L77] at hF; cases hF
  | succ n ih =>
    intro  σ q hF hx
    rw [f_X12_room_L77] at hF
    refine b_aload_n (pc := 77) C dX12_room_77 rfl 0 rfl ?_
    refine b_getI (pc := 78) C dX12_room_78 fl_X12_103 (Hh.1 _ _ sh_92) rfl ?_
    refine b_if_ne (tgt := 104) (pc := 81) C dX12_room_81 rfl (fun hc1 => ?_) (fun hc1 => ?_)
    · rw [if_neg hc1] at hF
      exact b_sub [0] rfl (hx  _ (Option.some.inj hF).symm )
    · rw [if_pos hc1] at hF
      refine b_aload_n (pc := 84) C dX12_room_84 rfl 0 rfl ?_
      refine b_getI (pc := 85) C dX12_room_85 fl_X12_93 (Hh.1 _ _ sh_92) rfl ?_
      refine b_bipush (pc := 88) C dX12_room_88 bp_59 ?_
      refine b_icmp_ne (tgt := 104) (pc := 90) C dX12_room_90 rfl (fun hc2 => ?_) (fun hc2 => ?_)
      · rw [if_neg hc2] at hF
        exact b_sub [0] rfl (hx  _ (Option.some.inj hF).symm )
      · rw [if_pos hc2] at hF
        refine b_aload_n (pc := 93) C dX12_room_93 rfl 0 rfl ?_
        obtain ⟨σ4, hc3, hF⟩ := bbv_e hF
        refine b_cV0v (d' := (d + 11)) (pc := 94) C dX12_room_94 mm_X12_124 (Hh.1 _ _ sh_92) rfl (Nat.le_of_ble_eq_true rfl) (by omega) (Hh.2.2 _ _ _ _ _ _ _ _ _ (lvl_eq (by omega) (e_X12_next (d + 10)  _ _ hc3))) ?_
        refine b_aload_n (pc := 97) C dX12_room_97 rfl 0 rfl ?_
        obtain ⟨σ6, hc5, hF⟩ := bbv_e hF
        refine b_cV0v (d' := (d + 11)) (pc := 98) C dX12_room_98 mm_X12_187 (Hh.1 _ _ sh_92) rfl (Nat.le_of_ble_eq_true rfl) (by omega) (Hh.2.2 _ _ _ _ _ _ _ _ _ (lvl_eq (by omega) (e_X12_readLine (d + 0)  _ _ hc5))) ?_
        refine b_goto (tgt := 77) (pc := 101) C dX12_room_101 rfl ?_
        exact b_sub [0] rfl (ih  _ _ hF hx)
set_option maxHeartbeats 4000000 in
set_option maxRecDepth 20000 in
theorem e_X12_room_L193 {X : bX} {l : Launch} {G : bG} {ρ : Nat → Nat} {A : Nat → Prop} {d : Nat} {r : Int32} {σ' : bSto} (C : bCX X cX12_room RX12 (d + 12)) (Hh : bH X l G bSHf ρ A 3) (Rt : bRX X (some .int) (some (.int r)) σ') : ∀ (n : Nat) (x2 : Int32) (σ : bSto) (q : (bSto)), f_X12_room_L193 n x2 σ = some q → (∀  (s : bSto), q = s → bAJ X 246 [(0, .ref 92)] [] s) → bAJ X 193 [(0, .ref 92), (2, .int x2)] [] σ := by
  intro n
  induction n with
  | zero => intro x2 σ q hF; rw [f_X12_room_L193] at hF; cases hF
  | succ n ih =>
    intro x2 σ q hF hx
    rw [f_X12_room_L193] at hF
    refine b_iload_n (pc := 193) C dX12_room_193 rfl 1 rfl ?_
    refine b_bipush (pc := 194) C dX12_room_194 bp_7 ?_
    refine b_icmp_ge (tgt := 246) (pc := 196) C dX12_room_196 rfl (fun hc1 => ?_) (fun hc1 => ?_)
    · rw [if_pos hc1] at hF
      exact b_sub [0] rfl (hx  _ (Option.some.inj hF).symm )
    · rw [if_neg hc1] at hF
      refine b_aload_n (pc := 199) C dX12_room_199 rfl 0 rfl ?_
      refine b_getS (pc := 200) C dX12_room_200 fl_X12_26 (Hh.1 _ _ sh_92) rfl ?_
      refine b_iload_n (pc := 203) C dX12_room_203 rfl 1 rfl ?_
      refine b_aload_n (pc := 204) C dX12_room_204 rfl 0 rfl ?_
      refine b_getS (pc := 205) C dX12_room_205 fl_X12_20 (Hh.1 _ _ sh_92) rfl ?_
      refine b_bipush (pc := 208) C dX12_room_208 bp_35 ?_
      refine b_iconst (pc := 210) C dX12_room_210 ic_4 ?_
      refine b_iload_n (pc := 211) C dX12_room_211 rfl 1 rfl ?_
      refine b_imul (pc := 212) C dX12_room_212 ?_
      refine b_iadd (pc := 213) C dX12_room_213 ?_
      refine b_iconst (pc := 214) C dX12_room_214 ic_2 ?_
      refine b_iadd (pc := 215) C dX12_room_215 ?_
      obtain ⟨hb2, hF⟩ := bif_n hF
      refine b_iald (pc := 216) C dX12_room_216 (Hh.1 _ _ sh_95) hb2 ?_
      obtain ⟨hb5, hF⟩ := bif_n hF
      obtain ⟨σ3, e4, hF⟩ := blet_e hF
      refine b_iast (pc := 217) C dX12_room_217 (Hh.1 _ _ sh_97) hb5 e4 ?_
      refine b_aload_n (pc := 218) C dX12_room_218 rfl 0 rfl ?_
      refine b_getS (pc := 219) C dX12_room_219 fl_X12_26 (Hh.1 _ _ sh_92) rfl ?_
      refine b_bipush (pc := 222) C dX12_room_222 bp_7 ?_
      refine b_iload_n (pc := 224) C dX12_room_224 rfl 1 rfl ?_
      refine b_iadd (pc := 225) C dX12_room_225 ?_
      refine b_aload_n (pc := 226) C dX12_room_226 rfl 0 rfl ?_
      refine b_getS (pc := 227) C dX12_room_227 fl_X12_20 (Hh.1 _ _ sh_92) rfl ?_
      refine b_bipush (pc := 230) C dX12_room_230 bp_35 ?_
      refine b_iconst (pc := 232) C dX12_room_232 ic_4 ?_
      refine b_iload_n (pc := 233) C dX12_room_233 rfl 1 rfl ?_
      refine b_imul (pc := 234) C dX12_room_234 ?_
      refine b_iadd (pc := 235) C dX12_room_235 ?_
      refine b_iconst (pc := 236) C dX12_room_236 ic_3 ?_
      refine b_iadd (pc := 237) C dX12_room_237 ?_
      obtain ⟨hb6, hF⟩ := bif_n hF
      refine b_iald (pc := 238) C dX12_room_238 (Hh.1 _ _ sh_95) hb6 ?_
      obtain ⟨hb9, hF⟩ := bif_n hF
      obtain ⟨σ7, e8, hF⟩ := blet_e hF
      refine b_iast (pc := 239) C dX12_room_239 (Hh.1 _ _ sh_97) hb9 e8 ?_
      obtain ⟨x2_10, e11, hF⟩ := blet_e hF
      refine b_iinc (L' := [(2, .int x2_10), (0, .ref 92)]) (pc := 240) C dX12_room_240 1 rfl ic_1 e11 (Hh.2.1 _ (Nat.le_of_ble_eq_true rfl)) rfl ?_
      refine b_goto (tgt := 193) (pc := 243) C dX12_room_243 rfl ?_
      exact b_sub [1, 0] rfl (ih x2_10 _ _ hF hx)
set_option maxHeartbeats 4000000 in
set_option maxRecDepth 20000 in
theorem e_X12_room_J162 {X : bX} {l : Launch} {G : bG} {ρ : Nat → Nat} {A : Nat → Prop} {d : Nat} {r : Int32} {σ' : bSto} (C : bCX X cX12_room RX12 (d + 12)) (Hh : bH X l G bSHf ρ A 3) (Rt : bRX X (some .int) (some (.int r)) σ')  (σ : bSto) (hF : f_X12_room_J162  σ = some (r, σ')) : bAJ X 162 [(0, .ref 92)] [] σ := by
  rw [f_X12_room_J162] at hF
  refine b_aload_n (pc := 162) C dX12_room_162 rfl 0 rfl ?_
  refine b_getI (pc := 163) C dX12_room_163 fl_X12_103 (Hh.1 _ _ sh_92) rfl ?_
  refine b_if_eq (tgt := 175) (pc := 166) C dX12_room_166 rfl (fun hc1 => ?_) (fun hc1 => ?_)
  · rw [if_pos hc1] at hF
    refine b_aload_n (pc := 175) C dX12_room_175 rfl 0 rfl ?_
    refine b_getS (pc := 176) C dX12_room_176 fl_X12_23 (Hh.1 _ _ sh_92) rfl ?_
    refine b_iconst (pc := 179) C dX12_room_179 ic_0 ?_
    refine b_aload_n (pc := 180) C dX12_room_180 rfl 0 rfl ?_
    refine b_getS (pc := 181) C dX12_room_181 fl_X12_20 (Hh.1 _ _ sh_92) rfl ?_
    refine b_iconst (pc := 184) C dX12_room_184 ic_0 ?_
    refine b_sipush (pc := 185) C dX12_room_185 sp_406 ?_
    obtain ⟨σ3, hc2, hF⟩ := bbv_e hF
    refine b_cS5v (d' := (d + 11)) (pc := 188) C dX12_room_188 mm_X12_190 (Nat.le_of_ble_eq_true rfl) (by omega) (Hh.2.2 _ _ _ _ _ _ _ _ _ (lvl_eq (by omega) (e_X12_copy (d + 11) _ (show kIA 96 from sh_96) (0 : Int32) _ (show kIA 95 from sh_95) (0 : Int32) (406 : Int32) _ _ hc2))) ?_
    refine b_iconst (pc := 191) C dX12_room_191 ic_0 ?_
    refine b_istore_n (L' := [(2, .int (0 : Int32)), (0, .ref 92)]) (pc := 192) C dX12_room_192 rfl rfl (Hh.2.1 _ (Nat.le_of_ble_eq_true rfl)) rfl ?_
    obtain ⟨σ5, hq4, hF⟩ := bl0_e hF
    refine b_sub [1, 0] rfl (e_X12_room_L193 C Hh Rt bFU (0 : Int32) _ _ hq4 (fun  _ e  => ?_))
    cases e
    refine b_aload_n (pc := 246) C dX12_room_246 rfl 0 rfl ?_
    refine b_getS (pc := 247) C dX12_room_247 fl_X12_26 (Hh.1 _ _ sh_92) rfl ?_
    refine b_bipush (pc := 250) C dX12_room_250 bp_14 ?_
    refine b_aload_n (pc := 252) C dX12_room_252 rfl 0 rfl ?_
    refine b_getS (pc := 253) C dX12_room_253 fl_X12_20 (Hh.1 _ _ sh_92) rfl ?_
    refine b_bipush (pc := 256) C dX12_room_256 bp_10 ?_
    refine b_ialdK (pc := 258) C dX12_room_258 (Hh.1 _ _ sh_95) tn_10 (by decide) ?_
    obtain ⟨σ6, e7, hF⟩ := blet_e hF
    refine b_iastK (pc := 259) C dX12_room_259 (Hh.1 _ _ sh_97) tn_14 (by decide) e7 ?_
    refine b_aload_n (pc := 260) C dX12_room_260 rfl 0 rfl ?_
    refine b_getS (pc := 261) C dX12_room_261 fl_X12_26 (Hh.1 _ _ sh_92) rfl ?_
    refine b_bipush (pc := 264) C dX12_room_264 bp_15 ?_
    refine b_iconst (pc := 266) C dX12_room_266 ic_0 ?_
    obtain ⟨σ8, e9, hF⟩ := blet_e hF
    refine b_iastK (pc := 267) C dX12_room_267 (Hh.1 _ _ sh_97) tn_15 (by decide) e9 ?_
    refine b_aload_n (pc := 268) C dX12_room_268 rfl 0 rfl ?_
    refine b_iconst (pc := 269) C dX12_room_269 ic_1 ?_
    obtain ⟨σ10, e11, hF⟩ := blet_e hF
    refine b_putI (pc := 270) C dX12_room_270 fp_X12_194 (Hh.1 _ _ sh_92) rfl rfl rfl e11 ?_
    refine b_aload_n (pc := 273) C dX12_room_273 rfl 0 rfl ?_
    refine b_iconst (pc := 274) C dX12_room_274 ic_0 ?_
    obtain ⟨σ12, e13, hF⟩ := blet_e hF
    refine b_putI (pc := 275) C dX12_room_275 fp_X12_197 (Hh.1 _ _ sh_92) rfl rfl rfl e13 ?_
    refine b_aload_n (pc := 278) C dX12_room_278 rfl 0 rfl ?_
    refine b_iconst (pc := 279) C dX12_room_279 ic_0 ?_
    obtain ⟨σ14, e15, hF⟩ := blet_e hF
    refine b_putI (pc := 280) C dX12_room_280 fp_X12_200 (Hh.1 _ _ sh_92) rfl rfl rfl e15 ?_
    refine b_aload_n (pc := 283) C dX12_room_283 rfl 0 rfl ?_
    refine b_getS (pc := 284) C dX12_room_284 fl_X12_20 (Hh.1 _ _ sh_92) rfl ?_
    refine b_iconst (pc := 287) C dX12_room_287 ic_3 ?_
    refine b_ialdK (pc := 288) C dX12_room_288 (Hh.1 _ _ sh_95) tn_3 (by decide) ?_
    exact b_iret (pc := 289) C Rt dX12_room_289 hF
  · rw [if_neg hc1] at hF
    refine b_aload_n (pc := 169) C dX12_room_169 rfl 0 rfl ?_
    refine b_iconst (pc := 170) C dX12_room_170 ic_4 ?_
    obtain ⟨v18, σ17, hc16, hF⟩ := bbd_e hF
    refine b_cV1i (d' := (d + 11)) (pc := 171) C dX12_room_171 mm_X12_184 (Hh.1 _ _ sh_92) rfl (Nat.le_of_ble_eq_true rfl) (by omega) (Hh.2.2 _ _ _ _ _ _ _ _ _ (lvl_eq (by omega) (e_X12_no (d + 11) (4 : Int32) _ _ _ hc16))) ?_
    exact b_iret (pc := 174) C Rt dX12_room_174 hF
set_option maxHeartbeats 4000000 in
set_option maxRecDepth 20000 in
theorem e_X12_room_J152 {X : bX} {l : Launch} {G : bG} {ρ : Nat → Nat} {A : Nat → Prop} {d : Nat} {r : Int32} {σ' : bSto} (C : bCX X cX12_room RX12 (d + 12)) (Hh : bH X l G bSHf ρ A 3) (Rt : bRX X (some .int) (some (.int r)) σ')  (σ : bSto) (hF : f_X12_room_J152  σ = some (r, σ')) : bAJ X 152 [(0, .ref 92)] [] σ := by
  rw [f_X12_room_J152] at hF
  refine b_aload_n (pc := 152) C dX12_room_152 rfl 0 rfl ?_
  refine b_bipush (pc := 153) C dX12_room_153 bp_6 ?_
  refine b_aload_n (pc := 155) C dX12_room_155 rfl 0 rfl ?_
  refine b_getI (pc := 156) C dX12_room_156 fl_X12_84 (Hh.1 _ _ sh_92) rfl ?_
  obtain ⟨σ2, hc1, hF⟩ := bbv_e hF
  refine b_cV2v (d' := (d + 11)) (pc := 159) C dX12_room_159 mm_X12_130 (Hh.1 _ _ sh_92) rfl (Nat.le_of_ble_eq_true rfl) (by omega) (Hh.2.2 _ _ _ _ _ _ _ _ _ (lvl_eq (by omega) (e_X12_wrong (d + 11) (6 : Int32) (σ.1 92 4) _ _ hc1))) ?_
  exact b_sub [0] rfl (e_X12_room_J162 C Hh Rt  _ hF)
set_option maxHeartbeats 4000000 in
set_option maxRecDepth 20000 in
theorem e_X12_room_J127 {X : bX} {l : Launch} {G : bG} {ρ : Nat → Nat} {A : Nat → Prop} {d : Nat} {r : Int32} {σ' : bSto} (C : bCX X cX12_room RX12 (d + 12)) (Hh : bH X l G bSHf ρ A 3) (Rt : bRX X (some .int) (some (.int r)) σ')  (σ : bSto) (hF : f_X12_room_J127  σ = some (r, σ')) : bAJ X 127 [(0, .ref 92)] [] σ := by
  rw [f_X12_room_J127] at hF
  refine b_aload_n (pc := 127) C dX12_room_127 rfl 0 rfl ?_
  refine b_getI (pc := 128) C dX12_room_128 fl_X12_103 (Hh.1 _ _ sh_92) rfl ?_
  refine b_if_ne (tgt := 162) (pc := 131) C dX12_room_131 rfl (fun hc1 => ?_) (fun hc1 => ?_)
  · rw [if_neg hc1] at hF
    exact b_sub [0] rfl (e_X12_room_J162 C Hh Rt  _ hF)
  · rw [if_pos hc1] at hF
    refine b_aload_n (pc := 134) C dX12_room_134 rfl 0 rfl ?_
    refine b_getS (pc := 135) C dX12_room_135 fl_X12_23 (Hh.1 _ _ sh_92) rfl ?_
    refine b_iconst (pc := 138) C dX12_room_138 ic_0 ?_
    refine b_ialdK (pc := 139) C dX12_room_139 (Hh.1 _ _ sh_96) tn_0 (by decide) ?_
    refine b_if_eq (tgt := 152) (pc := 140) C dX12_room_140 rfl (fun hc2 => ?_) (fun hc2 => ?_)
    · rw [if_pos hc2] at hF
      exact b_sub [0] rfl (e_X12_room_J152 C Hh Rt  _ hF)
    · rw [if_neg hc2] at hF
      refine b_aload_n (pc := 143) C dX12_room_143 rfl 0 rfl ?_
      refine b_getS (pc := 144) C dX12_room_144 fl_X12_23 (Hh.1 _ _ sh_92) rfl ?_
      refine b_iconst (pc := 147) C dX12_room_147 ic_3 ?_
      refine b_ialdK (pc := 148) C dX12_room_148 (Hh.1 _ _ sh_96) tn_3 (by decide) ?_
      refine b_if_ne (tgt := 162) (pc := 149) C dX12_room_149 rfl (fun hc3 => ?_) (fun hc3 => ?_)
      · rw [if_neg hc3] at hF
        exact b_sub [0] rfl (e_X12_room_J162 C Hh Rt  _ hF)
      · rw [if_pos hc3] at hF
        exact b_sub [0] rfl (e_X12_room_J152 C Hh Rt  _ hF)
set_option maxHeartbeats 4000000 in
set_option maxRecDepth 20000 in
theorem e_X12_room_J104 {X : bX} {l : Launch} {G : bG} {ρ : Nat → Nat} {A : Nat → Prop} {d : Nat} {r : Int32} {σ' : bSto} (C : bCX X cX12_room RX12 (d + 12)) (Hh : bH X l G bSHf ρ A 3) (Rt : bRX X (some .int) (some (.int r)) σ')  (σ : bSto) (hF : f_X12_room_J104  σ = some (r, σ')) : bAJ X 104 [(0, .ref 92)] [] σ := by
  rw [f_X12_room_J104] at hF
  refine b_aload_n (pc := 104) C dX12_room_104 rfl 0 rfl ?_
  refine b_getI (pc := 105) C dX12_room_105 fl_X12_103 (Hh.1 _ _ sh_92) rfl ?_
  refine b_if_ne (tgt := 127) (pc := 108) C dX12_room_108 rfl (fun hc1 => ?_) (fun hc1 => ?_)
  · rw [if_neg hc1] at hF
    exact b_sub [0] rfl (e_X12_room_J127 C Hh Rt  _ hF)
  · rw [if_pos hc1] at hF
    refine b_aload_n (pc := 111) C dX12_room_111 rfl 0 rfl ?_
    refine b_getI (pc := 112) C dX12_room_112 fl_X12_93 (Hh.1 _ _ sh_92) rfl ?_
    refine b_if_eq (tgt := 127) (pc := 115) C dX12_room_115 rfl (fun hc2 => ?_) (fun hc2 => ?_)
    · rw [if_pos hc2] at hF
      exact b_sub [0] rfl (e_X12_room_J127 C Hh Rt  _ hF)
    · rw [if_neg hc2] at hF
      refine b_aload_n (pc := 118) C dX12_room_118 rfl 0 rfl ?_
      refine b_iconst (pc := 119) C dX12_room_119 ic_1 ?_
      refine b_aload_n (pc := 120) C dX12_room_120 rfl 0 rfl ?_
      refine b_getI (pc := 121) C dX12_room_121 fl_X12_84 (Hh.1 _ _ sh_92) rfl ?_
      obtain ⟨σ4, hc3, hF⟩ := bbv_e hF
      refine b_cV2v (d' := (d + 11)) (pc := 124) C dX12_room_124 mm_X12_130 (Hh.1 _ _ sh_92) rfl (Nat.le_of_ble_eq_true rfl) (by omega) (Hh.2.2 _ _ _ _ _ _ _ _ _ (lvl_eq (by omega) (e_X12_wrong (d + 11) (1 : Int32) (σ.1 92 4) _ _ hc3))) ?_
      exact b_sub [0] rfl (e_X12_room_J127 C Hh Rt  _ hF)
set_option maxHeartbeats 4000000 in
set_option maxRecDepth 20000 in
theorem e_X12_room_0 {X : bX} {l : Launch} {G : bG} {ρ : Nat → Nat} {A : Nat → Prop} {d : Nat} {r : Int32} {σ' : bSto} (C : bCX X cX12_room RX12 (d + 12)) (Hh : bH X l G bSHf ρ A 3) (Rt : bRX X (some .int) (some (.int r)) σ') (x1 : Int32) (σ : bSto) (hF : f_X12_room x1 σ = some (r, σ')) : bAJ X 0 [(0, .ref 92), (1, .int x1)] [] σ := by
  rw [f_X12_room] at hF
  refine b_aload_n (pc := 0) C dX12_room_0 rfl 0 rfl ?_
  obtain ⟨σ2, hc1, hF⟩ := bbv_e hF
  refine b_cV0v (d' := (d + 11)) (pc := 1) C dX12_room_1 mm_X12_181 (Hh.1 _ _ sh_92) rfl (Nat.le_of_ble_eq_true rfl) (by omega) (Hh.2.2 _ _ _ _ _ _ _ _ _ (lvl_eq (by omega) (e_X12_good (d + 11)  _ _ hc1))) ?_
  refine b_iload_n (pc := 4) C dX12_room_4 rfl 1 rfl ?_
  refine b_iconst (pc := 5) C dX12_room_5 ic_0 ?_
  refine b_aload_n (pc := 6) C dX12_room_6 rfl 0 rfl ?_
  refine b_getI (pc := 7) C dX12_room_7 fl_X12_71 (Hh.1 _ _ sh_92) rfl ?_
  obtain ⟨v5, σ4, hc3, hF⟩ := bbd_e hF
  refine b_cS3i (d' := (d + 11)) (pc := 10) C dX12_room_10 mm_X12_160 (Nat.le_of_ble_eq_true rfl) (by omega) (Hh.2.2 _ _ _ _ _ _ _ _ _ (lvl_eq (by omega) (e_X12_in (d + 11) x1 (0 : Int32) (σ2.1 92 2) _ _ _ hc3))) ?_
  refine b_if_ne (tgt := 22) (pc := 13) C dX12_room_13 rfl (fun hc6 => ?_) (fun hc6 => ?_)
  · rw [if_neg hc6] at hF
    refine b_aload_n (pc := 22) C dX12_room_22 rfl 0 rfl ?_
    refine b_iconst (pc := 23) C dX12_room_23 ic_0 ?_
    obtain ⟨σ7, e8, hF⟩ := blet_e hF
    refine b_putI (pc := 24) C dX12_room_24 fp_X12_71 (Hh.1 _ _ sh_92) rfl rfl rfl e8 ?_
    refine b_aload_n (pc := 27) C dX12_room_27 rfl 0 rfl ?_
    refine b_iconst (pc := 28) C dX12_room_28 ic_0 ?_
    obtain ⟨σ9, e10, hF⟩ := blet_e hF
    refine b_putI (pc := 29) C dX12_room_29 fp_X12_107 (Hh.1 _ _ sh_92) rfl rfl rfl e10 ?_
    refine b_aload_n (pc := 32) C dX12_room_32 rfl 0 rfl ?_
    refine b_iconst (pc := 33) C dX12_room_33 ic_0 ?_
    obtain ⟨σ11, e12, hF⟩ := blet_e hF
    refine b_putI (pc := 34) C dX12_room_34 fp_X12_103 (Hh.1 _ _ sh_92) rfl rfl rfl e12 ?_
    refine b_iconst (pc := 37) C dX12_room_37 ic_0 ?_
    refine b_istore_n (L' := [(2, .int (0 : Int32)), (0, .ref 92), (1, .int x1)]) (pc := 38) C dX12_room_38 rfl rfl (Hh.2.1 _ (Nat.le_of_ble_eq_true rfl)) rfl ?_
    obtain ⟨x1_13, σ14, hq13, hF⟩ := bl1_e hF
    refine b_sub [1, 2, 0] rfl (e_X12_room_L39 C Hh Rt bFU x1 (0 : Int32) _ _ hq13 (fun _ _ e  => ?_))
    cases e
    refine b_aload_n (pc := 59) C dX12_room_59 rfl 0 rfl ?_
    refine b_iload_n (pc := 60) C dX12_room_60 rfl 1 rfl ?_
    obtain ⟨σ15, e16, hF⟩ := blet_e hF
    refine b_putI (pc := 61) C dX12_room_61 fp_X12_74 (Hh.1 _ _ sh_92) rfl rfl rfl e16 ?_
    refine b_aload_n (pc := 64) C dX12_room_64 rfl 0 rfl ?_
    refine b_iconst (pc := 65) C dX12_room_65 ic_0 ?_
    obtain ⟨σ17, e18, hF⟩ := blet_e hF
    refine b_putI (pc := 66) C dX12_room_66 fp_X12_77 (Hh.1 _ _ sh_92) rfl rfl rfl e18 ?_
    refine b_aload_n (pc := 69) C dX12_room_69 rfl 0 rfl ?_
    obtain ⟨σ20, hc19, hF⟩ := bbv_e hF
    refine b_cV0v (d' := (d + 11)) (pc := 70) C dX12_room_70 mm_X12_124 (Hh.1 _ _ sh_92) rfl (Nat.le_of_ble_eq_true rfl) (by omega) (Hh.2.2 _ _ _ _ _ _ _ _ _ (lvl_eq (by omega) (e_X12_next (d + 10)  _ _ hc19))) ?_
    refine b_aload_n (pc := 73) C dX12_room_73 rfl 0 rfl ?_
    obtain ⟨σ22, hc21, hF⟩ := bbv_e hF
    refine b_cV0v (d' := (d + 11)) (pc := 74) C dX12_room_74 mm_X12_187 (Hh.1 _ _ sh_92) rfl (Nat.le_of_ble_eq_true rfl) (by omega) (Hh.2.2 _ _ _ _ _ _ _ _ _ (lvl_eq (by omega) (e_X12_readLine (d + 0)  _ _ hc21))) ?_
    obtain ⟨σ24, hq23, hF⟩ := bl0_e hF
    refine b_sub [0] rfl (e_X12_room_L77 C Hh Rt bFU  _ _ hq23 (fun  _ e  => ?_))
    cases e
    exact b_sub [0] rfl (e_X12_room_J104 C Hh Rt  _ hF)
  · rw [if_pos hc6] at hF
    refine b_aload_n (pc := 16) C dX12_room_16 rfl 0 rfl ?_
    refine b_iconst (pc := 17) C dX12_room_17 ic_2 ?_
    obtain ⟨v27, σ26, hc25, hF⟩ := bbd_e hF
    refine b_cV1i (d' := (d + 11)) (pc := 18) C dX12_room_18 mm_X12_184 (Hh.1 _ _ sh_92) rfl (Nat.le_of_ble_eq_true rfl) (by omega) (Hh.2.2 _ _ _ _ _ _ _ _ _ (lvl_eq (by omega) (e_X12_no (d + 11) (2 : Int32) _ _ _ hc25))) ?_
    exact b_iret (pc := 21) C Rt dX12_room_21 hF
set_option maxHeartbeats 4000000 in
set_option maxRecDepth 20000 in
theorem e_X12_room {l : Launch} {G : bG} {ρ : Nat → Nat} {A : Nat → Prop} (d : Nat) (x1 : Int32) (σ : bSto) (r : Int32) (σ' : bSto) (hF : f_X12_room x1 σ = some (r, σ')) : bEv l G bSHf ρ A yX12_room cX12_room 3 (some .int) (d + 12) [.ref 92, .int x1] σ (some (.int r)) σ' := b_met (d := d + 12) (by decide +kernel) (Nat.le_of_ble_eq_true rfl) rfl (fun X C Rt h1 h2 h3 => e_X12_room_0 C ⟨fun o q h => by rw [h1]; exact h, fun i h => by rw [h2]; exact h, h3⟩ Rt _ _ hF)
/-! BenchColonyModel.fault -/
def f_X12_fault  (σ : bSto) : Option (Int32 × bSto) := blet (bI σ 92 0 (0 : Int32)) (fun σ1 => some ((σ1.1 92 9), σ1))
set_option maxHeartbeats 4000000 in
set_option maxRecDepth 20000 in
theorem e_X12_fault_0 {X : bX} {l : Launch} {G : bG} {ρ : Nat → Nat} {A : Nat → Prop} {d : Nat} {r : Int32} {σ' : bSto} (C : bCX X cX12_fault RX12 (d + 0)) (Hh : bH X l G bSHf ρ A 1) (Rt : bRX X (some .int) (some (.int r)) σ')  (σ : bSto) (hF : f_X12_fault  σ = some (r, σ')) : bAJ X 0 [(0, .ref 92)] [] σ := by
  rw [f_X12_fault] at hF
  refine b_aload_n (pc := 0) C dX12_fault_0 rfl 0 rfl ?_
  refine b_iconst (pc := 1) C dX12_fault_1 ic_0 ?_
  obtain ⟨σ1, e2, hF⟩ := blet_e hF
  refine b_putI (pc := 2) C dX12_fault_2 fp_X12_65 (Hh.1 _ _ sh_92) rfl rfl rfl e2 ?_
  refine b_aload_n (pc := 5) C dX12_fault_5 rfl 0 rfl ?_
  refine b_getI (pc := 6) C dX12_fault_6 fl_X12_107 (Hh.1 _ _ sh_92) rfl ?_
  exact b_iret (pc := 9) C Rt dX12_fault_9 hF
set_option maxHeartbeats 4000000 in
set_option maxRecDepth 20000 in
theorem e_X12_fault {l : Launch} {G : bG} {ρ : Nat → Nat} {A : Nat → Prop} (d : Nat)  (σ : bSto) (r : Int32) (σ' : bSto) (hF : f_X12_fault  σ = some (r, σ')) : bEv l G bSHf ρ A yX12_fault cX12_fault 1 (some .int) (d + 0) [.ref 92] σ (some (.int r)) σ' := b_met (d := d + 0) (by decide +kernel) (Nat.le_of_ble_eq_true rfl) rfl (fun X C Rt h1 h2 h3 => e_X12_fault_0 C ⟨fun o q h => by rw [h1]; exact h, fun i h => by rw [h2]; exact h, h3⟩ Rt  _ hF)
/-! BenchColonyModel.where -/
def f_X12_where  (σ : bSto) : Option (Int32 × bSto) := blet (bI σ 92 0 (0 : Int32)) (fun σ1 => (if (σ1.1 92 11) = (4 : Int32) then some ((σ1.1 92 10), σ1) else some ((-1 : Int32), σ1)))
set_option maxHeartbeats 4000000 in
set_option maxRecDepth 20000 in
theorem e_X12_where_0 {X : bX} {l : Launch} {G : bG} {ρ : Nat → Nat} {A : Nat → Prop} {d : Nat} {r : Int32} {σ' : bSto} (C : bCX X cX12_where RX12 (d + 0)) (Hh : bH X l G bSHf ρ A 1) (Rt : bRX X (some .int) (some (.int r)) σ')  (σ : bSto) (hF : f_X12_where  σ = some (r, σ')) : bAJ X 0 [(0, .ref 92)] [] σ := by
  rw [f_X12_where] at hF
  refine b_aload_n (pc := 0) C dX12_where_0 rfl 0 rfl ?_
  refine b_iconst (pc := 1) C dX12_where_1 ic_0 ?_
  obtain ⟨σ1, e2, hF⟩ := blet_e hF
  refine b_putI (pc := 2) C dX12_where_2 fp_X12_65 (Hh.1 _ _ sh_92) rfl rfl rfl e2 ?_
  refine b_aload_n (pc := 5) C dX12_where_5 rfl 0 rfl ?_
  refine b_getI (pc := 6) C dX12_where_6 fl_X12_68 (Hh.1 _ _ sh_92) rfl ?_
  refine b_iconst (pc := 9) C dX12_where_9 ic_4 ?_
  refine b_icmp_ne (tgt := 20) (pc := 10) C dX12_where_10 rfl (fun hc3 => ?_) (fun hc3 => ?_)
  · rw [if_neg hc3] at hF
    refine b_iconst (pc := 20) C dX12_where_20 ic_m1 ?_
    exact b_iret (pc := 21) C Rt dX12_where_21 hF
  · rw [if_pos hc3] at hF
    refine b_aload_n (pc := 13) C dX12_where_13 rfl 0 rfl ?_
    refine b_getI (pc := 14) C dX12_where_14 fl_X12_13 (Hh.1 _ _ sh_92) rfl ?_
    refine b_goto (tgt := 21) (pc := 17) C dX12_where_17 rfl ?_
    exact b_iret (pc := 21) C Rt dX12_where_21 hF
set_option maxHeartbeats 4000000 in
set_option maxRecDepth 20000 in
theorem e_X12_where {l : Launch} {G : bG} {ρ : Nat → Nat} {A : Nat → Prop} (d : Nat)  (σ : bSto) (r : Int32) (σ' : bSto) (hF : f_X12_where  σ = some (r, σ')) : bEv l G bSHf ρ A yX12_where cX12_where 1 (some .int) (d + 0) [.ref 92] σ (some (.int r)) σ' := b_met (d := d + 0) (by decide +kernel) (Nat.le_of_ble_eq_true rfl) rfl (fun X C Rt h1 h2 h3 => e_X12_where_0 C ⟨fun o q h => by rw [h1]; exact h, fun i h => by rw [h2]; exact h, h3⟩ Rt  _ hF)
/-! BenchColonyModel.isBench -/
def f_X12_isBench_J27  (σ : bSto) : Option (Int32 × bSto) := some ((0 : Int32), σ)
def f_X12_isBench (x1 : Int32) (σ : bSto) : Option (Int32 × bSto) := (if (σ.1 92 14) = 0 then f_X12_isBench_J27  σ else bbd (f_X12_in x1 (0 : Int32) ((σ.1 95 3) - (1 : Int32)) σ) (fun v4 σ3 => (if v4 = 0 then f_X12_isBench_J27  σ3 else some ((1 : Int32), σ3))))
set_option maxHeartbeats 4000000 in
set_option maxRecDepth 20000 in
theorem e_X12_isBench_J27 {X : bX} {l : Launch} {G : bG} {ρ : Nat → Nat} {A : Nat → Prop} {d : Nat} {r : Int32} {σ' : bSto} (C : bCX X cX12_isBench RX12 (d + 1)) (Hh : bH X l G bSHf ρ A 2) (Rt : bRX X (some .boolean) (some (.int r)) σ')  (σ : bSto) (hF : f_X12_isBench_J27  σ = some (r, σ')) : bAJ X 27 [] [] σ := by
  rw [f_X12_isBench_J27] at hF
  refine b_iconst (pc := 27) C dX12_isBench_27 ic_0 ?_
  exact b_zret (pc := 28) C Rt dX12_isBench_28 rfl hF
set_option maxHeartbeats 4000000 in
set_option maxRecDepth 20000 in
theorem e_X12_isBench_0 {X : bX} {l : Launch} {G : bG} {ρ : Nat → Nat} {A : Nat → Prop} {d : Nat} {r : Int32} {σ' : bSto} (C : bCX X cX12_isBench RX12 (d + 1)) (Hh : bH X l G bSHf ρ A 2) (Rt : bRX X (some .boolean) (some (.int r)) σ') (x1 : Int32) (σ : bSto) (hF : f_X12_isBench x1 σ = some (r, σ')) : bAJ X 0 [(0, .ref 92), (1, .int x1)] [] σ := by
  rw [f_X12_isBench] at hF
  refine b_aload_n (pc := 0) C dX12_isBench_0 rfl 0 rfl ?_
  refine b_getI (pc := 1) C dX12_isBench_1 fl_X12_194 (Hh.1 _ _ sh_92) rfl ?_
  refine b_if_eq (tgt := 27) (pc := 4) C dX12_isBench_4 rfl (fun hc1 => ?_) (fun hc1 => ?_)
  · rw [if_pos hc1] at hF
    exact b_sub [] rfl (e_X12_isBench_J27 C Hh Rt  _ hF)
  · rw [if_neg hc1] at hF
    refine b_iload_n (pc := 7) C dX12_isBench_7 rfl 1 rfl ?_
    refine b_iconst (pc := 8) C dX12_isBench_8 ic_0 ?_
    refine b_aload_n (pc := 9) C dX12_isBench_9 rfl 0 rfl ?_
    refine b_getS (pc := 10) C dX12_isBench_10 fl_X12_20 (Hh.1 _ _ sh_92) rfl ?_
    refine b_iconst (pc := 13) C dX12_isBench_13 ic_3 ?_
    refine b_ialdK (pc := 14) C dX12_isBench_14 (Hh.1 _ _ sh_95) tn_3 (by decide) ?_
    refine b_iconst (pc := 15) C dX12_isBench_15 ic_1 ?_
    refine b_isub (pc := 16) C dX12_isBench_16 ?_
    obtain ⟨v4, σ3, hc2, hF⟩ := bbd_e hF
    refine b_cS3i (d' := (d + 0)) (pc := 17) C dX12_isBench_17 mm_X12_160 (Nat.le_of_ble_eq_true rfl) (by omega) (Hh.2.2 _ _ _ _ _ _ _ _ _ (lvl_eq (by omega) (e_X12_in (d + 0) x1 (0 : Int32) ((σ.1 95 3) - (1 : Int32)) _ _ _ hc2))) ?_
    refine b_if_eq (tgt := 27) (pc := 20) C dX12_isBench_20 rfl (fun hc5 => ?_) (fun hc5 => ?_)
    · rw [if_pos hc5] at hF
      exact b_sub [] rfl (e_X12_isBench_J27 C Hh Rt  _ hF)
    · rw [if_neg hc5] at hF
      refine b_iconst (pc := 23) C dX12_isBench_23 ic_1 ?_
      refine b_goto (tgt := 28) (pc := 24) C dX12_isBench_24 rfl ?_
      exact b_zret (pc := 28) C Rt dX12_isBench_28 rfl hF
set_option maxHeartbeats 4000000 in
set_option maxRecDepth 20000 in
theorem e_X12_isBench {l : Launch} {G : bG} {ρ : Nat → Nat} {A : Nat → Prop} (d : Nat) (x1 : Int32) (σ : bSto) (r : Int32) (σ' : bSto) (hF : f_X12_isBench x1 σ = some (r, σ')) : bEv l G bSHf ρ A yX12_isBench cX12_isBench 2 (some .boolean) (d + 1) [.ref 92, .int x1] σ (some (.int r)) σ' := b_met (d := d + 1) (by decide +kernel) (Nat.le_of_ble_eq_true rfl) rfl (fun X C Rt h1 h2 h3 => e_X12_isBench_0 C ⟨fun o q h => by rw [h1]; exact h, fun i h => by rw [h2]; exact h, h3⟩ Rt _ _ hF)
/-! BenchColonyModel.isPerson -/
def f_X12_isPerson_J27  (σ : bSto) : Option (Int32 × bSto) := some ((0 : Int32), σ)
def f_X12_isPerson (x1 : Int32) (σ : bSto) : Option (Int32 × bSto) := (if (σ.1 92 14) = 0 then f_X12_isPerson_J27  σ else bbd (f_X12_in x1 (0 : Int32) ((σ.1 95 4) - (1 : Int32)) σ) (fun v4 σ3 => (if v4 = 0 then f_X12_isPerson_J27  σ3 else some ((1 : Int32), σ3))))
set_option maxHeartbeats 4000000 in
set_option maxRecDepth 20000 in
theorem e_X12_isPerson_J27 {X : bX} {l : Launch} {G : bG} {ρ : Nat → Nat} {A : Nat → Prop} {d : Nat} {r : Int32} {σ' : bSto} (C : bCX X cX12_isPerson RX12 (d + 1)) (Hh : bH X l G bSHf ρ A 2) (Rt : bRX X (some .boolean) (some (.int r)) σ')  (σ : bSto) (hF : f_X12_isPerson_J27  σ = some (r, σ')) : bAJ X 27 [] [] σ := by
  rw [f_X12_isPerson_J27] at hF
  refine b_iconst (pc := 27) C dX12_isPerson_27 ic_0 ?_
  exact b_zret (pc := 28) C Rt dX12_isPerson_28 rfl hF
set_option maxHeartbeats 4000000 in
set_option maxRecDepth 20000 in
theorem e_X12_isPerson_0 {X : bX} {l : Launch} {G : bG} {ρ : Nat → Nat} {A : Nat → Prop} {d : Nat} {r : Int32} {σ' : bSto} (C : bCX X cX12_isPerson RX12 (d + 1)) (Hh : bH X l G bSHf ρ A 2) (Rt : bRX X (some .boolean) (some (.int r)) σ') (x1 : Int32) (σ : bSto) (hF : f_X12_isPerson x1 σ = some (r, σ')) : bAJ X 0 [(0, .ref 92), (1, .int x1)] [] σ := by
  rw [f_X12_isPerson] at hF
  refine b_aload_n (pc := 0) C dX12_isPerson_0 rfl 0 rfl ?_
  refine b_getI (pc := 1) C dX12_isPerson_1 fl_X12_194 (Hh.1 _ _ sh_92) rfl ?_
  refine b_if_eq (tgt := 27) (pc := 4) C dX12_isPerson_4 rfl (fun hc1 => ?_) (fun hc1 => ?_)
  · rw [if_pos hc1] at hF
    exact b_sub [] rfl (e_X12_isPerson_J27 C Hh Rt  _ hF)
  · rw [if_neg hc1] at hF
    refine b_iload_n (pc := 7) C dX12_isPerson_7 rfl 1 rfl ?_
    refine b_iconst (pc := 8) C dX12_isPerson_8 ic_0 ?_
    refine b_aload_n (pc := 9) C dX12_isPerson_9 rfl 0 rfl ?_
    refine b_getS (pc := 10) C dX12_isPerson_10 fl_X12_20 (Hh.1 _ _ sh_92) rfl ?_
    refine b_iconst (pc := 13) C dX12_isPerson_13 ic_4 ?_
    refine b_ialdK (pc := 14) C dX12_isPerson_14 (Hh.1 _ _ sh_95) tn_4 (by decide) ?_
    refine b_iconst (pc := 15) C dX12_isPerson_15 ic_1 ?_
    refine b_isub (pc := 16) C dX12_isPerson_16 ?_
    obtain ⟨v4, σ3, hc2, hF⟩ := bbd_e hF
    refine b_cS3i (d' := (d + 0)) (pc := 17) C dX12_isPerson_17 mm_X12_160 (Nat.le_of_ble_eq_true rfl) (by omega) (Hh.2.2 _ _ _ _ _ _ _ _ _ (lvl_eq (by omega) (e_X12_in (d + 0) x1 (0 : Int32) ((σ.1 95 4) - (1 : Int32)) _ _ _ hc2))) ?_
    refine b_if_eq (tgt := 27) (pc := 20) C dX12_isPerson_20 rfl (fun hc5 => ?_) (fun hc5 => ?_)
    · rw [if_pos hc5] at hF
      exact b_sub [] rfl (e_X12_isPerson_J27 C Hh Rt  _ hF)
    · rw [if_neg hc5] at hF
      refine b_iconst (pc := 23) C dX12_isPerson_23 ic_1 ?_
      refine b_goto (tgt := 28) (pc := 24) C dX12_isPerson_24 rfl ?_
      exact b_zret (pc := 28) C Rt dX12_isPerson_28 rfl hF
set_option maxHeartbeats 4000000 in
set_option maxRecDepth 20000 in
theorem e_X12_isPerson {l : Launch} {G : bG} {ρ : Nat → Nat} {A : Nat → Prop} (d : Nat) (x1 : Int32) (σ : bSto) (r : Int32) (σ' : bSto) (hF : f_X12_isPerson x1 σ = some (r, σ')) : bEv l G bSHf ρ A yX12_isPerson cX12_isPerson 2 (some .boolean) (d + 1) [.ref 92, .int x1] σ (some (.int r)) σ' := b_met (d := d + 1) (by decide +kernel) (Nat.le_of_ble_eq_true rfl) rfl (fun X C Rt h1 h2 h3 => e_X12_isPerson_0 C ⟨fun o q h => by rw [h1]; exact h, fun i h => by rw [h2]; exact h, h3⟩ Rt _ _ hF)
/-! BenchColonyModel.kindOf -/
def f_X12_kindOf (x1 : Int32) (σ : bSto) : Option (Int32 × bSto) := if ((35 : Int32) + ((4 : Int32) * x1)) < 0 ∨ 406 ≤ ((35 : Int32) + ((4 : Int32) * x1)).toNatClampNeg then none else some ((σ.1 95 ((35 : Int32) + ((4 : Int32) * x1)).toNatClampNeg), σ)
set_option maxHeartbeats 4000000 in
set_option maxRecDepth 20000 in
theorem e_X12_kindOf_0 {X : bX} {l : Launch} {G : bG} {ρ : Nat → Nat} {A : Nat → Prop} {d : Nat} {r : Int32} {σ' : bSto} (C : bCX X cX12_kindOf RX12 (d + 0)) (Hh : bH X l G bSHf ρ A 2) (Rt : bRX X (some .int) (some (.int r)) σ') (x1 : Int32) (σ : bSto) (hF : f_X12_kindOf x1 σ = some (r, σ')) : bAJ X 0 [(0, .ref 92), (1, .int x1)] [] σ := by
  rw [f_X12_kindOf] at hF
  refine b_aload_n (pc := 0) C dX12_kindOf_0 rfl 0 rfl ?_
  refine b_getS (pc := 1) C dX12_kindOf_1 fl_X12_20 (Hh.1 _ _ sh_92) rfl ?_
  refine b_bipush (pc := 4) C dX12_kindOf_4 bp_35 ?_
  refine b_iconst (pc := 6) C dX12_kindOf_6 ic_4 ?_
  refine b_iload_n (pc := 7) C dX12_kindOf_7 rfl 1 rfl ?_
  refine b_imul (pc := 8) C dX12_kindOf_8 ?_
  refine b_iadd (pc := 9) C dX12_kindOf_9 ?_
  obtain ⟨hb1, hF⟩ := bif_n hF
  refine b_iald (pc := 10) C dX12_kindOf_10 (Hh.1 _ _ sh_95) hb1 ?_
  exact b_iret (pc := 11) C Rt dX12_kindOf_11 hF
set_option maxHeartbeats 4000000 in
set_option maxRecDepth 20000 in
theorem e_X12_kindOf {l : Launch} {G : bG} {ρ : Nat → Nat} {A : Nat → Prop} (d : Nat) (x1 : Int32) (σ : bSto) (r : Int32) (σ' : bSto) (hF : f_X12_kindOf x1 σ = some (r, σ')) : bEv l G bSHf ρ A yX12_kindOf cX12_kindOf 2 (some .int) (d + 0) [.ref 92, .int x1] σ (some (.int r)) σ' := b_met (d := d + 0) (by decide +kernel) (Nat.le_of_ble_eq_true rfl) rfl (fun X C Rt h1 h2 h3 => e_X12_kindOf_0 C ⟨fun o q h => by rw [h1]; exact h, fun i h => by rw [h2]; exact h, h3⟩ Rt _ _ hF)
