/-! BenchColony$Past.forgetAll -/
def f_X6_forgetAll  (σ : bSto) : Option bSto := blet (bI σ 36 2 (0 : Int32)) (fun σ1 => blet (bI σ1 36 3 (0 : Int32)) (fun σ3 => blet (bI σ3 36 4 (0 : Int32)) (fun σ5 => some σ5)))
set_option maxHeartbeats 4000000 in
set_option maxRecDepth 20000 in
theorem e_X6_forgetAll_0 {X : bX} {l : Launch} {G : bG} {ρ : Nat → Nat} {A : Nat → Prop} {d : Nat} {σ' : bSto} (C : bCX X cX6_forgetAll RX6 (d + 0)) (Hh : bH X l G bSHf ρ A 1) (Rt : bRX X none none σ')  (σ : bSto) (hF : f_X6_forgetAll  σ = some σ') : bAJ X 0 [(0, .ref 36)] [] σ := by
  rw [f_X6_forgetAll] at hF
  refine b_aload_n (pc := 0) C dX6_forgetAll_0 rfl 0 rfl ?_
  refine b_iconst (pc := 1) C dX6_forgetAll_1 ic_0 ?_
  obtain ⟨σ1, e2, hF⟩ := blet_e hF
  refine b_putI (pc := 2) C dX6_forgetAll_2 fp_X6_21 (Hh.1 _ _ sh_36) rfl rfl rfl e2 ?_
  refine b_aload_n (pc := 5) C dX6_forgetAll_5 rfl 0 rfl ?_
  refine b_iconst (pc := 6) C dX6_forgetAll_6 ic_0 ?_
  obtain ⟨σ3, e4, hF⟩ := blet_e hF
  refine b_putI (pc := 7) C dX6_forgetAll_7 fp_X6_25 (Hh.1 _ _ sh_36) rfl rfl rfl e4 ?_
  refine b_aload_n (pc := 10) C dX6_forgetAll_10 rfl 0 rfl ?_
  refine b_iconst (pc := 11) C dX6_forgetAll_11 ic_0 ?_
  obtain ⟨σ5, e6, hF⟩ := blet_e hF
  refine b_putI (pc := 12) C dX6_forgetAll_12 fp_X6_28 (Hh.1 _ _ sh_36) rfl rfl rfl e6 ?_
  exact b_vret (pc := 15) C Rt dX6_forgetAll_15 hF
set_option maxHeartbeats 4000000 in
set_option maxRecDepth 20000 in
theorem e_X6_forgetAll {l : Launch} {G : bG} {ρ : Nat → Nat} {A : Nat → Prop} (d : Nat)  (σ : bSto) (σ' : bSto) (hF : f_X6_forgetAll  σ = some σ') : bEv l G bSHf ρ A yX6_forgetAll cX6_forgetAll 1 none (d + 0) [.ref 36] σ none σ' := b_met (d := d + 0) (by decide +kernel) (Nat.le_of_ble_eq_true rfl) rfl (fun X C Rt h1 h2 h3 => e_X6_forgetAll_0 C ⟨fun o q h => by rw [h1]; exact h, fun i h => by rw [h2]; exact h, h3⟩ Rt  _ hF)
/-! BenchColony$Timetable.clear -/
def f_X10_clear (x0 : Nat) (σ : bSto) : Option bSto := blet (bI σ x0 4 (0 : Int32)) (fun σ1 => blet (bI σ1 x0 5 (0 : Int32)) (fun σ3 => some σ3))
set_option maxHeartbeats 4000000 in
set_option maxRecDepth 20000 in
theorem e_X10_clear_0 {X : bX} {l : Launch} {G : bG} {ρ : Nat → Nat} {A : Nat → Prop} {d : Nat} {σ' : bSto} (C : bCX X cX10_clear RX10 (d + 0)) (Hh : bH X l G bSHf ρ A 1) (Rt : bRX X none none σ') (x0 : Nat) (hx0 : kT x0) (σ : bSto) (hF : f_X10_clear x0 σ = some σ') : bAJ X 0 [(0, .ref x0)] [] σ := by
  rw [f_X10_clear] at hF
  refine b_aload_n (pc := 0) C dX10_clear_0 rfl 0 rfl ?_
  refine b_iconst (pc := 1) C dX10_clear_1 ic_0 ?_
  obtain ⟨σ1, e2, hF⟩ := blet_e hF
  refine b_putI (pc := 2) C dX10_clear_2 fp_X10_25 (Hh.1 _ _ (shT hx0)) rfl rfl rfl e2 ?_
  refine b_aload_n (pc := 5) C dX10_clear_5 rfl 0 rfl ?_
  refine b_iconst (pc := 6) C dX10_clear_6 ic_0 ?_
  obtain ⟨σ3, e4, hF⟩ := blet_e hF
  refine b_putI (pc := 7) C dX10_clear_7 fp_X10_29 (Hh.1 _ _ (shT hx0)) rfl rfl rfl e4 ?_
  exact b_vret (pc := 10) C Rt dX10_clear_10 hF
set_option maxHeartbeats 4000000 in
set_option maxRecDepth 20000 in
theorem e_X10_clear {l : Launch} {G : bG} {ρ : Nat → Nat} {A : Nat → Prop} (d : Nat) (x0 : Nat) (hx0 : kT x0) (σ : bSto) (σ' : bSto) (hF : f_X10_clear x0 σ = some σ') : bEv l G bSHf ρ A yX10_clear cX10_clear 1 none (d + 0) [.ref x0] σ none σ' := b_met (d := d + 0) (by decide +kernel) (Nat.le_of_ble_eq_true rfl) rfl (fun X C Rt h1 h2 h3 => e_X10_clear_0 C ⟨fun o q h => by rw [h1]; exact h, fun i h => by rw [h2]; exact h, h3⟩ Rt _ hx0 _ hF)
/-! BenchColony$Timetable.isHourTold -/
def f_X10_isHourTold_L2 : Nat → Nat → Int32 → Int32 → bSto → Option ((Int32 × bSto) ⊕ (bSto))
  | 0, _, _, _, _ => none
  | n + 1, x0, x1, x2, σ => (if (σ.1 x0 4) ≤ x2 then some (.inr σ) else if x2 < 0 ∨ 8 ≤ x2.toNatClampNeg then none else (if (σ.1 (x0 + 1) x2.toNatClampNeg) = x1 then some (.inl ((1 : Int32), σ)) else blet (x2 + (1 : Int32)) (fun x2_4 => f_X10_isHourTold_L2 n x0 x1 x2_4 σ)))
def f_X10_isHourTold (x0 : Nat) (x1 : Int32) (σ : bSto) : Option (Int32 × bSto) := br0 (f_X10_isHourTold_L2 bFU x0 x1 (0 : Int32) σ) (fun v s => some (v, s)) (fun σ2 => some ((0 : Int32), σ2))
set_option maxHeartbeats 4000000 in
set_option maxRecDepth 20000 in
theorem e_X10_isHourTold_L2 {X : bX} {l : Launch} {G : bG} {ρ : Nat → Nat} {A : Nat → Prop} {d : Nat} {r : Int32} {σ' : bSto} (C : bCX X cX10_isHourTold RX10 (d + 0)) (Hh : bH X l G bSHf ρ A 3) (Rt : bRX X (some .boolean) (some (.int r)) σ') : ∀ (n : Nat) (x0 : Nat) (hx0 : kT x0) (x1 : Int32) (x2 : Int32) (σ : bSto) (q : ((Int32 × bSto) ⊕ (bSto))), f_X10_isHourTold_L2 n x0 x1 x2 σ = some q → (∀ (v : Int32) (s : bSto), q = .inl (v, s) → some (v, s) = some (r, σ')) → (∀  (s : bSto), q = .inr s → bAJ X 28 [] [] s) → bAJ X 2 [(0, .ref x0), (1, .int x1), (2, .int x2)] [] σ := by
  intro n
  induction n with
  | zero => intro x0 hx0 x1 x2 σ q hF; rw [f_X10_isHourTold_L2] at hF; cases hF
  | succ n ih =>
    intro x0 hx0 x1 x2 σ q hF hr hx
    rw [f_X10_isHourTold_L2] at hF
    refine b_iload_n (pc := 2) C dX10_isHourTold_2 rfl 2 rfl ?_
    refine b_aload_n (pc := 3) C dX10_isHourTold_3 rfl 0 rfl ?_
    refine b_getI (pc := 4) C dX10_isHourTold_4 fl_X10_25 (Hh.1 _ _ (shT hx0)) rfl ?_
    refine b_icmp_ge (tgt := 28) (pc := 7) C dX10_isHourTold_7 rfl (fun hc1 => ?_) (fun hc1 => ?_)
    · rw [if_pos hc1] at hF
      exact b_sub [] rfl (hx  _ (Option.some.inj hF).symm )
    · rw [if_neg hc1] at hF
      refine b_aload_n (pc := 10) C dX10_isHourTold_10 rfl 0 rfl ?_
      refine b_getS (pc := 11) C dX10_isHourTold_11 fl_X10_9 (Hh.1 _ _ (shT hx0)) rfl ?_
      refine b_iload_n (pc := 14) C dX10_isHourTold_14 rfl 2 rfl ?_
      obtain ⟨hb2, hF⟩ := bif_n hF
      refine b_iald (pc := 15) C dX10_isHourTold_15 (Hh.1 _ _ (sa_10_0 hx0)) hb2 ?_
      refine b_iload_n (pc := 16) C dX10_isHourTold_16 rfl 1 rfl ?_
      refine b_icmp_ne (tgt := 22) (pc := 17) C dX10_isHourTold_17 rfl (fun hc3 => ?_) (fun hc3 => ?_)
      · rw [if_neg hc3] at hF
        obtain ⟨x2_4, e5, hF⟩ := blet_e hF
        refine b_iinc (L' := [(2, .int x2_4), (0, .ref x0), (1, .int x1)]) (pc := 22) C dX10_isHourTold_22 2 rfl ic_1 e5 (Hh.2.1 _ (Nat.le_of_ble_eq_true rfl)) rfl ?_
        refine b_goto (tgt := 2) (pc := 25) C dX10_isHourTold_25 rfl ?_
        exact b_sub [1, 2, 0] rfl (ih _ hx0 x1 x2_4 _ _ hF hr hx)
      · rw [if_pos hc3] at hF
        refine b_iconst (pc := 20) C dX10_isHourTold_20 ic_1 ?_
        exact b_zret (pc := 21) C Rt dX10_isHourTold_21 rfl (hr _ _ (Option.some.inj hF).symm)
set_option maxHeartbeats 4000000 in
set_option maxRecDepth 20000 in
theorem e_X10_isHourTold_0 {X : bX} {l : Launch} {G : bG} {ρ : Nat → Nat} {A : Nat → Prop} {d : Nat} {r : Int32} {σ' : bSto} (C : bCX X cX10_isHourTold RX10 (d + 0)) (Hh : bH X l G bSHf ρ A 3) (Rt : bRX X (some .boolean) (some (.int r)) σ') (x0 : Nat) (hx0 : kT x0) (x1 : Int32) (σ : bSto) (hF : f_X10_isHourTold x0 x1 σ = some (r, σ')) : bAJ X 0 [(0, .ref x0), (1, .int x1)] [] σ := by
  rw [f_X10_isHourTold] at hF
  refine b_iconst (pc := 0) C dX10_isHourTold_0 ic_0 ?_
  refine b_istore_n (L' := [(2, .int (0 : Int32)), (0, .ref x0), (1, .int x1)]) (pc := 1) C dX10_isHourTold_1 rfl rfl (Hh.2.1 _ (Nat.le_of_ble_eq_true rfl)) rfl ?_
  rcases br0_e hF with ⟨v, s, hq1, hF⟩ | ⟨σ2, hq1, hF⟩
  · exact b_sub [1, 2, 0] rfl (e_X10_isHourTold_L2 C Hh Rt bFU _ hx0 x1 (0 : Int32) _ _ hq1 (fun v s e => by cases e; exact hF) (fun  _ e => by cases e))
  · refine b_sub [1, 2, 0] rfl (e_X10_isHourTold_L2 C Hh Rt bFU _ hx0 x1 (0 : Int32) _ _ hq1 (fun v s e => by cases e) (fun  _ e  => ?_))
    cases e
    refine b_iconst (pc := 28) C dX10_isHourTold_28 ic_0 ?_
    exact b_zret (pc := 29) C Rt dX10_isHourTold_29 rfl hF
set_option maxHeartbeats 4000000 in
set_option maxRecDepth 20000 in
theorem e_X10_isHourTold {l : Launch} {G : bG} {ρ : Nat → Nat} {A : Nat → Prop} (d : Nat) (x0 : Nat) (hx0 : kT x0) (x1 : Int32) (σ : bSto) (r : Int32) (σ' : bSto) (hF : f_X10_isHourTold x0 x1 σ = some (r, σ')) : bEv l G bSHf ρ A yX10_isHourTold cX10_isHourTold 3 (some .boolean) (d + 0) [.ref x0, .int x1] σ (some (.int r)) σ' := b_met (d := d + 0) (by decide +kernel) (Nat.le_of_ble_eq_true rfl) rfl (fun X C Rt h1 h2 h3 => e_X10_isHourTold_0 C ⟨fun o q h => by rw [h1]; exact h, fun i h => by rw [h2]; exact h, h3⟩ Rt _ hx0 _ _ hF)
/-! BenchColony$Timetable.addHour -/
def f_X10_addHour (x0 : Nat) (x1 : Int32) (x2 : Int32) (σ : bSto) : Option bSto := (if (σ.1 x0 4) < (8 : Int32) then if (σ.1 x0 4) < 0 ∨ 8 ≤ (σ.1 x0 4).toNatClampNeg then none else blet (bI σ (x0 + 1) (σ.1 x0 4).toNatClampNeg x1) (fun σ2 => if (σ2.1 x0 4) < 0 ∨ 8 ≤ (σ2.1 x0 4).toNatClampNeg then none else blet (bI σ2 (x0 + 2) (σ2.1 x0 4).toNatClampNeg (vp_nar .boolean x2)) (fun σ5 => blet (bI σ5 x0 4 ((σ5.1 x0 4) + (1 : Int32))) (fun σ8 => (if x2 = 0 then some σ8 else blet (bI σ8 x0 5 ((σ8.1 x0 5) + (1 : Int32))) (fun σ11 => some σ11))))) else some σ)
set_option maxHeartbeats 4000000 in
set_option maxRecDepth 20000 in
theorem e_X10_addHour_0 {X : bX} {l : Launch} {G : bG} {ρ : Nat → Nat} {A : Nat → Prop} {d : Nat} {σ' : bSto} (C : bCX X cX10_addHour RX10 (d + 0)) (Hh : bH X l G bSHf ρ A 3) (Rt : bRX X none none σ') (x0 : Nat) (hx0 : kT x0) (x1 : Int32) (x2 : Int32) (σ : bSto) (hF : f_X10_addHour x0 x1 x2 σ = some σ') : bAJ X 0 [(0, .ref x0), (1, .int x1), (2, .int x2)] [] σ := by
  rw [f_X10_addHour] at hF
  refine b_aload_n (pc := 0) C dX10_addHour_0 rfl 0 rfl ?_
  refine b_getI (pc := 1) C dX10_addHour_1 fl_X10_25 (Hh.1 _ _ (shT hx0)) rfl ?_
  refine b_bipush (pc := 4) C dX10_addHour_4 bp_8 ?_
  refine b_icmp_lt (tgt := 10) (pc := 6) C dX10_addHour_6 rfl (fun hc1 => ?_) (fun hc1 => ?_)
  · rw [if_pos hc1] at hF
    refine b_aload_n (pc := 10) C dX10_addHour_10 rfl 0 rfl ?_
    refine b_getS (pc := 11) C dX10_addHour_11 fl_X10_9 (Hh.1 _ _ (shT hx0)) rfl ?_
    refine b_aload_n (pc := 14) C dX10_addHour_14 rfl 0 rfl ?_
    refine b_getI (pc := 15) C dX10_addHour_15 fl_X10_25 (Hh.1 _ _ (shT hx0)) rfl ?_
    refine b_iload_n (pc := 18) C dX10_addHour_18 rfl 1 rfl ?_
    obtain ⟨hb4, hF⟩ := bif_n hF
    obtain ⟨σ2, e3, hF⟩ := blet_e hF
    refine b_iast (pc := 19) C dX10_addHour_19 (Hh.1 _ _ (sa_10_0 hx0)) hb4 e3 ?_
    refine b_aload_n (pc := 20) C dX10_addHour_20 rfl 0 rfl ?_
    refine b_getS (pc := 21) C dX10_addHour_21 fl_X10_15 (Hh.1 _ _ (shT hx0)) rfl ?_
    refine b_aload_n (pc := 24) C dX10_addHour_24 rfl 0 rfl ?_
    refine b_getI (pc := 25) C dX10_addHour_25 fl_X10_25 (Hh.1 _ _ (shT hx0)) rfl ?_
    refine b_iload_n (pc := 28) C dX10_addHour_28 rfl 2 rfl ?_
    obtain ⟨hb7, hF⟩ := bif_n hF
    obtain ⟨σ5, e6, hF⟩ := blet_e hF
    refine b_zast (pc := 29) C dX10_addHour_29 (Hh.1 _ _ (sa_10_1 hx0)) hb7 e6 ?_
    refine b_aload_n (pc := 30) C dX10_addHour_30 rfl 0 rfl ?_
    refine b_dup (pc := 31) C dX10_addHour_31 rfl ?_
    refine b_getI (pc := 32) C dX10_addHour_32 fl_X10_25 (Hh.1 _ _ (shT hx0)) rfl ?_
    refine b_iconst (pc := 35) C dX10_addHour_35 ic_1 ?_
    refine b_iadd (pc := 36) C dX10_addHour_36 ?_
    obtain ⟨σ8, e9, hF⟩ := blet_e hF
    refine b_putI (pc := 37) C dX10_addHour_37 fp_X10_25 (Hh.1 _ _ (shT hx0)) rfl rfl rfl e9 ?_
    refine b_iload_n (pc := 40) C dX10_addHour_40 rfl 2 rfl ?_
    refine b_if_eq (tgt := 54) (pc := 41) C dX10_addHour_41 rfl (fun hc10 => ?_) (fun hc10 => ?_)
    · rw [if_pos hc10] at hF
      exact b_vret (pc := 54) C Rt dX10_addHour_54 hF
    · rw [if_neg hc10] at hF
      refine b_aload_n (pc := 44) C dX10_addHour_44 rfl 0 rfl ?_
      refine b_dup (pc := 45) C dX10_addHour_45 rfl ?_
      refine b_getI (pc := 46) C dX10_addHour_46 fl_X10_29 (Hh.1 _ _ (shT hx0)) rfl ?_
      refine b_iconst (pc := 49) C dX10_addHour_49 ic_1 ?_
      refine b_iadd (pc := 50) C dX10_addHour_50 ?_
      obtain ⟨σ11, e12, hF⟩ := blet_e hF
      refine b_putI (pc := 51) C dX10_addHour_51 fp_X10_29 (Hh.1 _ _ (shT hx0)) rfl rfl rfl e12 ?_
      exact b_vret (pc := 54) C Rt dX10_addHour_54 hF
  · rw [if_neg hc1] at hF
    exact b_vret (pc := 9) C Rt dX10_addHour_9 hF
set_option maxHeartbeats 4000000 in
set_option maxRecDepth 20000 in
theorem e_X10_addHour {l : Launch} {G : bG} {ρ : Nat → Nat} {A : Nat → Prop} (d : Nat) (x0 : Nat) (hx0 : kT x0) (x1 : Int32) (x2 : Int32) (σ : bSto) (σ' : bSto) (hF : f_X10_addHour x0 x1 x2 σ = some σ') : bEv l G bSHf ρ A yX10_addHour cX10_addHour 3 none (d + 0) [.ref x0, .int x1, .int x2] σ none σ' := b_met (d := d + 0) (by decide +kernel) (Nat.le_of_ble_eq_true rfl) rfl (fun X C Rt h1 h2 h3 => e_X10_addHour_0 C ⟨fun o q h => by rw [h1]; exact h, fun i h => by rw [h2]; exact h, h3⟩ Rt _ hx0 _ _ _ hF)
/-! BenchColony$Timetable.fits -/
def f_X10_fits_J33_8 (k : Nat → Int32 → Int32 → Int32 → bSto → Option ((Int32 × bSto) ⊕ (bSto))) (x0 : Nat) (x1 : Int32) (x2 : Int32) (x3 : Int32) (s0 : Int32) (σ : bSto) : Option ((Int32 × bSto) ⊕ (bSto)) := if x3 < 0 ∨ 8 ≤ x3.toNatClampNeg then none else (if s0 = (σ.1 (x0 + 2) x3.toNatClampNeg) then blet (x3 + (1 : Int32)) (fun x3_3 => k x0 x1 x2 x3_3 σ) else some (.inl ((0 : Int32), σ)))
def f_X10_fits_L8 : Nat → Nat → Int32 → Int32 → Int32 → bSto → Option ((Int32 × bSto) ⊕ (bSto))
  | 0, _, _, _, _, _ => none
  | n + 1, x0, x1, x2, x3, σ => (if (σ.1 x0 4) ≤ x3 then some (.inr σ) else if x3 < 0 ∨ 8 ≤ x3.toNatClampNeg then none else if x1 = 0 then none else (if ((σ.1 (x0 + 1) x3.toNatClampNeg) - (σ.1 (x0 + 1) x3.toNatClampNeg) / x1 * x1) = x2 then f_X10_fits_J33_8 (f_X10_fits_L8 n) x0 x1 x2 x3 (1 : Int32) σ else f_X10_fits_J33_8 (f_X10_fits_L8 n) x0 x1 x2 x3 (0 : Int32) σ))
def f_X10_fits (x0 : Nat) (x1 : Int32) (x2 : Int32) (σ : bSto) : Option (Int32 × bSto) := (if 0 < x1 then br0 (f_X10_fits_L8 bFU x0 x1 x2 (0 : Int32) σ) (fun v s => some (v, s)) (fun σ3 => some ((1 : Int32), σ3)) else some ((0 : Int32), σ))
set_option maxHeartbeats 4000000 in
set_option maxRecDepth 20000 in
theorem e_X10_fits_J33_8 {X : bX} {l : Launch} {G : bG} {ρ : Nat → Nat} {A : Nat → Prop} {d : Nat} {r : Int32} {σ' : bSto} (C : bCX X cX10_fits RX10 (d + 0)) (Hh : bH X l G bSHf ρ A 4) (Rt : bRX X (some .boolean) (some (.int r)) σ') {k : Nat → Int32 → Int32 → Int32 → bSto → Option ((Int32 × bSto) ⊕ (bSto))} (ih : ∀ (x0 : Nat) (hx0 : kT x0) (x1 : Int32) (x2 : Int32) (x3 : Int32) (σ : bSto) (q : ((Int32 × bSto) ⊕ (bSto))), k x0 x1 x2 x3 σ = some q → (∀ (v : Int32) (s : bSto), q = .inl (v, s) → some (v, s) = some (r, σ')) → (∀  (s : bSto), q = .inr s → bAJ X 50 [] [] s) → bAJ X 8 [(0, .ref x0), (1, .int x1), (2, .int x2), (3, .int x3)] [] σ) (x0 : Nat) (hx0 : kT x0) (x1 : Int32) (x2 : Int32) (x3 : Int32) (s0 : Int32) (σ : bSto) (q : ((Int32 × bSto) ⊕ (bSto))) (hF : f_X10_fits_J33_8 k x0 x1 x2 x3 s0 σ = some q) : (∀ (v : Int32) (s : bSto), q = .inl (v, s) → some (v, s) = some (r, σ')) → (∀  (s : bSto), q = .inr s → bAJ X 50 [] [] s) → bAJ X 33 [(0, .ref x0), (1, .int x1), (2, .int x2), (3, .int x3)] [.int s0] σ := by
  intro hr hx
  rw [f_X10_fits_J33_8] at hF
  refine b_aload_n (pc := 33) C dX10_fits_33 rfl 0 rfl ?_
  refine b_getS (pc := 34) C dX10_fits_34 fl_X10_15 (Hh.1 _ _ (shT hx0)) rfl ?_
  refine b_iload_n (pc := 37) C dX10_fits_37 rfl 3 rfl ?_
  obtain ⟨hb1, hF⟩ := bif_n hF
  refine b_zald (pc := 38) C dX10_fits_38 (Hh.1 _ _ (sa_10_1 hx0)) hb1 ?_
  refine b_icmp_eq (tgt := 44) (pc := 39) C dX10_fits_39 rfl (fun hc2 => ?_) (fun hc2 => ?_)
  · rw [if_pos hc2] at hF
    obtain ⟨x3_3, e4, hF⟩ := blet_e hF
    refine b_iinc (L' := [(3, .int x3_3), (0, .ref x0), (1, .int x1), (2, .int x2)]) (pc := 44) C dX10_fits_44 3 rfl ic_1 e4 (Hh.2.1 _ (Nat.le_of_ble_eq_true rfl)) rfl ?_
    refine b_goto (tgt := 8) (pc := 47) C dX10_fits_47 rfl ?_
    exact b_sub [1, 2, 3, 0] rfl (ih _ hx0 x1 x2 x3_3 _ _ hF hr hx)
  · rw [if_neg hc2] at hF
    refine b_iconst (pc := 42) C dX10_fits_42 ic_0 ?_
    exact b_zret (pc := 43) C Rt dX10_fits_43 rfl (hr _ _ (Option.some.inj hF).symm)
set_option maxHeartbeats 4000000 in
set_option maxRecDepth 20000 in
theorem e_X10_fits_L8 {X : bX} {l : Launch} {G : bG} {ρ : Nat → Nat} {A : Nat → Prop} {d : Nat} {r : Int32} {σ' : bSto} (C : bCX X cX10_fits RX10 (d + 0)) (Hh : bH X l G bSHf ρ A 4) (Rt : bRX X (some .boolean) (some (.int r)) σ') : ∀ (n : Nat) (x0 : Nat) (hx0 : kT x0) (x1 : Int32) (x2 : Int32) (x3 : Int32) (σ : bSto) (q : ((Int32 × bSto) ⊕ (bSto))), f_X10_fits_L8 n x0 x1 x2 x3 σ = some q → (∀ (v : Int32) (s : bSto), q = .inl (v, s) → some (v, s) = some (r, σ')) → (∀  (s : bSto), q = .inr s → bAJ X 50 [] [] s) → bAJ X 8 [(0, .ref x0), (1, .int x1), (2, .int x2), (3, .int x3)] [] σ := by
  intro n
  induction n with
  | zero => intro x0 hx0 x1 x2 x3 σ q hF; rw [f_X10_fits_L8] at hF; cases hF
  | succ n ih =>
    intro x0 hx0 x1 x2 x3 σ q hF hr hx
    rw [f_X10_fits_L8] at hF
    refine b_iload_n (pc := 8) C dX10_fits_8 rfl 3 rfl ?_
    refine b_aload_n (pc := 9) C dX10_fits_9 rfl 0 rfl ?_
    refine b_getI (pc := 10) C dX10_fits_10 fl_X10_25 (Hh.1 _ _ (shT hx0)) rfl ?_
    refine b_icmp_ge (tgt := 50) (pc := 13) C dX10_fits_13 rfl (fun hc1 => ?_) (fun hc1 => ?_)
    · rw [if_pos hc1] at hF
      exact b_sub [] rfl (hx  _ (Option.some.inj hF).symm )
    · rw [if_neg hc1] at hF
      refine b_aload_n (pc := 16) C dX10_fits_16 rfl 0 rfl ?_
      refine b_getS (pc := 17) C dX10_fits_17 fl_X10_9 (Hh.1 _ _ (shT hx0)) rfl ?_
      refine b_iload_n (pc := 20) C dX10_fits_20 rfl 3 rfl ?_
      obtain ⟨hb2, hF⟩ := bif_n hF
      refine b_iald (pc := 21) C dX10_fits_21 (Hh.1 _ _ (sa_10_0 hx0)) hb2 ?_
      refine b_iload_n (pc := 22) C dX10_fits_22 rfl 1 rfl ?_
      obtain ⟨hz3, hF⟩ := bif_n hF
      refine b_irem (pc := 23) C dX10_fits_23 hz3 ?_
      refine b_iload_n (pc := 24) C dX10_fits_24 rfl 2 rfl ?_
      refine b_icmp_ne (tgt := 32) (pc := 25) C dX10_fits_25 rfl (fun hc4 => ?_) (fun hc4 => ?_)
      · rw [if_neg hc4] at hF
        refine b_iconst (pc := 32) C dX10_fits_32 ic_0 ?_
        exact b_sub [0, 1, 2, 3] rfl (e_X10_fits_J33_8 C Hh Rt ih _ hx0 x1 x2 x3 (0 : Int32) _ _ hF hr hx)
      · rw [if_pos hc4] at hF
        refine b_iconst (pc := 28) C dX10_fits_28 ic_1 ?_
        refine b_goto (tgt := 33) (pc := 29) C dX10_fits_29 rfl ?_
        exact b_sub [0, 1, 2, 3] rfl (e_X10_fits_J33_8 C Hh Rt ih _ hx0 x1 x2 x3 (1 : Int32) _ _ hF hr hx)
set_option maxHeartbeats 4000000 in
set_option maxRecDepth 20000 in
theorem e_X10_fits_0 {X : bX} {l : Launch} {G : bG} {ρ : Nat → Nat} {A : Nat → Prop} {d : Nat} {r : Int32} {σ' : bSto} (C : bCX X cX10_fits RX10 (d + 0)) (Hh : bH X l G bSHf ρ A 4) (Rt : bRX X (some .boolean) (some (.int r)) σ') (x0 : Nat) (hx0 : kT x0) (x1 : Int32) (x2 : Int32) (σ : bSto) (hF : f_X10_fits x0 x1 x2 σ = some (r, σ')) : bAJ X 0 [(0, .ref x0), (1, .int x1), (2, .int x2)] [] σ := by
  rw [f_X10_fits] at hF
  refine b_iload_n (pc := 0) C dX10_fits_0 rfl 1 rfl ?_
  refine b_if_gt (tgt := 6) (pc := 1) C dX10_fits_1 rfl (fun hc1 => ?_) (fun hc1 => ?_)
  · rw [if_pos hc1] at hF
    refine b_iconst (pc := 6) C dX10_fits_6 ic_0 ?_
    refine b_istore_n (L' := [(3, .int (0 : Int32)), (0, .ref x0), (1, .int x1), (2, .int x2)]) (pc := 7) C dX10_fits_7 rfl rfl (Hh.2.1 _ (Nat.le_of_ble_eq_true rfl)) rfl ?_
    rcases br0_e hF with ⟨v, s, hq2, hF⟩ | ⟨σ3, hq2, hF⟩
    · exact b_sub [1, 2, 3, 0] rfl (e_X10_fits_L8 C Hh Rt bFU _ hx0 x1 x2 (0 : Int32) _ _ hq2 (fun v s e => by cases e; exact hF) (fun  _ e => by cases e))
    · refine b_sub [1, 2, 3, 0] rfl (e_X10_fits_L8 C Hh Rt bFU _ hx0 x1 x2 (0 : Int32) _ _ hq2 (fun v s e => by cases e) (fun  _ e  => ?_))
      cases e
      refine b_iconst (pc := 50) C dX10_fits_50 ic_1 ?_
      exact b_zret (pc := 51) C Rt dX10_fits_51 rfl hF
  · rw [if_neg hc1] at hF
    refine b_iconst (pc := 4) C dX10_fits_4 ic_0 ?_
    exact b_zret (pc := 5) C Rt dX10_fits_5 rfl hF
set_option maxHeartbeats 4000000 in
set_option maxRecDepth 20000 in
theorem e_X10_fits {l : Launch} {G : bG} {ρ : Nat → Nat} {A : Nat → Prop} (d : Nat) (x0 : Nat) (hx0 : kT x0) (x1 : Int32) (x2 : Int32) (σ : bSto) (r : Int32) (σ' : bSto) (hF : f_X10_fits x0 x1 x2 σ = some (r, σ')) : bEv l G bSHf ρ A yX10_fits cX10_fits 4 (some .boolean) (d + 0) [.ref x0, .int x1, .int x2] σ (some (.int r)) σ' := b_met (d := d + 0) (by decide +kernel) (Nat.le_of_ble_eq_true rfl) rfl (fun X C Rt h1 h2 h3 => e_X10_fits_0 C ⟨fun o q h => by rw [h1]; exact h, fun i h => by rw [h2]; exact h, h3⟩ Rt _ hx0 _ _ _ hF)
/-! BenchColony$Timetable.addTrain -/
def f_X10_addTrain_L27 : Nat → Nat → Int32 → Int32 → bSto → Option (bSto)
  | 0, _, _, _, _ => none
  | n + 1, x0, x1, x3, σ => (if (100 : Int32) ≤ x3 then some σ else if x3 < 0 ∨ 100 ≤ x3.toNatClampNeg then none else if x3 < 0 ∨ 100 ≤ x3.toNatClampNeg then none else blet (bI σ (x0 + 4) x3.toNatClampNeg ((σ.1 (x0 + 4) x3.toNatClampNeg) + (1 : Int32))) (fun σ3 => blet (x3 + x1) (fun x3_6 => f_X10_addTrain_L27 n x0 x1 x3_6 σ3)))
def f_X10_addTrain (x0 : Nat) (x1 : Int32) (x2 : Int32) (σ : bSto) : Option bSto := if (σ.1 x0 6) < 0 ∨ 77 ≤ (σ.1 x0 6).toNatClampNeg then none else blet (bI σ (x0 + 3) (σ.1 x0 6).toNatClampNeg (((100 : Int32) * x1) + x2)) (fun σ1 => blet (bI σ1 x0 6 ((σ1.1 x0 6) + (1 : Int32))) (fun σ4 => bl0 (f_X10_addTrain_L27 bFU x0 x1 x2 σ4) (fun σ7 => some σ7)))
set_option maxHeartbeats 4000000 in
set_option maxRecDepth 20000 in
theorem e_X10_addTrain_L27 {X : bX} {l : Launch} {G : bG} {ρ : Nat → Nat} {A : Nat → Prop} {d : Nat} {σ' : bSto} (C : bCX X cX10_addTrain RX10 (d + 0)) (Hh : bH X l G bSHf ρ A 4) (Rt : bRX X none none σ') : ∀ (n : Nat) (x0 : Nat) (hx0 : kT x0) (x1 : Int32) (x3 : Int32) (σ : bSto) (q : (bSto)), f_X10_addTrain_L27 n x0 x1 x3 σ = some q → (∀  (s : bSto), q = s → bAJ X 50 [] [] s) → bAJ X 27 [(0, .ref x0), (1, .int x1), (3, .int x3)] [] σ := by
  intro n
  induction n with
  | zero => intro x0 hx0 x1 x3 σ q hF; rw [f_X10_addTrain_L27] at hF; cases hF
  | succ n ih =>
    intro x0 hx0 x1 x3 σ q hF hx
    rw [f_X10_addTrain_L27] at hF
    refine b_iload_n (pc := 27) C dX10_addTrain_27 rfl 2 rfl ?_
    refine b_bipush (pc := 28) C dX10_addTrain_28 bp_100 ?_
    refine b_icmp_ge (tgt := 50) (pc := 30) C dX10_addTrain_30 rfl (fun hc1 => ?_) (fun hc1 => ?_)
    · rw [if_pos hc1] at hF
      exact b_sub [] rfl (hx  _ (Option.some.inj hF).symm )
    · rw [if_neg hc1] at hF
      refine b_aload_n (pc := 33) C dX10_addTrain_33 rfl 0 rfl ?_
      refine b_getS (pc := 34) C dX10_addTrain_34 fl_X10_22 (Hh.1 _ _ (shT hx0)) rfl ?_
      refine b_iload_n (pc := 37) C dX10_addTrain_37 rfl 2 rfl ?_
      refine b_dup2 (pc := 38) C dX10_addTrain_38 rfl rfl ?_
      obtain ⟨hb2, hF⟩ := bif_n hF
      refine b_iald (pc := 39) C dX10_addTrain_39 (Hh.1 _ _ (sa_10_3 hx0)) hb2 ?_
      refine b_iconst (pc := 40) C dX10_addTrain_40 ic_1 ?_
      refine b_iadd (pc := 41) C dX10_addTrain_41 ?_
      obtain ⟨hb5, hF⟩ := bif_n hF
      obtain ⟨σ3, e4, hF⟩ := blet_e hF
      refine b_iast (pc := 42) C dX10_addTrain_42 (Hh.1 _ _ (sa_10_3 hx0)) hb5 e4 ?_
      refine b_iload_n (pc := 43) C dX10_addTrain_43 rfl 2 rfl ?_
      refine b_iload_n (pc := 44) C dX10_addTrain_44 rfl 1 rfl ?_
      refine b_iadd (pc := 45) C dX10_addTrain_45 ?_
      obtain ⟨x3_6, e7, hF⟩ := blet_e hF
      refine b_istore_n (L' := [(3, .int x3_6), (0, .ref x0), (1, .int x1)]) (pc := 46) C dX10_addTrain_46 rfl e7 (Hh.2.1 _ (Nat.le_of_ble_eq_true rfl)) rfl ?_
      refine b_goto (tgt := 27) (pc := 47) C dX10_addTrain_47 rfl ?_
      exact b_sub [1, 2, 0] rfl (ih _ hx0 x1 x3_6 _ _ hF hx)
set_option maxHeartbeats 4000000 in
set_option maxRecDepth 20000 in
theorem e_X10_addTrain_0 {X : bX} {l : Launch} {G : bG} {ρ : Nat → Nat} {A : Nat → Prop} {d : Nat} {σ' : bSto} (C : bCX X cX10_addTrain RX10 (d + 0)) (Hh : bH X l G bSHf ρ A 4) (Rt : bRX X none none σ') (x0 : Nat) (hx0 : kT x0) (x1 : Int32) (x2 : Int32) (σ : bSto) (hF : f_X10_addTrain x0 x1 x2 σ = some σ') : bAJ X 0 [(0, .ref x0), (1, .int x1), (2, .int x2)] [] σ := by
  rw [f_X10_addTrain] at hF
  refine b_aload_n (pc := 0) C dX10_addTrain_0 rfl 0 rfl ?_
  refine b_getS (pc := 1) C dX10_addTrain_1 fl_X10_19 (Hh.1 _ _ (shT hx0)) rfl ?_
  refine b_aload_n (pc := 4) C dX10_addTrain_4 rfl 0 rfl ?_
  refine b_getI (pc := 5) C dX10_addTrain_5 fl_X10_32 (Hh.1 _ _ (shT hx0)) rfl ?_
  refine b_bipush (pc := 8) C dX10_addTrain_8 bp_100 ?_
  refine b_iload_n (pc := 10) C dX10_addTrain_10 rfl 1 rfl ?_
  refine b_imul (pc := 11) C dX10_addTrain_11 ?_
  refine b_iload_n (pc := 12) C dX10_addTrain_12 rfl 2 rfl ?_
  refine b_iadd (pc := 13) C dX10_addTrain_13 ?_
  obtain ⟨hb3, hF⟩ := bif_n hF
  obtain ⟨σ1, e2, hF⟩ := blet_e hF
  refine b_iast (pc := 14) C dX10_addTrain_14 (Hh.1 _ _ (sa_10_2 hx0)) hb3 e2 ?_
  refine b_aload_n (pc := 15) C dX10_addTrain_15 rfl 0 rfl ?_
  refine b_dup (pc := 16) C dX10_addTrain_16 rfl ?_
  refine b_getI (pc := 17) C dX10_addTrain_17 fl_X10_32 (Hh.1 _ _ (shT hx0)) rfl ?_
  refine b_iconst (pc := 20) C dX10_addTrain_20 ic_1 ?_
  refine b_iadd (pc := 21) C dX10_addTrain_21 ?_
  obtain ⟨σ4, e5, hF⟩ := blet_e hF
  refine b_putI (pc := 22) C dX10_addTrain_22 fp_X10_32 (Hh.1 _ _ (shT hx0)) rfl rfl rfl e5 ?_
  refine b_iload_n (pc := 25) C dX10_addTrain_25 rfl 2 rfl ?_
  refine b_istore_n (L' := [(3, .int x2), (0, .ref x0), (1, .int x1), (2, .int x2)]) (pc := 26) C dX10_addTrain_26 rfl rfl (Hh.2.1 _ (Nat.le_of_ble_eq_true rfl)) rfl ?_
  obtain ⟨σ7, hq6, hF⟩ := bl0_e hF
  refine b_sub [1, 2, 0] rfl (e_X10_addTrain_L27 C Hh Rt bFU _ hx0 x1 x2 _ _ hq6 (fun  _ e  => ?_))
  cases e
  exact b_vret (pc := 50) C Rt dX10_addTrain_50 hF
set_option maxHeartbeats 4000000 in
set_option maxRecDepth 20000 in
theorem e_X10_addTrain {l : Launch} {G : bG} {ρ : Nat → Nat} {A : Nat → Prop} (d : Nat) (x0 : Nat) (hx0 : kT x0) (x1 : Int32) (x2 : Int32) (σ : bSto) (σ' : bSto) (hF : f_X10_addTrain x0 x1 x2 σ = some σ') : bEv l G bSHf ρ A yX10_addTrain cX10_addTrain 4 none (d + 0) [.ref x0, .int x1, .int x2] σ none σ' := b_met (d := d + 0) (by decide +kernel) (Nat.le_of_ble_eq_true rfl) rfl (fun X C Rt h1 h2 h3 => e_X10_addTrain_0 C ⟨fun o q h => by rw [h1]; exact h, fun i h => by rw [h2]; exact h, h3⟩ Rt _ hx0 _ _ _ hF)
/-! BenchColony$Timetable.findTrains -/
def f_X10_findTrains_L23 : Nat → Nat → Int32 → Int32 → bSto → Option (Nat × Int32 × bSto)
  | 0, _, _, _, _ => none
  | n + 1, x0, x1, x2, σ => (if x1 ≤ x2 then some (x0, x1, σ) else bbd (f_X10_fits x0 x1 x2 σ) (fun v4 σ3 => (if v4 = 0 then blet (x2 + (1 : Int32)) (fun x2_6 => f_X10_findTrains_L23 n x0 x1 x2_6 σ3) else (if (77 : Int32) ≤ (σ3.1 x0 6) then blet (x2 + (1 : Int32)) (fun x2_9 => f_X10_findTrains_L23 n x0 x1 x2_9 σ3) else bbv (f_X10_addTrain x0 x1 x2 σ3) (fun σ12 => blet (x2 + (1 : Int32)) (fun x2_13 => f_X10_findTrains_L23 n x0 x1 x2_13 σ12))))))
def f_X10_findTrains_L15 : Nat → Nat → Int32 → bSto → Option (bSto)
  | 0, _, _, _ => none
  | n + 1, x0, x1, σ => (if (12 : Int32) < x1 then some σ else bl2 (f_X10_findTrains_L23 bFU x0 x1 (0 : Int32) σ) (fun x0_2 x1_2 σ3 => blet (x1_2 + (1 : Int32)) (fun x1_4 => f_X10_findTrains_L15 n x0_2 x1_4 σ3)))
def f_X10_findTrains (x0 : Nat) (σ : bSto) : Option bSto := blet (bI σ x0 6 (0 : Int32)) (fun σ1 => bbv (f_J7_fill_53178 (x0 + 4) (0 : Int32) σ1) (fun σ4 => bl0 (f_X10_findTrains_L15 bFU x0 (2 : Int32) σ4) (fun σ6 => some σ6)))
set_option maxHeartbeats 4000000 in
set_option maxRecDepth 20000 in
theorem e_X10_findTrains_L23 {X : bX} {l : Launch} {G : bG} {ρ : Nat → Nat} {A : Nat → Prop} {d : Nat} {σ' : bSto} (C : bCX X cX10_findTrains RX10 (d + 1)) (Hh : bH X l G bSHf ρ A 3) (Rt : bRX X none none σ') : ∀ (n : Nat) (x0 : Nat) (hx0 : kT x0) (x1 : Int32) (x2 : Int32) (σ : bSto) (q : (Nat × Int32 × bSto)), f_X10_findTrains_L23 n x0 x1 x2 σ = some q → (∀ (x0 : Nat) (x1 : Int32) (s : bSto), q = (x0, x1, s) → kT x0 → bAJ X 58 [(0, .ref x0), (1, .int x1)] [] s) → bAJ X 23 [(0, .ref x0), (1, .int x1), (2, .int x2)] [] σ := by
  intro n
  induction n with
  | zero => intro x0 hx0 x1 x2 σ q hF; rw [f_X10_findTrains_L23] at hF; cases hF
  | succ n ih =>
    intro x0 hx0 x1 x2 σ q hF hx
    rw [f_X10_findTrains_L23] at hF
    refine b_iload_n (pc := 23) C dX10_findTrains_23 rfl 2 rfl ?_
    refine b_iload_n (pc := 24) C dX10_findTrains_24 rfl 1 rfl ?_
    refine b_icmp_ge (tgt := 58) (pc := 25) C dX10_findTrains_25 rfl (fun hc1 => ?_) (fun hc1 => ?_)
    · rw [if_pos hc1] at hF
      exact b_sub [0, 1] rfl (hx _ _ _ (Option.some.inj hF).symm hx0)
    · rw [if_neg hc1] at hF
      refine b_aload_n (pc := 28) C dX10_findTrains_28 rfl 0 rfl ?_
      refine b_iload_n (pc := 29) C dX10_findTrains_29 rfl 1 rfl ?_
      refine b_iload_n (pc := 30) C dX10_findTrains_30 rfl 2 rfl ?_
      obtain ⟨v4, σ3, hc2, hF⟩ := bbd_e hF
      refine b_cV2i (d' := (d + 0)) (pc := 31) C dX10_findTrains_31 mm_X10_41 (Hh.1 _ _ (shT hx0)) rfl (Nat.le_of_ble_eq_true rfl) (by omega) (Hh.2.2 _ _ _ _ _ _ _ _ _ (lvl_eq (by omega) (e_X10_fits (d + 0) _ hx0 x1 x2 _ _ _ hc2))) ?_
      refine b_if_eq (tgt := 52) (pc := 34) C dX10_findTrains_34 rfl (fun hc5 => ?_) (fun hc5 => ?_)
      · rw [if_pos hc5] at hF
        obtain ⟨x2_6, e7, hF⟩ := blet_e hF
        refine b_iinc (L' := [(2, .int x2_6), (0, .ref x0), (1, .int x1)]) (pc := 52) C dX10_findTrains_52 2 rfl ic_1 e7 (Hh.2.1 _ (Nat.le_of_ble_eq_true rfl)) rfl ?_
        refine b_goto (tgt := 23) (pc := 55) C dX10_findTrains_55 rfl ?_
        exact b_sub [1, 2, 0] rfl (ih _ hx0 x1 x2_6 _ _ hF hx)
      · rw [if_neg hc5] at hF
        refine b_aload_n (pc := 37) C dX10_findTrains_37 rfl 0 rfl ?_
        refine b_getI (pc := 38) C dX10_findTrains_38 fl_X10_32 (Hh.1 _ _ (shT hx0)) rfl ?_
        refine b_bipush (pc := 41) C dX10_findTrains_41 bp_77 ?_
        refine b_icmp_ge (tgt := 52) (pc := 43) C dX10_findTrains_43 rfl (fun hc8 => ?_) (fun hc8 => ?_)
        · rw [if_pos hc8] at hF
          obtain ⟨x2_9, e10, hF⟩ := blet_e hF
          refine b_iinc (L' := [(2, .int x2_9), (0, .ref x0), (1, .int x1)]) (pc := 52) C dX10_findTrains_52 2 rfl ic_1 e10 (Hh.2.1 _ (Nat.le_of_ble_eq_true rfl)) rfl ?_
          refine b_goto (tgt := 23) (pc := 55) C dX10_findTrains_55 rfl ?_
          exact b_sub [1, 2, 0] rfl (ih _ hx0 x1 x2_9 _ _ hF hx)
        · rw [if_neg hc8] at hF
          refine b_aload_n (pc := 46) C dX10_findTrains_46 rfl 0 rfl ?_
          refine b_iload_n (pc := 47) C dX10_findTrains_47 rfl 1 rfl ?_
          refine b_iload_n (pc := 48) C dX10_findTrains_48 rfl 2 rfl ?_
          obtain ⟨σ12, hc11, hF⟩ := bbv_e hF
          refine b_cV2v (d' := (d + 0)) (pc := 49) C dX10_findTrains_49 mm_X10_45 (Hh.1 _ _ (shT hx0)) rfl (Nat.le_of_ble_eq_true rfl) (by omega) (Hh.2.2 _ _ _ _ _ _ _ _ _ (lvl_eq (by omega) (e_X10_addTrain (d + 0) _ hx0 x1 x2 _ _ hc11))) ?_
          obtain ⟨x2_13, e14, hF⟩ := blet_e hF
          refine b_iinc (L' := [(2, .int x2_13), (0, .ref x0), (1, .int x1)]) (pc := 52) C dX10_findTrains_52 2 rfl ic_1 e14 (Hh.2.1 _ (Nat.le_of_ble_eq_true rfl)) rfl ?_
          refine b_goto (tgt := 23) (pc := 55) C dX10_findTrains_55 rfl ?_
          exact b_sub [1, 2, 0] rfl (ih _ hx0 x1 x2_13 _ _ hF hx)
set_option maxHeartbeats 4000000 in
set_option maxRecDepth 20000 in
theorem e_X10_findTrains_L15 {X : bX} {l : Launch} {G : bG} {ρ : Nat → Nat} {A : Nat → Prop} {d : Nat} {σ' : bSto} (C : bCX X cX10_findTrains RX10 (d + 1)) (Hh : bH X l G bSHf ρ A 3) (Rt : bRX X none none σ') : ∀ (n : Nat) (x0 : Nat) (hx0 : kT x0) (x1 : Int32) (σ : bSto) (q : (bSto)), f_X10_findTrains_L15 n x0 x1 σ = some q → (∀  (s : bSto), q = s → bAJ X 64 [] [] s) → bAJ X 15 [(0, .ref x0), (1, .int x1)] [] σ := by
  intro n
  induction n with
  | zero => intro x0 hx0 x1 σ q hF; rw [f_X10_findTrains_L15] at hF; cases hF
  | succ n ih =>
    intro x0 hx0 x1 σ q hF hx
    rw [f_X10_findTrains_L15] at hF
    refine b_iload_n (pc := 15) C dX10_findTrains_15 rfl 1 rfl ?_
    refine b_bipush (pc := 16) C dX10_findTrains_16 bp_12 ?_
    refine b_icmp_gt (tgt := 64) (pc := 18) C dX10_findTrains_18 rfl (fun hc1 => ?_) (fun hc1 => ?_)
    · rw [if_pos hc1] at hF
      exact b_sub [] rfl (hx  _ (Option.some.inj hF).symm )
    · rw [if_neg hc1] at hF
      refine b_iconst (pc := 21) C dX10_findTrains_21 ic_0 ?_
      refine b_istore_n (L' := [(2, .int (0 : Int32)), (0, .ref x0), (1, .int x1)]) (pc := 22) C dX10_findTrains_22 rfl rfl (Hh.2.1 _ (Nat.le_of_ble_eq_true rfl)) rfl ?_
      obtain ⟨x0_2, x1_2, σ3, hq2, hF⟩ := bl2_e hF
      refine b_sub [1, 2, 0] rfl (e_X10_findTrains_L23 C Hh Rt bFU _ hx0 x1 (0 : Int32) _ _ hq2 (fun _ _ _ e hx0_2 => ?_))
      cases e
      obtain ⟨x1_4, e5, hF⟩ := blet_e hF
      refine b_iinc (L' := [(1, .int x1_4), (0, .ref x0_2)]) (pc := 58) C dX10_findTrains_58 1 rfl ic_1 e5 (Hh.2.1 _ (Nat.le_of_ble_eq_true rfl)) rfl ?_
      refine b_goto (tgt := 15) (pc := 61) C dX10_findTrains_61 rfl ?_
      exact b_sub [1, 0] rfl (ih _ hx0_2 x1_4 _ _ hF hx)
set_option maxHeartbeats 4000000 in
set_option maxRecDepth 20000 in
theorem e_X10_findTrains_0 {X : bX} {l : Launch} {G : bG} {ρ : Nat → Nat} {A : Nat → Prop} {d : Nat} {σ' : bSto} (C : bCX X cX10_findTrains RX10 (d + 1)) (Hh : bH X l G bSHf ρ A 3) (Rt : bRX X none none σ') (x0 : Nat) (hx0 : kT x0) (σ : bSto) (hF : f_X10_findTrains x0 σ = some σ') : bAJ X 0 [(0, .ref x0)] [] σ := by
  rw [f_X10_findTrains] at hF
  refine b_aload_n (pc := 0) C dX10_findTrains_0 rfl 0 rfl ?_
  refine b_iconst (pc := 1) C dX10_findTrains_1 ic_0 ?_
  obtain ⟨σ1, e2, hF⟩ := blet_e hF
  refine b_putI (pc := 2) C dX10_findTrains_2 fp_X10_32 (Hh.1 _ _ (shT hx0)) rfl rfl rfl e2 ?_
  refine b_aload_n (pc := 5) C dX10_findTrains_5 rfl 0 rfl ?_
  refine b_getS (pc := 6) C dX10_findTrains_6 fl_X10_22 (Hh.1 _ _ (shT hx0)) rfl ?_
  refine b_iconst (pc := 9) C dX10_findTrains_9 ic_0 ?_
  obtain ⟨σ4, hc3, hF⟩ := bbv_e hF
  refine b_cS2v (d' := (d + 0)) (pc := 10) C dX10_findTrains_10 mm_X10_35 (Nat.le_of_ble_eq_true rfl) (by omega) (Hh.2.2 _ _ _ _ _ _ _ _ _ (lvl_eq (by omega) (e_J7_fill_53178 (d + 0) _ (ki_10_3 hx0) (0 : Int32) _ _ hc3))) ?_
  refine b_iconst (pc := 13) C dX10_findTrains_13 ic_2 ?_
  refine b_istore_n (L' := [(1, .int (2 : Int32)), (0, .ref x0)]) (pc := 14) C dX10_findTrains_14 rfl rfl (Hh.2.1 _ (Nat.le_of_ble_eq_true rfl)) rfl ?_
  obtain ⟨σ6, hq5, hF⟩ := bl0_e hF
  refine b_sub [1, 0] rfl (e_X10_findTrains_L15 C Hh Rt bFU _ hx0 (2 : Int32) _ _ hq5 (fun  _ e  => ?_))
  cases e
  exact b_vret (pc := 64) C Rt dX10_findTrains_64 hF
set_option maxHeartbeats 4000000 in
set_option maxRecDepth 20000 in
theorem e_X10_findTrains {l : Launch} {G : bG} {ρ : Nat → Nat} {A : Nat → Prop} (d : Nat) (x0 : Nat) (hx0 : kT x0) (σ : bSto) (σ' : bSto) (hF : f_X10_findTrains x0 σ = some σ') : bEv l G bSHf ρ A yX10_findTrains cX10_findTrains 3 none (d + 1) [.ref x0] σ none σ' := b_met (d := d + 1) (by decide +kernel) (Nat.le_of_ble_eq_true rfl) rfl (fun X C Rt h1 h2 h3 => e_X10_findTrains_0 C ⟨fun o q h => by rw [h1]; exact h, fun i h => by rw [h2]; exact h, h3⟩ Rt _ hx0 _ hF)
/-! BenchColony$Timetable.sureFrom -/
def f_X10_sureFrom_L12 : Nat → Nat → Int32 → bSto → Option ((Int32 × bSto) ⊕ (bSto))
  | 0, _, _, _ => none
  | n + 1, x0, x2, σ => (if (100 : Int32) ≤ x2 then some (.inr σ) else if x2 < 0 ∨ 100 ≤ x2.toNatClampNeg then none else (if (σ.1 (x0 + 4) x2.toNatClampNeg) = (σ.1 x0 6) then some (.inl (x2, σ)) else blet (x2 + (1 : Int32)) (fun x2_4 => f_X10_sureFrom_L12 n x0 x2_4 σ)))
def f_X10_sureFrom (x0 : Nat) (x1 : Int32) (σ : bSto) : Option (Int32 × bSto) := (if (σ.1 x0 6) = 0 then some ((-2 : Int32), σ) else br0 (f_X10_sureFrom_L12 bFU x0 x1 σ) (fun v s => some (v, s)) (fun σ3 => some ((-2 : Int32), σ3)))
set_option maxHeartbeats 4000000 in
set_option maxRecDepth 20000 in
theorem e_X10_sureFrom_L12 {X : bX} {l : Launch} {G : bG} {ρ : Nat → Nat} {A : Nat → Prop} {d : Nat} {r : Int32} {σ' : bSto} (C : bCX X cX10_sureFrom RX10 (d + 0)) (Hh : bH X l G bSHf ρ A 3) (Rt : bRX X (some .int) (some (.int r)) σ') : ∀ (n : Nat) (x0 : Nat) (hx0 : kT x0) (x2 : Int32) (σ : bSto) (q : ((Int32 × bSto) ⊕ (bSto))), f_X10_sureFrom_L12 n x0 x2 σ = some q → (∀ (v : Int32) (s : bSto), q = .inl (v, s) → some (v, s) = some (r, σ')) → (∀  (s : bSto), q = .inr s → bAJ X 39 [] [] s) → bAJ X 12 [(0, .ref x0), (2, .int x2)] [] σ := by
  intro n
  induction n with
  | zero => intro x0 hx0 x2 σ q hF; rw [f_X10_sureFrom_L12] at hF; cases hF
  | succ n ih =>
    intro x0 hx0 x2 σ q hF hr hx
    rw [f_X10_sureFrom_L12] at hF
    refine b_iload_n (pc := 12) C dX10_sureFrom_12 rfl 1 rfl ?_
    refine b_bipush (pc := 13) C dX10_sureFrom_13 bp_100 ?_
    refine b_icmp_ge (tgt := 39) (pc := 15) C dX10_sureFrom_15 rfl (fun hc1 => ?_) (fun hc1 => ?_)
    · rw [if_pos hc1] at hF
      exact b_sub [] rfl (hx  _ (Option.some.inj hF).symm )
    · rw [if_neg hc1] at hF
      refine b_aload_n (pc := 18) C dX10_sureFrom_18 rfl 0 rfl ?_
      refine b_getS (pc := 19) C dX10_sureFrom_19 fl_X10_22 (Hh.1 _ _ (shT hx0)) rfl ?_
      refine b_iload_n (pc := 22) C dX10_sureFrom_22 rfl 1 rfl ?_
      obtain ⟨hb2, hF⟩ := bif_n hF
      refine b_iald (pc := 23) C dX10_sureFrom_23 (Hh.1 _ _ (sa_10_3 hx0)) hb2 ?_
      refine b_aload_n (pc := 24) C dX10_sureFrom_24 rfl 0 rfl ?_
      refine b_getI (pc := 25) C dX10_sureFrom_25 fl_X10_32 (Hh.1 _ _ (shT hx0)) rfl ?_
      refine b_icmp_ne (tgt := 33) (pc := 28) C dX10_sureFrom_28 rfl (fun hc3 => ?_) (fun hc3 => ?_)
      · rw [if_neg hc3] at hF
        obtain ⟨x2_4, e5, hF⟩ := blet_e hF
        refine b_iinc (L' := [(2, .int x2_4), (0, .ref x0)]) (pc := 33) C dX10_sureFrom_33 1 rfl ic_1 e5 (Hh.2.1 _ (Nat.le_of_ble_eq_true rfl)) rfl ?_
        refine b_goto (tgt := 12) (pc := 36) C dX10_sureFrom_36 rfl ?_
        exact b_sub [1, 0] rfl (ih _ hx0 x2_4 _ _ hF hr hx)
      · rw [if_pos hc3] at hF
        refine b_iload_n (pc := 31) C dX10_sureFrom_31 rfl 1 rfl ?_
        exact b_iret (pc := 32) C Rt dX10_sureFrom_32 (hr _ _ (Option.some.inj hF).symm)
set_option maxHeartbeats 4000000 in
set_option maxRecDepth 20000 in
theorem e_X10_sureFrom_0 {X : bX} {l : Launch} {G : bG} {ρ : Nat → Nat} {A : Nat → Prop} {d : Nat} {r : Int32} {σ' : bSto} (C : bCX X cX10_sureFrom RX10 (d + 0)) (Hh : bH X l G bSHf ρ A 3) (Rt : bRX X (some .int) (some (.int r)) σ') (x0 : Nat) (hx0 : kT x0) (x1 : Int32) (σ : bSto) (hF : f_X10_sureFrom x0 x1 σ = some (r, σ')) : bAJ X 0 [(0, .ref x0), (1, .int x1)] [] σ := by
  rw [f_X10_sureFrom] at hF
  refine b_aload_n (pc := 0) C dX10_sureFrom_0 rfl 0 rfl ?_
  refine b_getI (pc := 1) C dX10_sureFrom_1 fl_X10_32 (Hh.1 _ _ (shT hx0)) rfl ?_
  refine b_if_ne (tgt := 10) (pc := 4) C dX10_sureFrom_4 rfl (fun hc1 => ?_) (fun hc1 => ?_)
  · rw [if_neg hc1] at hF
    refine b_iload_n (pc := 10) C dX10_sureFrom_10 rfl 1 rfl ?_
    refine b_istore_n (L' := [(2, .int x1), (0, .ref x0), (1, .int x1)]) (pc := 11) C dX10_sureFrom_11 rfl rfl (Hh.2.1 _ (Nat.le_of_ble_eq_true rfl)) rfl ?_
    rcases br0_e hF with ⟨v, s, hq2, hF⟩ | ⟨σ3, hq2, hF⟩
    · exact b_sub [1, 0] rfl (e_X10_sureFrom_L12 C Hh Rt bFU _ hx0 x1 _ _ hq2 (fun v s e => by cases e; exact hF) (fun  _ e => by cases e))
    · refine b_sub [1, 0] rfl (e_X10_sureFrom_L12 C Hh Rt bFU _ hx0 x1 _ _ hq2 (fun v s e => by cases e) (fun  _ e  => ?_))
      cases e
      refine b_bipush (pc := 39) C dX10_sureFrom_39 bp_m2 ?_
      exact b_iret (pc := 41) C Rt dX10_sureFrom_41 hF
  · rw [if_pos hc1] at hF
    refine b_bipush (pc := 7) C dX10_sureFrom_7 bp_m2 ?_
    exact b_iret (pc := 9) C Rt dX10_sureFrom_9 hF
set_option maxHeartbeats 4000000 in
set_option maxRecDepth 20000 in
theorem e_X10_sureFrom {l : Launch} {G : bG} {ρ : Nat → Nat} {A : Nat → Prop} (d : Nat) (x0 : Nat) (hx0 : kT x0) (x1 : Int32) (σ : bSto) (r : Int32) (σ' : bSto) (hF : f_X10_sureFrom x0 x1 σ = some (r, σ')) : bEv l G bSHf ρ A yX10_sureFrom cX10_sureFrom 3 (some .int) (d + 0) [.ref x0, .int x1] σ (some (.int r)) σ' := b_met (d := d + 0) (by decide +kernel) (Nat.le_of_ble_eq_true rfl) rfl (fun X C Rt h1 h2 h3 => e_X10_sureFrom_0 C ⟨fun o q h => by rw [h1]; exact h, fun i h => by rw [h2]; exact h, h3⟩ Rt _ hx0 _ _ hF)
/-! BenchColony$Timetable.mostLeftBy -/
def f_X10_mostLeftBy (x0 : Nat) (x1 : Int32) (σ : bSto) : Option (Int32 × bSto) := if x1 < 0 ∨ 100 ≤ x1.toNatClampNeg then none else if x1 < 0 ∨ 100 ≤ x1.toNatClampNeg then none else bbd (f_J9_max_7cf53 (σ.1 (x0 + 4) x1.toNatClampNeg) ((σ.1 x0 6) - (σ.1 (x0 + 4) x1.toNatClampNeg)) σ) (fun v5 σ4 => some (v5, σ4))
set_option maxHeartbeats 4000000 in
set_option maxRecDepth 20000 in
theorem e_X10_mostLeftBy_0 {X : bX} {l : Launch} {G : bG} {ρ : Nat → Nat} {A : Nat → Prop} {d : Nat} {r : Int32} {σ' : bSto} (C : bCX X cX10_mostLeftBy RX10 (d + 1)) (Hh : bH X l G bSHf ρ A 2) (Rt : bRX X (some .int) (some (.int r)) σ') (x0 : Nat) (hx0 : kT x0) (x1 : Int32) (σ : bSto) (hF : f_X10_mostLeftBy x0 x1 σ = some (r, σ')) : bAJ X 0 [(0, .ref x0), (1, .int x1)] [] σ := by
  rw [f_X10_mostLeftBy] at hF
  refine b_aload_n (pc := 0) C dX10_mostLeftBy_0 rfl 0 rfl ?_
  refine b_getS (pc := 1) C dX10_mostLeftBy_1 fl_X10_22 (Hh.1 _ _ (shT hx0)) rfl ?_
  refine b_iload_n (pc := 4) C dX10_mostLeftBy_4 rfl 1 rfl ?_
  obtain ⟨hb1, hF⟩ := bif_n hF
  refine b_iald (pc := 5) C dX10_mostLeftBy_5 (Hh.1 _ _ (sa_10_3 hx0)) hb1 ?_
  refine b_aload_n (pc := 6) C dX10_mostLeftBy_6 rfl 0 rfl ?_
  refine b_getI (pc := 7) C dX10_mostLeftBy_7 fl_X10_32 (Hh.1 _ _ (shT hx0)) rfl ?_
  refine b_aload_n (pc := 10) C dX10_mostLeftBy_10 rfl 0 rfl ?_
  refine b_getS (pc := 11) C dX10_mostLeftBy_11 fl_X10_22 (Hh.1 _ _ (shT hx0)) rfl ?_
  refine b_iload_n (pc := 14) C dX10_mostLeftBy_14 rfl 1 rfl ?_
  obtain ⟨hb2, hF⟩ := bif_n hF
  refine b_iald (pc := 15) C dX10_mostLeftBy_15 (Hh.1 _ _ (sa_10_3 hx0)) hb2 ?_
  refine b_isub (pc := 16) C dX10_mostLeftBy_16 ?_
  obtain ⟨v5, σ4, hc3, hF⟩ := bbd_e hF
  refine b_cS2i (d' := (d + 0)) (pc := 17) C dX10_mostLeftBy_17 mm_X10_49 (Nat.le_of_ble_eq_true rfl) (by omega) (Hh.2.2 _ _ _ _ _ _ _ _ _ (lvl_eq (by omega) (e_J9_max_7cf53 (d + 0) (σ.1 (x0 + 4) x1.toNatClampNeg) ((σ.1 x0 6) - (σ.1 (x0 + 4) x1.toNatClampNeg)) _ _ _ hc3))) ?_
  exact b_iret (pc := 20) C Rt dX10_mostLeftBy_20 hF
set_option maxHeartbeats 4000000 in
set_option maxRecDepth 20000 in
theorem e_X10_mostLeftBy {l : Launch} {G : bG} {ρ : Nat → Nat} {A : Nat → Prop} (d : Nat) (x0 : Nat) (hx0 : kT x0) (x1 : Int32) (σ : bSto) (r : Int32) (σ' : bSto) (hF : f_X10_mostLeftBy x0 x1 σ = some (r, σ')) : bEv l G bSHf ρ A yX10_mostLeftBy cX10_mostLeftBy 2 (some .int) (d + 1) [.ref x0, .int x1] σ (some (.int r)) σ' := b_met (d := d + 1) (by decide +kernel) (Nat.le_of_ble_eq_true rfl) rfl (fun X C Rt h1 h2 h3 => e_X10_mostLeftBy_0 C ⟨fun o q h => by rw [h1]; exact h, fun i h => by rw [h2]; exact h, h3⟩ Rt _ hx0 _ _ hF)
/-! BenchColony$Timetable.bestHour -/
def f_X10_bestHour_L14 : Nat → Nat → Int32 → Int32 → bSto → Option (Int32 × bSto)
  | 0, _, _, _, _ => none
  | n + 1, x0, x1, x2, σ => (if (100 : Int32) ≤ x2 then some (x1, σ) else bbd (f_X10_mostLeftBy x0 x2 σ) (fun v4 σ3 => bbd (f_X10_mostLeftBy x0 x1 σ3) (fun v7 σ6 => (if v7 ≤ v4 then blet (x2 + (1 : Int32)) (fun x2_9 => f_X10_bestHour_L14 n x0 x1 x2_9 σ6) else blet (x2 + (1 : Int32)) (fun x2_11 => f_X10_bestHour_L14 n x0 x2 x2_11 σ6)))))
def f_X10_bestHour (x0 : Nat) (σ : bSto) : Option (Int32 × bSto) := (if (σ.1 x0 6) = 0 then some ((-2 : Int32), σ) else bl1 (f_X10_bestHour_L14 bFU x0 (0 : Int32) (1 : Int32) σ) (fun x1_2 σ3 => some (x1_2, σ3)))
set_option maxHeartbeats 4000000 in
set_option maxRecDepth 20000 in
theorem e_X10_bestHour_L14 {X : bX} {l : Launch} {G : bG} {ρ : Nat → Nat} {A : Nat → Prop} {d : Nat} {r : Int32} {σ' : bSto} (C : bCX X cX10_bestHour RX10 (d + 2)) (Hh : bH X l G bSHf ρ A 3) (Rt : bRX X (some .int) (some (.int r)) σ') : ∀ (n : Nat) (x0 : Nat) (hx0 : kT x0) (x1 : Int32) (x2 : Int32) (σ : bSto) (q : (Int32 × bSto)), f_X10_bestHour_L14 n x0 x1 x2 σ = some q → (∀ (x1 : Int32) (s : bSto), q = (x1, s) → bAJ X 41 [(1, .int x1)] [] s) → bAJ X 14 [(0, .ref x0), (1, .int x1), (2, .int x2)] [] σ := by
  intro n
  induction n with
  | zero => intro x0 hx0 x1 x2 σ q hF; rw [f_X10_bestHour_L14] at hF; cases hF
  | succ n ih =>
    intro x0 hx0 x1 x2 σ q hF hx
    rw [f_X10_bestHour_L14] at hF
    refine b_iload_n (pc := 14) C dX10_bestHour_14 rfl 2 rfl ?_
    refine b_bipush (pc := 15) C dX10_bestHour_15 bp_100 ?_
    refine b_icmp_ge (tgt := 41) (pc := 17) C dX10_bestHour_17 rfl (fun hc1 => ?_) (fun hc1 => ?_)
    · rw [if_pos hc1] at hF
      exact b_sub [1] rfl (hx _ _ (Option.some.inj hF).symm )
    · rw [if_neg hc1] at hF
      refine b_aload_n (pc := 20) C dX10_bestHour_20 rfl 0 rfl ?_
      refine b_iload_n (pc := 21) C dX10_bestHour_21 rfl 2 rfl ?_
      obtain ⟨v4, σ3, hc2, hF⟩ := bbd_e hF
      refine b_cV1i (d' := (d + 1)) (pc := 22) C dX10_bestHour_22 mm_X10_55 (Hh.1 _ _ (shT hx0)) rfl (Nat.le_of_ble_eq_true rfl) (by omega) (Hh.2.2 _ _ _ _ _ _ _ _ _ (lvl_eq (by omega) (e_X10_mostLeftBy (d + 0) _ hx0 x2 _ _ _ hc2))) ?_
      refine b_aload_n (pc := 25) C dX10_bestHour_25 rfl 0 rfl ?_
      refine b_iload_n (pc := 26) C dX10_bestHour_26 rfl 1 rfl ?_
      obtain ⟨v7, σ6, hc5, hF⟩ := bbd_e hF
      refine b_cV1i (d' := (d + 1)) (pc := 27) C dX10_bestHour_27 mm_X10_55 (Hh.1 _ _ (shT hx0)) rfl (Nat.le_of_ble_eq_true rfl) (by omega) (Hh.2.2 _ _ _ _ _ _ _ _ _ (lvl_eq (by omega) (e_X10_mostLeftBy (d + 0) _ hx0 x1 _ _ _ hc5))) ?_
      refine b_icmp_ge (tgt := 35) (pc := 30) C dX10_bestHour_30 rfl (fun hc8 => ?_) (fun hc8 => ?_)
      · rw [if_pos hc8] at hF
        obtain ⟨x2_9, e10, hF⟩ := blet_e hF
        refine b_iinc (L' := [(2, .int x2_9), (0, .ref x0), (1, .int x1)]) (pc := 35) C dX10_bestHour_35 2 rfl ic_1 e10 (Hh.2.1 _ (Nat.le_of_ble_eq_true rfl)) rfl ?_
        refine b_goto (tgt := 14) (pc := 38) C dX10_bestHour_38 rfl ?_
        exact b_sub [1, 2, 0] rfl (ih _ hx0 x1 x2_9 _ _ hF hx)
      · rw [if_neg hc8] at hF
        refine b_iload_n (pc := 33) C dX10_bestHour_33 rfl 2 rfl ?_
        refine b_istore_n (L' := [(1, .int x2), (0, .ref x0), (2, .int x2)]) (pc := 34) C dX10_bestHour_34 rfl rfl (Hh.2.1 _ (Nat.le_of_ble_eq_true rfl)) rfl ?_
        obtain ⟨x2_11, e12, hF⟩ := blet_e hF
        refine b_iinc (L' := [(2, .int x2_11), (1, .int x2), (0, .ref x0)]) (pc := 35) C dX10_bestHour_35 2 rfl ic_1 e12 (Hh.2.1 _ (Nat.le_of_ble_eq_true rfl)) rfl ?_
        refine b_goto (tgt := 14) (pc := 38) C dX10_bestHour_38 rfl ?_
        exact b_sub [2, 1, 0] rfl (ih _ hx0 x2 x2_11 _ _ hF hx)
set_option maxHeartbeats 4000000 in
set_option maxRecDepth 20000 in
theorem e_X10_bestHour_0 {X : bX} {l : Launch} {G : bG} {ρ : Nat → Nat} {A : Nat → Prop} {d : Nat} {r : Int32} {σ' : bSto} (C : bCX X cX10_bestHour RX10 (d + 2)) (Hh : bH X l G bSHf ρ A 3) (Rt : bRX X (some .int) (some (.int r)) σ') (x0 : Nat) (hx0 : kT x0) (σ : bSto) (hF : f_X10_bestHour x0 σ = some (r, σ')) : bAJ X 0 [(0, .ref x0)] [] σ := by
  rw [f_X10_bestHour] at hF
  refine b_aload_n (pc := 0) C dX10_bestHour_0 rfl 0 rfl ?_
  refine b_getI (pc := 1) C dX10_bestHour_1 fl_X10_32 (Hh.1 _ _ (shT hx0)) rfl ?_
  refine b_if_ne (tgt := 10) (pc := 4) C dX10_bestHour_4 rfl (fun hc1 => ?_) (fun hc1 => ?_)
  · rw [if_neg hc1] at hF
    refine b_iconst (pc := 10) C dX10_bestHour_10 ic_0 ?_
    refine b_istore_n (L' := [(1, .int (0 : Int32)), (0, .ref x0)]) (pc := 11) C dX10_bestHour_11 rfl rfl (Hh.2.1 _ (Nat.le_of_ble_eq_true rfl)) rfl ?_
    refine b_iconst (pc := 12) C dX10_bestHour_12 ic_1 ?_
    refine b_istore_n (L' := [(2, .int (1 : Int32)), (1, .int (0 : Int32)), (0, .ref x0)]) (pc := 13) C dX10_bestHour_13 rfl rfl (Hh.2.1 _ (Nat.le_of_ble_eq_true rfl)) rfl ?_
    obtain ⟨x1_2, σ3, hq2, hF⟩ := bl1_e hF
    refine b_sub [2, 1, 0] rfl (e_X10_bestHour_L14 C Hh Rt bFU _ hx0 (0 : Int32) (1 : Int32) _ _ hq2 (fun _ _ e  => ?_))
    cases e
    refine b_iload_n (pc := 41) C dX10_bestHour_41 rfl 0 rfl ?_
    exact b_iret (pc := 42) C Rt dX10_bestHour_42 hF
  · rw [if_pos hc1] at hF
    refine b_bipush (pc := 7) C dX10_bestHour_7 bp_m2 ?_
    exact b_iret (pc := 9) C Rt dX10_bestHour_9 hF
set_option maxHeartbeats 4000000 in
set_option maxRecDepth 20000 in
theorem e_X10_bestHour {l : Launch} {G : bG} {ρ : Nat → Nat} {A : Nat → Prop} (d : Nat) (x0 : Nat) (hx0 : kT x0) (σ : bSto) (r : Int32) (σ' : bSto) (hF : f_X10_bestHour x0 σ = some (r, σ')) : bEv l G bSHf ρ A yX10_bestHour cX10_bestHour 3 (some .int) (d + 2) [.ref x0] σ (some (.int r)) σ' := b_met (d := d + 2) (by decide +kernel) (Nat.le_of_ble_eq_true rfl) rfl (fun X C Rt h1 h2 h3 => e_X10_bestHour_0 C ⟨fun o q h => by rw [h1]; exact h, fun i h => by rw [h2]; exact h, h3⟩ Rt _ hx0 _ hF)
/-! BenchColony$Past.keepAct -/
def f_X6_keepAct (x1 : Nat) (σ : bSto) : Option bSto := if (σ.1 36 2) < 0 ∨ 16 ≤ (σ.1 36 2).toNatClampNeg then none else bbv (f_X4_writeTo x1 (38 + (σ.1 36 2).toNatClampNeg) σ) (fun σ3 => blet (bI σ3 36 2 (((σ3.1 36 2) + (1 : Int32)) - ((σ3.1 36 2) + (1 : Int32)) / (16 : Int32) * (16 : Int32))) (fun σ4 => bbd (f_J9_min_7cf53 ((σ4.1 36 3) + (1 : Int32)) (16 : Int32) σ4) (fun v8 σ7 => blet (bI σ7 36 3 v8) (fun σ9 => some σ9))))
set_option maxHeartbeats 4000000 in
set_option maxRecDepth 20000 in
theorem e_X6_keepAct_0 {X : bX} {l : Launch} {G : bG} {ρ : Nat → Nat} {A : Nat → Prop} {d : Nat} {σ' : bSto} (C : bCX X cX6_keepAct RX6 (d + 1)) (Hh : bH X l G bSHf ρ A 2) (Rt : bRX X none none σ') (x1 : Nat) (hx1 : kN x1) (σ : bSto) (hF : f_X6_keepAct x1 σ = some σ') : bAJ X 0 [(0, .ref 36), (1, .ref x1)] [] σ := by
  rw [f_X6_keepAct] at hF
  refine b_aload_n (pc := 0) C dX6_keepAct_0 rfl 1 rfl ?_
  refine b_aload_n (pc := 1) C dX6_keepAct_1 rfl 0 rfl ?_
  refine b_getS (pc := 2) C dX6_keepAct_2 fl_X6_13 (Hh.1 _ _ sh_36) rfl ?_
  refine b_aload_n (pc := 5) C dX6_keepAct_5 rfl 0 rfl ?_
  refine b_getI (pc := 6) C dX6_keepAct_6 fl_X6_21 (Hh.1 _ _ sh_36) rfl ?_
  obtain ⟨hb1, hF⟩ := bif_n hF
  refine b_aald (pc := 9) C dX6_keepAct_9 (Hh.1 _ _ sh_37) hb1 ?_
  obtain ⟨σ3, hc2, hF⟩ := bbv_e hF
  refine b_cV1v (d' := (d + 0)) (pc := 10) C dX6_keepAct_10 mm_X6_31 (Hh.1 _ _ (shN hx1)) rfl (Nat.le_of_ble_eq_true rfl) (by omega) (Hh.2.2 _ _ _ _ _ _ _ _ _ (lvl_eq (by omega) (e_X4_writeTo (d + 0) _ hx1 _ (kaa_37 hb1) _ _ hc2))) ?_
  refine b_aload_n (pc := 13) C dX6_keepAct_13 rfl 0 rfl ?_
  refine b_aload_n (pc := 14) C dX6_keepAct_14 rfl 0 rfl ?_
  refine b_getI (pc := 15) C dX6_keepAct_15 fl_X6_21 (Hh.1 _ _ sh_36) rfl ?_
  refine b_iconst (pc := 18) C dX6_keepAct_18 ic_1 ?_
  refine b_iadd (pc := 19) C dX6_keepAct_19 ?_
  refine b_bipush (pc := 20) C dX6_keepAct_20 bp_16 ?_
  refine b_irem (pc := 22) C dX6_keepAct_22 (by decide) ?_
  obtain ⟨σ4, e5, hF⟩ := blet_e hF
  refine b_putI (pc := 23) C dX6_keepAct_23 fp_X6_21 (Hh.1 _ _ sh_36) rfl rfl rfl e5 ?_
  refine b_aload_n (pc := 26) C dX6_keepAct_26 rfl 0 rfl ?_
  refine b_aload_n (pc := 27) C dX6_keepAct_27 rfl 0 rfl ?_
  refine b_getI (pc := 28) C dX6_keepAct_28 fl_X6_25 (Hh.1 _ _ sh_36) rfl ?_
  refine b_iconst (pc := 31) C dX6_keepAct_31 ic_1 ?_
  refine b_iadd (pc := 32) C dX6_keepAct_32 ?_
  refine b_bipush (pc := 33) C dX6_keepAct_33 bp_16 ?_
  obtain ⟨v8, σ7, hc6, hF⟩ := bbd_e hF
  refine b_cS2i (d' := (d + 0)) (pc := 35) C dX6_keepAct_35 mm_X6_35 (Nat.le_of_ble_eq_true rfl) (by omega) (Hh.2.2 _ _ _ _ _ _ _ _ _ (lvl_eq (by omega) (e_J9_min_7cf53 (d + 0) ((σ4.1 36 3) + (1 : Int32)) (16 : Int32) _ _ _ hc6))) ?_
  obtain ⟨σ9, e10, hF⟩ := blet_e hF
  refine b_putI (pc := 38) C dX6_keepAct_38 fp_X6_25 (Hh.1 _ _ sh_36) rfl rfl rfl e10 ?_
  exact b_vret (pc := 41) C Rt dX6_keepAct_41 hF
set_option maxHeartbeats 4000000 in
set_option maxRecDepth 20000 in
theorem e_X6_keepAct {l : Launch} {G : bG} {ρ : Nat → Nat} {A : Nat → Prop} (d : Nat) (x1 : Nat) (hx1 : kN x1) (σ : bSto) (σ' : bSto) (hF : f_X6_keepAct x1 σ = some σ') : bEv l G bSHf ρ A yX6_keepAct cX6_keepAct 2 none (d + 1) [.ref 36, .ref x1] σ none σ' := b_met (d := d + 1) (by decide +kernel) (Nat.le_of_ble_eq_true rfl) rfl (fun X C Rt h1 h2 h3 => e_X6_keepAct_0 C ⟨fun o q h => by rw [h1]; exact h, fun i h => by rw [h2]; exact h, h3⟩ Rt _ hx1 _ hF)
/-! BenchColony$Past.takeBack -/
def f_X6_takeBack (x1 : Nat) (σ : bSto) : Option bSto := (if (σ.1 36 3) ≤ 0 then some σ else blet (bI σ 36 2 ((((σ.1 36 2) + (16 : Int32)) - (1 : Int32)) - (((σ.1 36 2) + (16 : Int32)) - (1 : Int32)) / (16 : Int32) * (16 : Int32))) (fun σ2 => blet (bI σ2 36 3 ((σ2.1 36 3) - (1 : Int32))) (fun σ4 => if (σ4.1 36 2) < 0 ∨ 16 ≤ (σ4.1 36 2).toNatClampNeg then none else bbv (f_X4_readFrom x1 (38 + (σ4.1 36 2).toNatClampNeg) σ4) (fun σ8 => some σ8))))
set_option maxHeartbeats 4000000 in
set_option maxRecDepth 20000 in
theorem e_X6_takeBack_0 {X : bX} {l : Launch} {G : bG} {ρ : Nat → Nat} {A : Nat → Prop} {d : Nat} {σ' : bSto} (C : bCX X cX6_takeBack RX6 (d + 1)) (Hh : bH X l G bSHf ρ A 2) (Rt : bRX X none none σ') (x1 : Nat) (hx1 : kN x1) (σ : bSto) (hF : f_X6_takeBack x1 σ = some σ') : bAJ X 0 [(0, .ref 36), (1, .ref x1)] [] σ := by
  rw [f_X6_takeBack] at hF
  refine b_aload_n (pc := 0) C dX6_takeBack_0 rfl 0 rfl ?_
  refine b_getI (pc := 1) C dX6_takeBack_1 fl_X6_25 (Hh.1 _ _ sh_36) rfl ?_
  refine b_if_le (tgt := 46) (pc := 4) C dX6_takeBack_4 rfl (fun hc1 => ?_) (fun hc1 => ?_)
  · rw [if_pos hc1] at hF
    exact b_vret (pc := 46) C Rt dX6_takeBack_46 hF
  · rw [if_neg hc1] at hF
    refine b_aload_n (pc := 7) C dX6_takeBack_7 rfl 0 rfl ?_
    refine b_aload_n (pc := 8) C dX6_takeBack_8 rfl 0 rfl ?_
    refine b_getI (pc := 9) C dX6_takeBack_9 fl_X6_21 (Hh.1 _ _ sh_36) rfl ?_
    refine b_bipush (pc := 12) C dX6_takeBack_12 bp_16 ?_
    refine b_iadd (pc := 14) C dX6_takeBack_14 ?_
    refine b_iconst (pc := 15) C dX6_takeBack_15 ic_1 ?_
    refine b_isub (pc := 16) C dX6_takeBack_16 ?_
    refine b_bipush (pc := 17) C dX6_takeBack_17 bp_16 ?_
    refine b_irem (pc := 19) C dX6_takeBack_19 (by decide) ?_
    obtain ⟨σ2, e3, hF⟩ := blet_e hF
    refine b_putI (pc := 20) C dX6_takeBack_20 fp_X6_21 (Hh.1 _ _ sh_36) rfl rfl rfl e3 ?_
    refine b_aload_n (pc := 23) C dX6_takeBack_23 rfl 0 rfl ?_
    refine b_dup (pc := 24) C dX6_takeBack_24 rfl ?_
    refine b_getI (pc := 25) C dX6_takeBack_25 fl_X6_25 (Hh.1 _ _ sh_36) rfl ?_
    refine b_iconst (pc := 28) C dX6_takeBack_28 ic_1 ?_
    refine b_isub (pc := 29) C dX6_takeBack_29 ?_
    obtain ⟨σ4, e5, hF⟩ := blet_e hF
    refine b_putI (pc := 30) C dX6_takeBack_30 fp_X6_25 (Hh.1 _ _ sh_36) rfl rfl rfl e5 ?_
    refine b_aload_n (pc := 33) C dX6_takeBack_33 rfl 1 rfl ?_
    refine b_aload_n (pc := 34) C dX6_takeBack_34 rfl 0 rfl ?_
    refine b_getS (pc := 35) C dX6_takeBack_35 fl_X6_13 (Hh.1 _ _ sh_36) rfl ?_
    refine b_aload_n (pc := 38) C dX6_takeBack_38 rfl 0 rfl ?_
    refine b_getI (pc := 39) C dX6_takeBack_39 fl_X6_21 (Hh.1 _ _ sh_36) rfl ?_
    obtain ⟨hb6, hF⟩ := bif_n hF
    refine b_aald (pc := 42) C dX6_takeBack_42 (Hh.1 _ _ sh_37) hb6 ?_
    obtain ⟨σ8, hc7, hF⟩ := bbv_e hF
    refine b_cV1v (d' := (d + 0)) (pc := 43) C dX6_takeBack_43 mm_X6_41 (Hh.1 _ _ (shN hx1)) rfl (Nat.le_of_ble_eq_true rfl) (by omega) (Hh.2.2 _ _ _ _ _ _ _ _ _ (lvl_eq (by omega) (e_X4_readFrom (d + 0) _ hx1 _ (kaa_37 hb6) _ _ hc7))) ?_
    exact b_vret (pc := 46) C Rt dX6_takeBack_46 hF
set_option maxHeartbeats 4000000 in
set_option maxRecDepth 20000 in
theorem e_X6_takeBack {l : Launch} {G : bG} {ρ : Nat → Nat} {A : Nat → Prop} (d : Nat) (x1 : Nat) (hx1 : kN x1) (σ : bSto) (σ' : bSto) (hF : f_X6_takeBack x1 σ = some σ') : bEv l G bSHf ρ A yX6_takeBack cX6_takeBack 2 none (d + 1) [.ref 36, .ref x1] σ none σ' := b_met (d := d + 1) (by decide +kernel) (Nat.le_of_ble_eq_true rfl) rfl (fun X C Rt h1 h2 h3 => e_X6_takeBack_0 C ⟨fun o q h => by rw [h1]; exact h, fun i h => by rw [h2]; exact h, h3⟩ Rt _ hx1 _ hF)
/-! BenchColony$Past.keepImage -/
def f_X6_keepImage (x1 : Nat) (σ : bSto) : Option (Int32 × bSto) := (if (σ.1 36 4) < (3 : Int32) then if (σ.1 36 4) < 0 ∨ 3 ≤ (σ.1 36 4).toNatClampNeg then none else bbv (f_X4_writeTo x1 (55 + (σ.1 36 4).toNatClampNeg) σ) (fun σ4 => blet (bI σ4 36 4 ((σ4.1 36 4) + (1 : Int32))) (fun σ5 => some (((σ5.1 36 4) - (1 : Int32)), σ5))) else some ((-1 : Int32), σ))
set_option maxHeartbeats 4000000 in
set_option maxRecDepth 20000 in
theorem e_X6_keepImage_0 {X : bX} {l : Launch} {G : bG} {ρ : Nat → Nat} {A : Nat → Prop} {d : Nat} {r : Int32} {σ' : bSto} (C : bCX X cX6_keepImage RX6 (d + 1)) (Hh : bH X l G bSHf ρ A 2) (Rt : bRX X (some .int) (some (.int r)) σ') (x1 : Nat) (hx1 : kN x1) (σ : bSto) (hF : f_X6_keepImage x1 σ = some (r, σ')) : bAJ X 0 [(0, .ref 36), (1, .ref x1)] [] σ := by
  rw [f_X6_keepImage] at hF
  refine b_aload_n (pc := 0) C dX6_keepImage_0 rfl 0 rfl ?_
  refine b_getI (pc := 1) C dX6_keepImage_1 fl_X6_28 (Hh.1 _ _ sh_36) rfl ?_
  refine b_iconst (pc := 4) C dX6_keepImage_4 ic_3 ?_
  refine b_icmp_lt (tgt := 10) (pc := 5) C dX6_keepImage_5 rfl (fun hc1 => ?_) (fun hc1 => ?_)
  · rw [if_pos hc1] at hF
    refine b_aload_n (pc := 10) C dX6_keepImage_10 rfl 1 rfl ?_
    refine b_aload_n (pc := 11) C dX6_keepImage_11 rfl 0 rfl ?_
    refine b_getS (pc := 12) C dX6_keepImage_12 fl_X6_18 (Hh.1 _ _ sh_36) rfl ?_
    refine b_aload_n (pc := 15) C dX6_keepImage_15 rfl 0 rfl ?_
    refine b_getI (pc := 16) C dX6_keepImage_16 fl_X6_28 (Hh.1 _ _ sh_36) rfl ?_
    obtain ⟨hb2, hF⟩ := bif_n hF
    refine b_aald (pc := 19) C dX6_keepImage_19 (Hh.1 _ _ sh_54) hb2 ?_
    obtain ⟨σ4, hc3, hF⟩ := bbv_e hF
    refine b_cV1v (d' := (d + 0)) (pc := 20) C dX6_keepImage_20 mm_X6_31 (Hh.1 _ _ (shN hx1)) rfl (Nat.le_of_ble_eq_true rfl) (by omega) (Hh.2.2 _ _ _ _ _ _ _ _ _ (lvl_eq (by omega) (e_X4_writeTo (d + 0) _ hx1 _ (kaa_54 hb2) _ _ hc3))) ?_
    refine b_aload_n (pc := 23) C dX6_keepImage_23 rfl 0 rfl ?_
    refine b_dup (pc := 24) C dX6_keepImage_24 rfl ?_
    refine b_getI (pc := 25) C dX6_keepImage_25 fl_X6_28 (Hh.1 _ _ sh_36) rfl ?_
    refine b_iconst (pc := 28) C dX6_keepImage_28 ic_1 ?_
    refine b_iadd (pc := 29) C dX6_keepImage_29 ?_
    obtain ⟨σ5, e6, hF⟩ := blet_e hF
    refine b_putI (pc := 30) C dX6_keepImage_30 fp_X6_28 (Hh.1 _ _ sh_36) rfl rfl rfl e6 ?_
    refine b_aload_n (pc := 33) C dX6_keepImage_33 rfl 0 rfl ?_
    refine b_getI (pc := 34) C dX6_keepImage_34 fl_X6_28 (Hh.1 _ _ sh_36) rfl ?_
    refine b_iconst (pc := 37) C dX6_keepImage_37 ic_1 ?_
    refine b_isub (pc := 38) C dX6_keepImage_38 ?_
    exact b_iret (pc := 39) C Rt dX6_keepImage_39 hF
  · rw [if_neg hc1] at hF
    refine b_iconst (pc := 8) C dX6_keepImage_8 ic_m1 ?_
    exact b_iret (pc := 9) C Rt dX6_keepImage_9 hF
set_option maxHeartbeats 4000000 in
set_option maxRecDepth 20000 in
theorem e_X6_keepImage {l : Launch} {G : bG} {ρ : Nat → Nat} {A : Nat → Prop} (d : Nat) (x1 : Nat) (hx1 : kN x1) (σ : bSto) (r : Int32) (σ' : bSto) (hF : f_X6_keepImage x1 σ = some (r, σ')) : bEv l G bSHf ρ A yX6_keepImage cX6_keepImage 2 (some .int) (d + 1) [.ref 36, .ref x1] σ (some (.int r)) σ' := b_met (d := d + 1) (by decide +kernel) (Nat.le_of_ble_eq_true rfl) rfl (fun X C Rt h1 h2 h3 => e_X6_keepImage_0 C ⟨fun o q h => by rw [h1]; exact h, fun i h => by rw [h2]; exact h, h3⟩ Rt _ hx1 _ hF)
/-! BenchColony$Past.goTo -/
def f_X6_goTo (x1 : Int32) (x2 : Nat) (σ : bSto) : Option bSto := (if x1 < 0 then some σ else (if (σ.1 36 4) ≤ x1 then some σ else if x1 < 0 ∨ 3 ≤ x1.toNatClampNeg then none else bbv (f_X4_readFrom x2 (55 + x1.toNatClampNeg) σ) (fun σ5 => blet (bI σ5 36 2 (0 : Int32)) (fun σ6 => blet (bI σ6 36 3 (0 : Int32)) (fun σ8 => some σ8)))))
set_option maxHeartbeats 4000000 in
set_option maxRecDepth 20000 in
theorem e_X6_goTo_0 {X : bX} {l : Launch} {G : bG} {ρ : Nat → Nat} {A : Nat → Prop} {d : Nat} {σ' : bSto} (C : bCX X cX6_goTo RX6 (d + 1)) (Hh : bH X l G bSHf ρ A 3) (Rt : bRX X none none σ') (x1 : Int32) (x2 : Nat) (hx2 : kN x2) (σ : bSto) (hF : f_X6_goTo x1 x2 σ = some σ') : bAJ X 0 [(0, .ref 36), (1, .int x1), (2, .ref x2)] [] σ := by
  rw [f_X6_goTo] at hF
  refine b_iload_n (pc := 0) C dX6_goTo_0 rfl 1 rfl ?_
  refine b_if_lt (tgt := 32) (pc := 1) C dX6_goTo_1 rfl (fun hc1 => ?_) (fun hc1 => ?_)
  · rw [if_pos hc1] at hF
    exact b_vret (pc := 32) C Rt dX6_goTo_32 hF
  · rw [if_neg hc1] at hF
    refine b_iload_n (pc := 4) C dX6_goTo_4 rfl 1 rfl ?_
    refine b_aload_n (pc := 5) C dX6_goTo_5 rfl 0 rfl ?_
    refine b_getI (pc := 6) C dX6_goTo_6 fl_X6_28 (Hh.1 _ _ sh_36) rfl ?_
    refine b_icmp_ge (tgt := 32) (pc := 9) C dX6_goTo_9 rfl (fun hc2 => ?_) (fun hc2 => ?_)
    · rw [if_pos hc2] at hF
      exact b_vret (pc := 32) C Rt dX6_goTo_32 hF
    · rw [if_neg hc2] at hF
      refine b_aload_n (pc := 12) C dX6_goTo_12 rfl 2 rfl ?_
      refine b_aload_n (pc := 13) C dX6_goTo_13 rfl 0 rfl ?_
      refine b_getS (pc := 14) C dX6_goTo_14 fl_X6_18 (Hh.1 _ _ sh_36) rfl ?_
      refine b_iload_n (pc := 17) C dX6_goTo_17 rfl 1 rfl ?_
      obtain ⟨hb3, hF⟩ := bif_n hF
      refine b_aald (pc := 18) C dX6_goTo_18 (Hh.1 _ _ sh_54) hb3 ?_
      obtain ⟨σ5, hc4, hF⟩ := bbv_e hF
      refine b_cV1v (d' := (d + 0)) (pc := 19) C dX6_goTo_19 mm_X6_41 (Hh.1 _ _ (shN hx2)) rfl (Nat.le_of_ble_eq_true rfl) (by omega) (Hh.2.2 _ _ _ _ _ _ _ _ _ (lvl_eq (by omega) (e_X4_readFrom (d + 0) _ hx2 _ (kaa_54 hb3) _ _ hc4))) ?_
      refine b_aload_n (pc := 22) C dX6_goTo_22 rfl 0 rfl ?_
      refine b_iconst (pc := 23) C dX6_goTo_23 ic_0 ?_
      obtain ⟨σ6, e7, hF⟩ := blet_e hF
      refine b_putI (pc := 24) C dX6_goTo_24 fp_X6_21 (Hh.1 _ _ sh_36) rfl rfl rfl e7 ?_
      refine b_aload_n (pc := 27) C dX6_goTo_27 rfl 0 rfl ?_
      refine b_iconst (pc := 28) C dX6_goTo_28 ic_0 ?_
      obtain ⟨σ8, e9, hF⟩ := blet_e hF
      refine b_putI (pc := 29) C dX6_goTo_29 fp_X6_25 (Hh.1 _ _ sh_36) rfl rfl rfl e9 ?_
      exact b_vret (pc := 32) C Rt dX6_goTo_32 hF
set_option maxHeartbeats 4000000 in
set_option maxRecDepth 20000 in
theorem e_X6_goTo {l : Launch} {G : bG} {ρ : Nat → Nat} {A : Nat → Prop} (d : Nat) (x1 : Int32) (x2 : Nat) (hx2 : kN x2) (σ : bSto) (σ' : bSto) (hF : f_X6_goTo x1 x2 σ = some σ') : bEv l G bSHf ρ A yX6_goTo cX6_goTo 3 none (d + 1) [.ref 36, .int x1, .ref x2] σ none σ' := b_met (d := d + 1) (by decide +kernel) (Nat.le_of_ble_eq_true rfl) rfl (fun X C Rt h1 h2 h3 => e_X6_goTo_0 C ⟨fun o q h => by rw [h1]; exact h, fun i h => by rw [h2]; exact h, h3⟩ Rt _ _ hx2 _ hF)
/-! BenchColony$Timetable.quietCount -/
def f_X10_quietCount (x0 : Nat) (σ : bSto) : Option (Int32 × bSto) := some (((σ.1 x0 4) - (σ.1 x0 5)), σ)
set_option maxHeartbeats 4000000 in
set_option maxRecDepth 20000 in
theorem e_X10_quietCount_0 {X : bX} {l : Launch} {G : bG} {ρ : Nat → Nat} {A : Nat → Prop} {d : Nat} {r : Int32} {σ' : bSto} (C : bCX X cX10_quietCount RX10 (d + 0)) (Hh : bH X l G bSHf ρ A 1) (Rt : bRX X (some .int) (some (.int r)) σ') (x0 : Nat) (hx0 : kT x0) (σ : bSto) (hF : f_X10_quietCount x0 σ = some (r, σ')) : bAJ X 0 [(0, .ref x0)] [] σ := by
  rw [f_X10_quietCount] at hF
  refine b_aload_n (pc := 0) C dX10_quietCount_0 rfl 0 rfl ?_
  refine b_getI (pc := 1) C dX10_quietCount_1 fl_X10_25 (Hh.1 _ _ (shT hx0)) rfl ?_
  refine b_aload_n (pc := 4) C dX10_quietCount_4 rfl 0 rfl ?_
  refine b_getI (pc := 5) C dX10_quietCount_5 fl_X10_29 (Hh.1 _ _ (shT hx0)) rfl ?_
  refine b_isub (pc := 8) C dX10_quietCount_8 ?_
  exact b_iret (pc := 9) C Rt dX10_quietCount_9 hF
set_option maxHeartbeats 4000000 in
set_option maxRecDepth 20000 in
theorem e_X10_quietCount {l : Launch} {G : bG} {ρ : Nat → Nat} {A : Nat → Prop} (d : Nat) (x0 : Nat) (hx0 : kT x0) (σ : bSto) (r : Int32) (σ' : bSto) (hF : f_X10_quietCount x0 σ = some (r, σ')) : bEv l G bSHf ρ A yX10_quietCount cX10_quietCount 1 (some .int) (d + 0) [.ref x0] σ (some (.int r)) σ' := b_met (d := d + 0) (by decide +kernel) (Nat.le_of_ble_eq_true rfl) rfl (fun X C Rt h1 h2 h3 => e_X10_quietCount_0 C ⟨fun o q h => by rw [h1]; exact h, fun i h => by rw [h2]; exact h, h3⟩ Rt _ hx0 _ hF)
