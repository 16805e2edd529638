/-! BenchColony$Tape.append -/
def f_X8_append_L3 : Nat → Int32 → Int32 → bSto → Option (bSto)
  | 0, _, _, _ => none
  | n + 1, x1, x2, σ => (if x2 < 0 then some σ else (if (1000 : Int32) ≤ (σ.1 2 1) then blet (x2 + (-8 : Int32)) (fun x2_3 => f_X8_append_L3 n x1 x2_3 σ) else if (σ.1 2 1) < 0 ∨ 1000 ≤ (σ.1 2 1).toNatClampNeg then none else blet (bI σ 3 (σ.1 2 1).toNatClampNeg (vp_nar .byte ((x1 >>> (x2 &&& 31)).toInt8.toInt32))) (fun σ5 => blet (bI σ5 2 1 ((σ5.1 2 1) + (1 : Int32))) (fun σ8 => blet (x2 + (-8 : Int32)) (fun x2_10 => f_X8_append_L3 n x1 x2_10 σ8)))))
def f_X8_append (x1 : Int32) (σ : bSto) : Option bSto := bl0 (f_X8_append_L3 bFU x1 (24 : Int32) σ) (fun σ2 => some σ2)
set_option maxHeartbeats 4000000 in
set_option maxRecDepth 20000 in
theorem e_X8_append_L3 {X : bX} {l : Launch} {G : bG} {ρ : Nat → Nat} {A : Nat → Prop} {d : Nat} {σ' : bSto} (C : bCX X cX8_append RX8 (d + 0)) (Hh : bH X l G bSHf ρ A 3) (Rt : bRX X none none σ') : ∀ (n : Nat) (x1 : Int32) (x2 : Int32) (σ : bSto) (q : (bSto)), f_X8_append_L3 n x1 x2 σ = some q → (∀  (s : bSto), q = s → bAJ X 46 [] [] s) → bAJ X 3 [(0, .ref 2), (1, .int x1), (2, .int x2)] [] σ := by
  intro n
  induction n with
  | zero => intro x1 x2 σ q hF; rw [f_X8_append_L3] at hF; cases hF
  | succ n ih =>
    intro x1 x2 σ q hF hx
    rw [f_X8_append_L3] at hF
    refine b_iload_n (pc := 3) C dX8_append_3 rfl 2 rfl ?_
    refine b_if_lt (tgt := 46) (pc := 4) C dX8_append_4 rfl (fun hc1 => ?_) (fun hc1 => ?_)
    · rw [if_pos hc1] at hF
      exact b_sub [] rfl (hx  _ (Option.some.inj hF).symm )
    · rw [if_neg hc1] at hF
      refine b_aload_n (pc := 7) C dX8_append_7 rfl 0 rfl ?_
      refine b_getI (pc := 8) C dX8_append_8 fl_X8_15 (Hh.1 _ _ sh_2) rfl ?_
      refine b_sipush (pc := 11) C dX8_append_11 sp_1000 ?_
      refine b_icmp_ge (tgt := 40) (pc := 14) C dX8_append_14 rfl (fun hc2 => ?_) (fun hc2 => ?_)
      · rw [if_pos hc2] at hF
        obtain ⟨x2_3, e4, hF⟩ := blet_e hF
        refine b_iinc (L' := [(2, .int x2_3), (0, .ref 2), (1, .int x1)]) (pc := 40) C dX8_append_40 2 rfl ic_m8 e4 (Hh.2.1 _ (Nat.le_of_ble_eq_true rfl)) rfl ?_
        refine b_goto (tgt := 3) (pc := 43) C dX8_append_43 rfl ?_
        exact b_sub [1, 2, 0] rfl (ih x1 x2_3 _ _ hF hx)
      · rw [if_neg hc2] at hF
        refine b_aload_n (pc := 17) C dX8_append_17 rfl 0 rfl ?_
        refine b_getS (pc := 18) C dX8_append_18 fl_X8_9 (Hh.1 _ _ sh_2) rfl ?_
        refine b_aload_n (pc := 21) C dX8_append_21 rfl 0 rfl ?_
        refine b_getI (pc := 22) C dX8_append_22 fl_X8_15 (Hh.1 _ _ sh_2) rfl ?_
        refine b_iload_n (pc := 25) C dX8_append_25 rfl 1 rfl ?_
        refine b_iload_n (pc := 26) C dX8_append_26 rfl 2 rfl ?_
        refine b_ishr (pc := 27) C dX8_append_27 ?_
        refine b_i2b (pc := 28) C dX8_append_28 ?_
        obtain ⟨hb7, hF⟩ := bif_n hF
        obtain ⟨σ5, e6, hF⟩ := blet_e hF
        refine b_bast (pc := 29) C dX8_append_29 (Hh.1 _ _ sh_3) hb7 e6 ?_
        refine b_aload_n (pc := 30) C dX8_append_30 rfl 0 rfl ?_
        refine b_dup (pc := 31) C dX8_append_31 rfl ?_
        refine b_getI (pc := 32) C dX8_append_32 fl_X8_15 (Hh.1 _ _ sh_2) rfl ?_
        refine b_iconst (pc := 35) C dX8_append_35 ic_1 ?_
        refine b_iadd (pc := 36) C dX8_append_36 ?_
        obtain ⟨σ8, e9, hF⟩ := blet_e hF
        refine b_putI (pc := 37) C dX8_append_37 fp_X8_15 (Hh.1 _ _ sh_2) rfl rfl rfl e9 ?_
        obtain ⟨x2_10, e11, hF⟩ := blet_e hF
        refine b_iinc (L' := [(2, .int x2_10), (0, .ref 2), (1, .int x1)]) (pc := 40) C dX8_append_40 2 rfl ic_m8 e11 (Hh.2.1 _ (Nat.le_of_ble_eq_true rfl)) rfl ?_
        refine b_goto (tgt := 3) (pc := 43) C dX8_append_43 rfl ?_
        exact b_sub [1, 2, 0] rfl (ih x1 x2_10 _ _ hF hx)
set_option maxHeartbeats 4000000 in
set_option maxRecDepth 20000 in
theorem e_X8_append_0 {X : bX} {l : Launch} {G : bG} {ρ : Nat → Nat} {A : Nat → Prop} {d : Nat} {σ' : bSto} (C : bCX X cX8_append RX8 (d + 0)) (Hh : bH X l G bSHf ρ A 3) (Rt : bRX X none none σ') (x1 : Int32) (σ : bSto) (hF : f_X8_append x1 σ = some σ') : bAJ X 0 [(0, .ref 2), (1, .int x1)] [] σ := by
  rw [f_X8_append] at hF
  refine b_bipush (pc := 0) C dX8_append_0 bp_24 ?_
  refine b_istore_n (L' := [(2, .int (24 : Int32)), (0, .ref 2), (1, .int x1)]) (pc := 2) C dX8_append_2 rfl rfl (Hh.2.1 _ (Nat.le_of_ble_eq_true rfl)) rfl ?_
  obtain ⟨σ2, hq1, hF⟩ := bl0_e hF
  refine b_sub [1, 2, 0] rfl (e_X8_append_L3 C Hh Rt bFU x1 (24 : Int32) _ _ hq1 (fun  _ e  => ?_))
  cases e
  exact b_vret (pc := 46) C Rt dX8_append_46 hF
set_option maxHeartbeats 4000000 in
set_option maxRecDepth 20000 in
theorem e_X8_append {l : Launch} {G : bG} {ρ : Nat → Nat} {A : Nat → Prop} (d : Nat) (x1 : Int32) (σ : bSto) (σ' : bSto) (hF : f_X8_append x1 σ = some σ') : bEv l G bSHf ρ A yX8_append cX8_append 3 none (d + 0) [.ref 2, .int x1] σ none σ' := b_met (d := d + 0) (by decide +kernel) (Nat.le_of_ble_eq_true rfl) rfl (fun X C Rt h1 h2 h3 => e_X8_append_0 C ⟨fun o q h => by rw [h1]; exact h, fun i h => by rw [h2]; exact h, h3⟩ Rt _ _ hF)
/-! BenchColony$Tape.readWord -/
def f_X8_readWord_L5 : Nat → bSto → Option (bSto)
  | 0, _ => none
  | n + 1, σ => (if (σ.1 2 2) ≤ (σ.1 2 3) then some σ else if (σ.1 2 3) < 0 ∨ 1000 ≤ (σ.1 2 3).toNatClampNeg then none else (if (σ.1 3 (σ.1 2 3).toNatClampNeg) < (97 : Int32) then some σ else if (σ.1 2 3) < 0 ∨ 1000 ≤ (σ.1 2 3).toNatClampNeg then none else (if (122 : Int32) < (σ.1 3 (σ.1 2 3).toNatClampNeg) then some σ else if (σ.1 2 3) < 0 ∨ 1000 ≤ (σ.1 2 3).toNatClampNeg then none else blet (bJ σ 2 7 (((32 : Int64) * (σ.2.1 2 7)) + (((σ.1 3 (σ.1 2 3).toNatClampNeg) - (96 : Int32)).toInt64))) (fun σ7 => blet (bI σ7 2 3 ((σ7.1 2 3) + (1 : Int32))) (fun σ9 => f_X8_readWord_L5 n  σ9)))))
def f_X8_readWord_J83  (σ : bSto) : Option bSto := (if (8 : Int32) < ((σ.1 2 3) - (σ.1 2 5)) then blet (bI σ 2 4 (4 : Int32)) (fun σ2 => some σ2) else blet (bI σ 2 4 (1 : Int32)) (fun σ4 => some σ4))
def f_X8_readWord  (σ : bSto) : Option bSto := blet (bJ σ 2 7 (0 : Int64)) (fun σ1 => bl0 (f_X8_readWord_L5 bFU  σ1) (fun σ4 => f_X8_readWord_J83  σ4))
set_option maxHeartbeats 4000000 in
set_option maxRecDepth 20000 in
theorem e_X8_readWord_L5 {X : bX} {l : Launch} {G : bG} {ρ : Nat → Nat} {A : Nat → Prop} {d : Nat} {σ' : bSto} (C : bCX X cX8_readWord RX8 (d + 0)) (Hh : bH X l G bSHf ρ A 1) (Rt : bRX X none none σ') : ∀ (n : Nat)  (σ : bSto) (q : (bSto)), f_X8_readWord_L5 n  σ = some q → (∀  (s : bSto), q = s → bAJ X 83 [(0, .ref 2)] [] s) → bAJ X 5 [(0, .ref 2)] [] σ := by
  intro n
  induction n with
  | zero => intro  σ q hF; rw [f_X8_readWord_L5] at hF; cases hF
  | succ n ih =>
    intro  σ q hF hx
    rw [f_X8_readWord_L5] at hF
    refine b_aload_n (pc := 5) C dX8_readWord_5 rfl 0 rfl ?_
    refine b_getI (pc := 6) C dX8_readWord_6 fl_X8_31 (Hh.1 _ _ sh_2) rfl ?_
    refine b_aload_n (pc := 9) C dX8_readWord_9 rfl 0 rfl ?_
    refine b_getI (pc := 10) C dX8_readWord_10 fl_X8_28 (Hh.1 _ _ sh_2) rfl ?_
    refine b_icmp_ge (tgt := 83) (pc := 13) C dX8_readWord_13 rfl (fun hc1 => ?_) (fun hc1 => ?_)
    · rw [if_pos hc1] at hF
      exact b_sub [0] rfl (hx  _ (Option.some.inj hF).symm )
    · rw [if_neg hc1] at hF
      refine b_aload_n (pc := 16) C dX8_readWord_16 rfl 0 rfl ?_
      refine b_getS (pc := 17) C dX8_readWord_17 fl_X8_9 (Hh.1 _ _ sh_2) rfl ?_
      refine b_aload_n (pc := 20) C dX8_readWord_20 rfl 0 rfl ?_
      refine b_getI (pc := 21) C dX8_readWord_21 fl_X8_31 (Hh.1 _ _ sh_2) rfl ?_
      obtain ⟨hb2, hF⟩ := bif_n hF
      refine b_bald (pc := 24) C dX8_readWord_24 (Hh.1 _ _ sh_3) hb2 ?_
      refine b_bipush (pc := 25) C dX8_readWord_25 bp_97 ?_
      refine b_icmp_lt (tgt := 83) (pc := 27) C dX8_readWord_27 rfl (fun hc3 => ?_) (fun hc3 => ?_)
      · rw [if_pos hc3] at hF
        exact b_sub [0] rfl (hx  _ (Option.some.inj hF).symm )
      · rw [if_neg hc3] at hF
        refine b_aload_n (pc := 30) C dX8_readWord_30 rfl 0 rfl ?_
        refine b_getS (pc := 31) C dX8_readWord_31 fl_X8_9 (Hh.1 _ _ sh_2) rfl ?_
        refine b_aload_n (pc := 34) C dX8_readWord_34 rfl 0 rfl ?_
        refine b_getI (pc := 35) C dX8_readWord_35 fl_X8_31 (Hh.1 _ _ sh_2) rfl ?_
        obtain ⟨hb4, hF⟩ := bif_n hF
        refine b_bald (pc := 38) C dX8_readWord_38 (Hh.1 _ _ sh_3) hb4 ?_
        refine b_bipush (pc := 39) C dX8_readWord_39 bp_122 ?_
        refine b_icmp_gt (tgt := 83) (pc := 41) C dX8_readWord_41 rfl (fun hc5 => ?_) (fun hc5 => ?_)
        · rw [if_pos hc5] at hF
          exact b_sub [0] rfl (hx  _ (Option.some.inj hF).symm )
        · rw [if_neg hc5] at hF
          refine b_aload_n (pc := 44) C dX8_readWord_44 rfl 0 rfl ?_
          refine b_ldc2 (pc := 45) C dX8_readWord_45 ww_X8_53 ?_
          refine b_aload_n (pc := 48) C dX8_readWord_48 rfl 0 rfl ?_
          refine b_getJ (pc := 49) C dX8_readWord_49 fl_X8_49 (Hh.1 _ _ sh_2) rfl ?_
          refine b_lmul (pc := 52) C dX8_readWord_52 ?_
          refine b_aload_n (pc := 53) C dX8_readWord_53 rfl 0 rfl ?_
          refine b_getS (pc := 54) C dX8_readWord_54 fl_X8_9 (Hh.1 _ _ sh_2) rfl ?_
          refine b_aload_n (pc := 57) C dX8_readWord_57 rfl 0 rfl ?_
          refine b_getI (pc := 58) C dX8_readWord_58 fl_X8_31 (Hh.1 _ _ sh_2) rfl ?_
          obtain ⟨hb6, hF⟩ := bif_n hF
          refine b_bald (pc := 61) C dX8_readWord_61 (Hh.1 _ _ sh_3) hb6 ?_
          refine b_bipush (pc := 62) C dX8_readWord_62 bp_96 ?_
          refine b_isub (pc := 64) C dX8_readWord_64 ?_
          refine b_i2l (pc := 65) C dX8_readWord_65 ?_
          refine b_ladd (pc := 66) C dX8_readWord_66 ?_
          obtain ⟨σ7, e8, hF⟩ := blet_e hF
          refine b_putJ (pc := 67) C dX8_readWord_67 fp_X8_49 (Hh.1 _ _ sh_2) rfl e8 ?_
          refine b_aload_n (pc := 70) C dX8_readWord_70 rfl 0 rfl ?_
          refine b_dup (pc := 71) C dX8_readWord_71 rfl ?_
          refine b_getI (pc := 72) C dX8_readWord_72 fl_X8_31 (Hh.1 _ _ sh_2) rfl ?_
          refine b_iconst (pc := 75) C dX8_readWord_75 ic_1 ?_
          refine b_iadd (pc := 76) C dX8_readWord_76 ?_
          obtain ⟨σ9, e10, hF⟩ := blet_e hF
          refine b_putI (pc := 77) C dX8_readWord_77 fp_X8_31 (Hh.1 _ _ sh_2) rfl rfl rfl e10 ?_
          refine b_goto (tgt := 5) (pc := 80) C dX8_readWord_80 rfl ?_
          exact b_sub [0] rfl (ih  _ _ hF hx)
set_option maxHeartbeats 4000000 in
set_option maxRecDepth 20000 in
theorem e_X8_readWord_J83 {X : bX} {l : Launch} {G : bG} {ρ : Nat → Nat} {A : Nat → Prop} {d : Nat} {σ' : bSto} (C : bCX X cX8_readWord RX8 (d + 0)) (Hh : bH X l G bSHf ρ A 1) (Rt : bRX X none none σ')  (σ : bSto) (hF : f_X8_readWord_J83  σ = some σ') : bAJ X 83 [(0, .ref 2)] [] σ := by
  rw [f_X8_readWord_J83] at hF
  refine b_aload_n (pc := 83) C dX8_readWord_83 rfl 0 rfl ?_
  refine b_aload_n (pc := 84) C dX8_readWord_84 rfl 0 rfl ?_
  refine b_getI (pc := 85) C dX8_readWord_85 fl_X8_31 (Hh.1 _ _ sh_2) rfl ?_
  refine b_aload_n (pc := 88) C dX8_readWord_88 rfl 0 rfl ?_
  refine b_getI (pc := 89) C dX8_readWord_89 fl_X8_37 (Hh.1 _ _ sh_2) rfl ?_
  refine b_isub (pc := 92) C dX8_readWord_92 ?_
  refine b_bipush (pc := 93) C dX8_readWord_93 bp_8 ?_
  refine b_icmp_gt (tgt := 102) (pc := 95) C dX8_readWord_95 rfl (fun hc1 => ?_) (fun hc1 => ?_)
  · rw [if_pos hc1] at hF
    refine b_iconst (pc := 102) C dX8_readWord_102 ic_4 ?_
    obtain ⟨σ2, e3, hF⟩ := blet_e hF
    refine b_putI (pc := 103) C dX8_readWord_103 fp_X8_40 (Hh.1 _ _ sh_2) rfl rfl rfl e3 ?_
    exact b_vret (pc := 106) C Rt dX8_readWord_106 hF
  · rw [if_neg hc1] at hF
    refine b_iconst (pc := 98) C dX8_readWord_98 ic_1 ?_
    refine b_goto (tgt := 103) (pc := 99) C dX8_readWord_99 rfl ?_
    obtain ⟨σ4, e5, hF⟩ := blet_e hF
    refine b_putI (pc := 103) C dX8_readWord_103 fp_X8_40 (Hh.1 _ _ sh_2) rfl rfl rfl e5 ?_
    exact b_vret (pc := 106) C Rt dX8_readWord_106 hF
set_option maxHeartbeats 4000000 in
set_option maxRecDepth 20000 in
theorem e_X8_readWord_0 {X : bX} {l : Launch} {G : bG} {ρ : Nat → Nat} {A : Nat → Prop} {d : Nat} {σ' : bSto} (C : bCX X cX8_readWord RX8 (d + 0)) (Hh : bH X l G bSHf ρ A 1) (Rt : bRX X none none σ')  (σ : bSto) (hF : f_X8_readWord  σ = some σ') : bAJ X 0 [(0, .ref 2)] [] σ := by
  rw [f_X8_readWord] at hF
  refine b_aload_n (pc := 0) C dX8_readWord_0 rfl 0 rfl ?_
  refine b_lconst (pc := 1) C dX8_readWord_1 rfl ?_
  obtain ⟨σ1, e2, hF⟩ := blet_e hF
  refine b_putJ (pc := 2) C dX8_readWord_2 fp_X8_49 (Hh.1 _ _ sh_2) rfl e2 ?_
  obtain ⟨σ4, hq3, hF⟩ := bl0_e hF
  refine b_sub [0] rfl (e_X8_readWord_L5 C Hh Rt bFU  _ _ hq3 (fun  _ e  => ?_))
  cases e
  exact b_sub [0] rfl (e_X8_readWord_J83 C Hh Rt  _ hF)
set_option maxHeartbeats 4000000 in
set_option maxRecDepth 20000 in
theorem e_X8_readWord {l : Launch} {G : bG} {ρ : Nat → Nat} {A : Nat → Prop} (d : Nat)  (σ : bSto) (σ' : bSto) (hF : f_X8_readWord  σ = some σ') : bEv l G bSHf ρ A yX8_readWord cX8_readWord 1 none (d + 0) [.ref 2] σ none σ' := b_met (d := d + 0) (by decide +kernel) (Nat.le_of_ble_eq_true rfl) rfl (fun X C Rt h1 h2 h3 => e_X8_readWord_0 C ⟨fun o q h => by rw [h1]; exact h, fun i h => by rw [h2]; exact h, h3⟩ Rt  _ hF)
/-! BenchColony$Tape.readWhole -/
def f_X8_readWhole_L5 : Nat → bSto → Option (bSto)
  | 0, _ => none
  | n + 1, σ => (if (σ.1 2 2) ≤ (σ.1 2 3) then some σ else if (σ.1 2 3) < 0 ∨ 1000 ≤ (σ.1 2 3).toNatClampNeg then none else (if (σ.1 3 (σ.1 2 3).toNatClampNeg) < (48 : Int32) then some σ else if (σ.1 2 3) < 0 ∨ 1000 ≤ (σ.1 2 3).toNatClampNeg then none else (if (57 : Int32) < (σ.1 3 (σ.1 2 3).toNatClampNeg) then some σ else if (σ.1 2 3) < 0 ∨ 1000 ≤ (σ.1 2 3).toNatClampNeg then none else blet (bI σ 2 6 (((10 : Int32) * (σ.1 2 6)) + ((σ.1 3 (σ.1 2 3).toNatClampNeg) - (48 : Int32)))) (fun σ7 => blet (bI σ7 2 3 ((σ7.1 2 3) + (1 : Int32))) (fun σ9 => f_X8_readWhole_L5 n  σ9)))))
def f_X8_readWhole_J81  (σ : bSto) : Option bSto := (if (3 : Int32) < ((σ.1 2 3) - (σ.1 2 5)) then blet (bI σ 2 4 (4 : Int32)) (fun σ2 => some σ2) else blet (bI σ 2 4 (2 : Int32)) (fun σ4 => some σ4))
def f_X8_readWhole  (σ : bSto) : Option bSto := blet (bI σ 2 6 (0 : Int32)) (fun σ1 => bl0 (f_X8_readWhole_L5 bFU  σ1) (fun σ4 => f_X8_readWhole_J81  σ4))
set_option maxHeartbeats 4000000 in
set_option maxRecDepth 20000 in
theorem e_X8_readWhole_L5 {X : bX} {l : Launch} {G : bG} {ρ : Nat → Nat} {A : Nat → Prop} {d : Nat} {σ' : bSto} (C : bCX X cX8_readWhole RX8 (d + 0)) (Hh : bH X l G bSHf ρ A 1) (Rt : bRX X none none σ') : ∀ (n : Nat)  (σ : bSto) (q : (bSto)), f_X8_readWhole_L5 n  σ = some q → (∀  (s : bSto), q = s → bAJ X 81 [(0, .ref 2)] [] s) → bAJ X 5 [(0, .ref 2)] [] σ := by
  intro n
  induction n with
  | zero => intro  σ q hF; rw [f_X8_readWhole_L5] at hF; cases hF
  | succ n ih =>
    intro  σ q hF hx
    rw [f_X8_readWhole_L5] at hF
    refine b_aload_n (pc := 5) C dX8_readWhole_5 rfl 0 rfl ?_
    refine b_getI (pc := 6) C dX8_readWhole_6 fl_X8_31 (Hh.1 _ _ sh_2) rfl ?_
    refine b_aload_n (pc := 9) C dX8_readWhole_9 rfl 0 rfl ?_
    refine b_getI (pc := 10) C dX8_readWhole_10 fl_X8_28 (Hh.1 _ _ sh_2) rfl ?_
    refine b_icmp_ge (tgt := 81) (pc := 13) C dX8_readWhole_13 rfl (fun hc1 => ?_) (fun hc1 => ?_)
    · rw [if_pos hc1] at hF
      exact b_sub [0] rfl (hx  _ (Option.some.inj hF).symm )
    · rw [if_neg hc1] at hF
      refine b_aload_n (pc := 16) C dX8_readWhole_16 rfl 0 rfl ?_
      refine b_getS (pc := 17) C dX8_readWhole_17 fl_X8_9 (Hh.1 _ _ sh_2) rfl ?_
      refine b_aload_n (pc := 20) C dX8_readWhole_20 rfl 0 rfl ?_
      refine b_getI (pc := 21) C dX8_readWhole_21 fl_X8_31 (Hh.1 _ _ sh_2) rfl ?_
      obtain ⟨hb2, hF⟩ := bif_n hF
      refine b_bald (pc := 24) C dX8_readWhole_24 (Hh.1 _ _ sh_3) hb2 ?_
      refine b_bipush (pc := 25) C dX8_readWhole_25 bp_48 ?_
      refine b_icmp_lt (tgt := 81) (pc := 27) C dX8_readWhole_27 rfl (fun hc3 => ?_) (fun hc3 => ?_)
      · rw [if_pos hc3] at hF
        exact b_sub [0] rfl (hx  _ (Option.some.inj hF).symm )
      · rw [if_neg hc3] at hF
        refine b_aload_n (pc := 30) C dX8_readWhole_30 rfl 0 rfl ?_
        refine b_getS (pc := 31) C dX8_readWhole_31 fl_X8_9 (Hh.1 _ _ sh_2) rfl ?_
        refine b_aload_n (pc := 34) C dX8_readWhole_34 rfl 0 rfl ?_
        refine b_getI (pc := 35) C dX8_readWhole_35 fl_X8_31 (Hh.1 _ _ sh_2) rfl ?_
        obtain ⟨hb4, hF⟩ := bif_n hF
        refine b_bald (pc := 38) C dX8_readWhole_38 (Hh.1 _ _ sh_3) hb4 ?_
        refine b_bipush (pc := 39) C dX8_readWhole_39 bp_57 ?_
        refine b_icmp_gt (tgt := 81) (pc := 41) C dX8_readWhole_41 rfl (fun hc5 => ?_) (fun hc5 => ?_)
        · rw [if_pos hc5] at hF
          exact b_sub [0] rfl (hx  _ (Option.some.inj hF).symm )
        · rw [if_neg hc5] at hF
          refine b_aload_n (pc := 44) C dX8_readWhole_44 rfl 0 rfl ?_
          refine b_bipush (pc := 45) C dX8_readWhole_45 bp_10 ?_
          refine b_aload_n (pc := 47) C dX8_readWhole_47 rfl 0 rfl ?_
          refine b_getI (pc := 48) C dX8_readWhole_48 fl_X8_55 (Hh.1 _ _ sh_2) rfl ?_
          refine b_imul (pc := 51) C dX8_readWhole_51 ?_
          refine b_aload_n (pc := 52) C dX8_readWhole_52 rfl 0 rfl ?_
          refine b_getS (pc := 53) C dX8_readWhole_53 fl_X8_9 (Hh.1 _ _ sh_2) rfl ?_
          refine b_aload_n (pc := 56) C dX8_readWhole_56 rfl 0 rfl ?_
          refine b_getI (pc := 57) C dX8_readWhole_57 fl_X8_31 (Hh.1 _ _ sh_2) rfl ?_
          obtain ⟨hb6, hF⟩ := bif_n hF
          refine b_bald (pc := 60) C dX8_readWhole_60 (Hh.1 _ _ sh_3) hb6 ?_
          refine b_bipush (pc := 61) C dX8_readWhole_61 bp_48 ?_
          refine b_isub (pc := 63) C dX8_readWhole_63 ?_
          refine b_iadd (pc := 64) C dX8_readWhole_64 ?_
          obtain ⟨σ7, e8, hF⟩ := blet_e hF
          refine b_putI (pc := 65) C dX8_readWhole_65 fp_X8_55 (Hh.1 _ _ sh_2) rfl rfl rfl e8 ?_
          refine b_aload_n (pc := 68) C dX8_readWhole_68 rfl 0 rfl ?_
          refine b_dup (pc := 69) C dX8_readWhole_69 rfl ?_
          refine b_getI (pc := 70) C dX8_readWhole_70 fl_X8_31 (Hh.1 _ _ sh_2) rfl ?_
          refine b_iconst (pc := 73) C dX8_readWhole_73 ic_1 ?_
          refine b_iadd (pc := 74) C dX8_readWhole_74 ?_
          obtain ⟨σ9, e10, hF⟩ := blet_e hF
          refine b_putI (pc := 75) C dX8_readWhole_75 fp_X8_31 (Hh.1 _ _ sh_2) rfl rfl rfl e10 ?_
          refine b_goto (tgt := 5) (pc := 78) C dX8_readWhole_78 rfl ?_
          exact b_sub [0] rfl (ih  _ _ hF hx)
set_option maxHeartbeats 4000000 in
set_option maxRecDepth 20000 in
theorem e_X8_readWhole_J81 {X : bX} {l : Launch} {G : bG} {ρ : Nat → Nat} {A : Nat → Prop} {d : Nat} {σ' : bSto} (C : bCX X cX8_readWhole RX8 (d + 0)) (Hh : bH X l G bSHf ρ A 1) (Rt : bRX X none none σ')  (σ : bSto) (hF : f_X8_readWhole_J81  σ = some σ') : bAJ X 81 [(0, .ref 2)] [] σ := by
  rw [f_X8_readWhole_J81] at hF
  refine b_aload_n (pc := 81) C dX8_readWhole_81 rfl 0 rfl ?_
  refine b_aload_n (pc := 82) C dX8_readWhole_82 rfl 0 rfl ?_
  refine b_getI (pc := 83) C dX8_readWhole_83 fl_X8_31 (Hh.1 _ _ sh_2) rfl ?_
  refine b_aload_n (pc := 86) C dX8_readWhole_86 rfl 0 rfl ?_
  refine b_getI (pc := 87) C dX8_readWhole_87 fl_X8_37 (Hh.1 _ _ sh_2) rfl ?_
  refine b_isub (pc := 90) C dX8_readWhole_90 ?_
  refine b_iconst (pc := 91) C dX8_readWhole_91 ic_3 ?_
  refine b_icmp_gt (tgt := 99) (pc := 92) C dX8_readWhole_92 rfl (fun hc1 => ?_) (fun hc1 => ?_)
  · rw [if_pos hc1] at hF
    refine b_iconst (pc := 99) C dX8_readWhole_99 ic_4 ?_
    obtain ⟨σ2, e3, hF⟩ := blet_e hF
    refine b_putI (pc := 100) C dX8_readWhole_100 fp_X8_40 (Hh.1 _ _ sh_2) rfl rfl rfl e3 ?_
    exact b_vret (pc := 103) C Rt dX8_readWhole_103 hF
  · rw [if_neg hc1] at hF
    refine b_iconst (pc := 95) C dX8_readWhole_95 ic_2 ?_
    refine b_goto (tgt := 100) (pc := 96) C dX8_readWhole_96 rfl ?_
    obtain ⟨σ4, e5, hF⟩ := blet_e hF
    refine b_putI (pc := 100) C dX8_readWhole_100 fp_X8_40 (Hh.1 _ _ sh_2) rfl rfl rfl e5 ?_
    exact b_vret (pc := 103) C Rt dX8_readWhole_103 hF
set_option maxHeartbeats 4000000 in
set_option maxRecDepth 20000 in
theorem e_X8_readWhole_0 {X : bX} {l : Launch} {G : bG} {ρ : Nat → Nat} {A : Nat → Prop} {d : Nat} {σ' : bSto} (C : bCX X cX8_readWhole RX8 (d + 0)) (Hh : bH X l G bSHf ρ A 1) (Rt : bRX X none none σ')  (σ : bSto) (hF : f_X8_readWhole  σ = some σ') : bAJ X 0 [(0, .ref 2)] [] σ := by
  rw [f_X8_readWhole] at hF
  refine b_aload_n (pc := 0) C dX8_readWhole_0 rfl 0 rfl ?_
  refine b_iconst (pc := 1) C dX8_readWhole_1 ic_0 ?_
  obtain ⟨σ1, e2, hF⟩ := blet_e hF
  refine b_putI (pc := 2) C dX8_readWhole_2 fp_X8_55 (Hh.1 _ _ sh_2) rfl rfl rfl e2 ?_
  obtain ⟨σ4, hq3, hF⟩ := bl0_e hF
  refine b_sub [0] rfl (e_X8_readWhole_L5 C Hh Rt bFU  _ _ hq3 (fun  _ e  => ?_))
  cases e
  exact b_sub [0] rfl (e_X8_readWhole_J81 C Hh Rt  _ hF)
set_option maxHeartbeats 4000000 in
set_option maxRecDepth 20000 in
theorem e_X8_readWhole {l : Launch} {G : bG} {ρ : Nat → Nat} {A : Nat → Prop} (d : Nat)  (σ : bSto) (σ' : bSto) (hF : f_X8_readWhole  σ = some σ') : bEv l G bSHf ρ A yX8_readWhole cX8_readWhole 1 none (d + 0) [.ref 2] σ none σ' := b_met (d := d + 0) (by decide +kernel) (Nat.le_of_ble_eq_true rfl) rfl (fun X C Rt h1 h2 h3 => e_X8_readWhole_0 C ⟨fun o q h => by rw [h1]; exact h, fun i h => by rw [h2]; exact h, h3⟩ Rt  _ hF)
/-! BenchColony$Tape.step -/
def f_X8_step_J155 (s1 : Int32) (σ : bSto) : Option bSto := blet (bI σ 2 4 s1) (fun σ1 => blet (bI σ1 2 3 ((σ1.1 2 3) + (1 : Int32))) (fun σ3 => some σ3))
def f_X8_step_J135  (σ : bSto) : Option bSto := if (σ.1 2 3) < 0 ∨ 1000 ≤ (σ.1 2 3).toNatClampNeg then none else (if (σ.1 3 (σ.1 2 3).toNatClampNeg) = (59 : Int32) then f_X8_step_J155 (3 : Int32) σ else f_X8_step_J155 (4 : Int32) σ)
def f_X8_step_J100  (σ : bSto) : Option bSto := if (σ.1 2 3) < 0 ∨ 1000 ≤ (σ.1 2 3).toNatClampNeg then none else (if (σ.1 3 (σ.1 2 3).toNatClampNeg) < (48 : Int32) then f_X8_step_J135  σ else if (σ.1 2 3) < 0 ∨ 1000 ≤ (σ.1 2 3).toNatClampNeg then none else (if (57 : Int32) < (σ.1 3 (σ.1 2 3).toNatClampNeg) then f_X8_step_J135  σ else bbv (f_X8_readWhole  σ) (fun σ6 => some σ6)))
def f_X8_step_J38  (σ : bSto) : Option bSto := blet (bI σ 2 5 (σ.1 2 3)) (fun σ1 => (if (σ1.1 2 3) < (σ1.1 2 2) then if (σ1.1 2 3) < 0 ∨ 1000 ≤ (σ1.1 2 3).toNatClampNeg then none else (if (σ1.1 3 (σ1.1 2 3).toNatClampNeg) < (97 : Int32) then f_X8_step_J100  σ1 else if (σ1.1 2 3) < 0 ∨ 1000 ≤ (σ1.1 2 3).toNatClampNeg then none else (if (122 : Int32) < (σ1.1 3 (σ1.1 2 3).toNatClampNeg) then f_X8_step_J100  σ1 else bbv (f_X8_readWord  σ1) (fun σ9 => some σ9))) else blet (bI σ1 2 4 (0 : Int32)) (fun σ10 => some σ10)))
def f_X8_step_L0 : Nat → bSto → Option (bSto)
  | 0, _ => none
  | n + 1, σ => (if (σ.1 2 2) ≤ (σ.1 2 3) then some σ else if (σ.1 2 3) < 0 ∨ 1000 ≤ (σ.1 2 3).toNatClampNeg then none else (if (σ.1 3 (σ.1 2 3).toNatClampNeg) = (32 : Int32) then blet (bI σ 2 3 ((σ.1 2 3) + (1 : Int32))) (fun σ4 => f_X8_step_L0 n  σ4) else some σ))
def f_X8_step  (σ : bSto) : Option bSto := (if (σ.1 2 2) ≤ (σ.1 2 3) then f_X8_step_J38  σ else if (σ.1 2 3) < 0 ∨ 1000 ≤ (σ.1 2 3).toNatClampNeg then none else (if (σ.1 3 (σ.1 2 3).toNatClampNeg) = (32 : Int32) then blet (bI σ 2 3 ((σ.1 2 3) + (1 : Int32))) (fun σ4 => bl0 (f_X8_step_L0 bFU  σ4) (fun σ7 => f_X8_step_J38  σ7)) else f_X8_step_J38  σ))
set_option maxHeartbeats 4000000 in
set_option maxRecDepth 20000 in
theorem e_X8_step_J155 {X : bX} {l : Launch} {G : bG} {ρ : Nat → Nat} {A : Nat → Prop} {d : Nat} {σ' : bSto} (C : bCX X cX8_step RX8 (d + 1)) (Hh : bH X l G bSHf ρ A 1) (Rt : bRX X none none σ') (s1 : Int32) (σ : bSto) (hF : f_X8_step_J155 s1 σ = some σ') : bAJ X 155 [(0, .ref 2)] [.int s1, .ref 2] σ := by
  rw [f_X8_step_J155] at hF
  obtain ⟨σ1, e2, hF⟩ := blet_e hF
  refine b_putI (pc := 155) C dX8_step_155 fp_X8_40 (Hh.1 _ _ sh_2) rfl rfl rfl e2 ?_
  refine b_aload_n (pc := 158) C dX8_step_158 rfl 0 rfl ?_
  refine b_dup (pc := 159) C dX8_step_159 rfl ?_
  refine b_getI (pc := 160) C dX8_step_160 fl_X8_31 (Hh.1 _ _ sh_2) rfl ?_
  refine b_iconst (pc := 163) C dX8_step_163 ic_1 ?_
  refine b_iadd (pc := 164) C dX8_step_164 ?_
  obtain ⟨σ3, e4, hF⟩ := blet_e hF
  refine b_putI (pc := 165) C dX8_step_165 fp_X8_31 (Hh.1 _ _ sh_2) rfl rfl rfl e4 ?_
  exact b_vret (pc := 168) C Rt dX8_step_168 hF
set_option maxHeartbeats 4000000 in
set_option maxRecDepth 20000 in
theorem e_X8_step_J135 {X : bX} {l : Launch} {G : bG} {ρ : Nat → Nat} {A : Nat → Prop} {d : Nat} {σ' : bSto} (C : bCX X cX8_step RX8 (d + 1)) (Hh : bH X l G bSHf ρ A 1) (Rt : bRX X none none σ')  (σ : bSto) (hF : f_X8_step_J135  σ = some σ') : bAJ X 135 [(0, .ref 2)] [] σ := by
  rw [f_X8_step_J135] at hF
  refine b_aload_n (pc := 135) C dX8_step_135 rfl 0 rfl ?_
  refine b_aload_n (pc := 136) C dX8_step_136 rfl 0 rfl ?_
  refine b_getS (pc := 137) C dX8_step_137 fl_X8_9 (Hh.1 _ _ sh_2) rfl ?_
  refine b_aload_n (pc := 140) C dX8_step_140 rfl 0 rfl ?_
  refine b_getI (pc := 141) C dX8_step_141 fl_X8_31 (Hh.1 _ _ sh_2) rfl ?_
  obtain ⟨hb1, hF⟩ := bif_n hF
  refine b_bald (pc := 144) C dX8_step_144 (Hh.1 _ _ sh_3) hb1 ?_
  refine b_bipush (pc := 145) C dX8_step_145 bp_59 ?_
  refine b_icmp_ne (tgt := 154) (pc := 147) C dX8_step_147 rfl (fun hc2 => ?_) (fun hc2 => ?_)
  · rw [if_neg hc2] at hF
    refine b_iconst (pc := 154) C dX8_step_154 ic_4 ?_
    exact b_sub [0] rfl (e_X8_step_J155 C Hh Rt (4 : Int32) _ hF)
  · rw [if_pos hc2] at hF
    refine b_iconst (pc := 150) C dX8_step_150 ic_3 ?_
    refine b_goto (tgt := 155) (pc := 151) C dX8_step_151 rfl ?_
    exact b_sub [0] rfl (e_X8_step_J155 C Hh Rt (3 : Int32) _ hF)
set_option maxHeartbeats 4000000 in
set_option maxRecDepth 20000 in
theorem e_X8_step_J100 {X : bX} {l : Launch} {G : bG} {ρ : Nat → Nat} {A : Nat → Prop} {d : Nat} {σ' : bSto} (C : bCX X cX8_step RX8 (d + 1)) (Hh : bH X l G bSHf ρ A 1) (Rt : bRX X none none σ')  (σ : bSto) (hF : f_X8_step_J100  σ = some σ') : bAJ X 100 [(0, .ref 2)] [] σ := by
  rw [f_X8_step_J100] at hF
  refine b_aload_n (pc := 100) C dX8_step_100 rfl 0 rfl ?_
  refine b_getS (pc := 101) C dX8_step_101 fl_X8_9 (Hh.1 _ _ sh_2) rfl ?_
  refine b_aload_n (pc := 104) C dX8_step_104 rfl 0 rfl ?_
  refine b_getI (pc := 105) C dX8_step_105 fl_X8_31 (Hh.1 _ _ sh_2) rfl ?_
  obtain ⟨hb1, hF⟩ := bif_n hF
  refine b_bald (pc := 108) C dX8_step_108 (Hh.1 _ _ sh_3) hb1 ?_
  refine b_bipush (pc := 109) C dX8_step_109 bp_48 ?_
  refine b_icmp_lt (tgt := 135) (pc := 111) C dX8_step_111 rfl (fun hc2 => ?_) (fun hc2 => ?_)
  · rw [if_pos hc2] at hF
    exact b_sub [0] rfl (e_X8_step_J135 C Hh Rt  _ hF)
  · rw [if_neg hc2] at hF
    refine b_aload_n (pc := 114) C dX8_step_114 rfl 0 rfl ?_
    refine b_getS (pc := 115) C dX8_step_115 fl_X8_9 (Hh.1 _ _ sh_2) rfl ?_
    refine b_aload_n (pc := 118) C dX8_step_118 rfl 0 rfl ?_
    refine b_getI (pc := 119) C dX8_step_119 fl_X8_31 (Hh.1 _ _ sh_2) rfl ?_
    obtain ⟨hb3, hF⟩ := bif_n hF
    refine b_bald (pc := 122) C dX8_step_122 (Hh.1 _ _ sh_3) hb3 ?_
    refine b_bipush (pc := 123) C dX8_step_123 bp_57 ?_
    refine b_icmp_gt (tgt := 135) (pc := 125) C dX8_step_125 rfl (fun hc4 => ?_) (fun hc4 => ?_)
    · rw [if_pos hc4] at hF
      exact b_sub [0] rfl (e_X8_step_J135 C Hh Rt  _ hF)
    · rw [if_neg hc4] at hF
      refine b_aload_n (pc := 128) C dX8_step_128 rfl 0 rfl ?_
      obtain ⟨σ6, hc5, hF⟩ := bbv_e hF
      refine b_cV0v (d' := (d + 0)) (pc := 129) C dX8_step_129 mm_X8_46 (Hh.1 _ _ sh_2) rfl (Nat.le_of_ble_eq_true rfl) (by omega) (Hh.2.2 _ _ _ _ _ _ _ _ _ (lvl_eq (by omega) (e_X8_readWhole (d + 0)  _ _ hc5))) ?_
      refine b_goto (tgt := 168) (pc := 132) C dX8_step_132 rfl ?_
      exact b_vret (pc := 168) C Rt dX8_step_168 hF
set_option maxHeartbeats 4000000 in
set_option maxRecDepth 20000 in
theorem e_X8_step_J38 {X : bX} {l : Launch} {G : bG} {ρ : Nat → Nat} {A : Nat → Prop} {d : Nat} {σ' : bSto} (C : bCX X cX8_step RX8 (d + 1)) (Hh : bH X l G bSHf ρ A 1) (Rt : bRX X none none σ')  (σ : bSto) (hF : f_X8_step_J38  σ = some σ') : bAJ X 38 [(0, .ref 2)] [] σ := by
  rw [f_X8_step_J38] at hF
  refine b_aload_n (pc := 38) C dX8_step_38 rfl 0 rfl ?_
  refine b_aload_n (pc := 39) C dX8_step_39 rfl 0 rfl ?_
  refine b_getI (pc := 40) C dX8_step_40 fl_X8_31 (Hh.1 _ _ sh_2) rfl ?_
  obtain ⟨σ1, e2, hF⟩ := blet_e hF
  refine b_putI (pc := 43) C dX8_step_43 fp_X8_37 (Hh.1 _ _ sh_2) rfl rfl rfl e2 ?_
  refine b_aload_n (pc := 46) C dX8_step_46 rfl 0 rfl ?_
  refine b_getI (pc := 47) C dX8_step_47 fl_X8_31 (Hh.1 _ _ sh_2) rfl ?_
  refine b_aload_n (pc := 50) C dX8_step_50 rfl 0 rfl ?_
  refine b_getI (pc := 51) C dX8_step_51 fl_X8_28 (Hh.1 _ _ sh_2) rfl ?_
  refine b_icmp_lt (tgt := 65) (pc := 54) C dX8_step_54 rfl (fun hc3 => ?_) (fun hc3 => ?_)
  · rw [if_pos hc3] at hF
    refine b_aload_n (pc := 65) C dX8_step_65 rfl 0 rfl ?_
    refine b_getS (pc := 66) C dX8_step_66 fl_X8_9 (Hh.1 _ _ sh_2) rfl ?_
    refine b_aload_n (pc := 69) C dX8_step_69 rfl 0 rfl ?_
    refine b_getI (pc := 70) C dX8_step_70 fl_X8_31 (Hh.1 _ _ sh_2) rfl ?_
    obtain ⟨hb4, hF⟩ := bif_n hF
    refine b_bald (pc := 73) C dX8_step_73 (Hh.1 _ _ sh_3) hb4 ?_
    refine b_bipush (pc := 74) C dX8_step_74 bp_97 ?_
    refine b_icmp_lt (tgt := 100) (pc := 76) C dX8_step_76 rfl (fun hc5 => ?_) (fun hc5 => ?_)
    · rw [if_pos hc5] at hF
      exact b_sub [0] rfl (e_X8_step_J100 C Hh Rt  _ hF)
    · rw [if_neg hc5] at hF
      refine b_aload_n (pc := 79) C dX8_step_79 rfl 0 rfl ?_
      refine b_getS (pc := 80) C dX8_step_80 fl_X8_9 (Hh.1 _ _ sh_2) rfl ?_
      refine b_aload_n (pc := 83) C dX8_step_83 rfl 0 rfl ?_
      refine b_getI (pc := 84) C dX8_step_84 fl_X8_31 (Hh.1 _ _ sh_2) rfl ?_
      obtain ⟨hb6, hF⟩ := bif_n hF
      refine b_bald (pc := 87) C dX8_step_87 (Hh.1 _ _ sh_3) hb6 ?_
      refine b_bipush (pc := 88) C dX8_step_88 bp_122 ?_
      refine b_icmp_gt (tgt := 100) (pc := 90) C dX8_step_90 rfl (fun hc7 => ?_) (fun hc7 => ?_)
      · rw [if_pos hc7] at hF
        exact b_sub [0] rfl (e_X8_step_J100 C Hh Rt  _ hF)
      · rw [if_neg hc7] at hF
        refine b_aload_n (pc := 93) C dX8_step_93 rfl 0 rfl ?_
        obtain ⟨σ9, hc8, hF⟩ := bbv_e hF
        refine b_cV0v (d' := (d + 0)) (pc := 94) C dX8_step_94 mm_X8_43 (Hh.1 _ _ sh_2) rfl (Nat.le_of_ble_eq_true rfl) (by omega) (Hh.2.2 _ _ _ _ _ _ _ _ _ (lvl_eq (by omega) (e_X8_readWord (d + 0)  _ _ hc8))) ?_
        refine b_goto (tgt := 168) (pc := 97) C dX8_step_97 rfl ?_
        exact b_vret (pc := 168) C Rt dX8_step_168 hF
  · rw [if_neg hc3] at hF
    refine b_aload_n (pc := 57) C dX8_step_57 rfl 0 rfl ?_
    refine b_iconst (pc := 58) C dX8_step_58 ic_0 ?_
    obtain ⟨σ10, e11, hF⟩ := blet_e hF
    refine b_putI (pc := 59) C dX8_step_59 fp_X8_40 (Hh.1 _ _ sh_2) rfl rfl rfl e11 ?_
    refine b_goto (tgt := 168) (pc := 62) C dX8_step_62 rfl ?_
    exact b_vret (pc := 168) C Rt dX8_step_168 hF
set_option maxHeartbeats 4000000 in
set_option maxRecDepth 20000 in
theorem e_X8_step_L0 {X : bX} {l : Launch} {G : bG} {ρ : Nat → Nat} {A : Nat → Prop} {d : Nat} {σ' : bSto} (C : bCX X cX8_step RX8 (d + 1)) (Hh : bH X l G bSHf ρ A 1) (Rt : bRX X none none σ') : ∀ (n : Nat)  (σ : bSto) (q : (bSto)), f_X8_step_L0 n  σ = some q → (∀  (s : bSto), q = s → bAJ X 38 [(0, .ref 2)] [] s) → bAJ X 0 [(0, .ref 2)] [] σ := by
  intro n
  induction n with
  | zero => intro  σ q hF; rw [f_X8_step_L0] at hF; cases hF
  | succ n ih =>
    intro  σ q hF hx
    rw [f_X8_step_L0] at hF
    refine b_aload_n (pc := 0) C dX8_step_0 rfl 0 rfl ?_
    refine b_getI (pc := 1) C dX8_step_1 fl_X8_31 (Hh.1 _ _ sh_2) rfl ?_
    refine b_aload_n (pc := 4) C dX8_step_4 rfl 0 rfl ?_
    refine b_getI (pc := 5) C dX8_step_5 fl_X8_28 (Hh.1 _ _ sh_2) rfl ?_
    refine b_icmp_ge (tgt := 38) (pc := 8) C dX8_step_8 rfl (fun hc1 => ?_) (fun hc1 => ?_)
    · rw [if_pos hc1] at hF
      exact b_sub [0] rfl (hx  _ (Option.some.inj hF).symm )
    · rw [if_neg hc1] at hF
      refine b_aload_n (pc := 11) C dX8_step_11 rfl 0 rfl ?_
      refine b_getS (pc := 12) C dX8_step_12 fl_X8_9 (Hh.1 _ _ sh_2) rfl ?_
      refine b_aload_n (pc := 15) C dX8_step_15 rfl 0 rfl ?_
      refine b_getI (pc := 16) C dX8_step_16 fl_X8_31 (Hh.1 _ _ sh_2) rfl ?_
      obtain ⟨hb2, hF⟩ := bif_n hF
      refine b_bald (pc := 19) C dX8_step_19 (Hh.1 _ _ sh_3) hb2 ?_
      refine b_bipush (pc := 20) C dX8_step_20 bp_32 ?_
      refine b_icmp_ne (tgt := 38) (pc := 22) C dX8_step_22 rfl (fun hc3 => ?_) (fun hc3 => ?_)
      · rw [if_neg hc3] at hF
        exact b_sub [0] rfl (hx  _ (Option.some.inj hF).symm )
      · rw [if_pos hc3] at hF
        refine b_aload_n (pc := 25) C dX8_step_25 rfl 0 rfl ?_
        refine b_dup (pc := 26) C dX8_step_26 rfl ?_
        refine b_getI (pc := 27) C dX8_step_27 fl_X8_31 (Hh.1 _ _ sh_2) rfl ?_
        refine b_iconst (pc := 30) C dX8_step_30 ic_1 ?_
        refine b_iadd (pc := 31) C dX8_step_31 ?_
        obtain ⟨σ4, e5, hF⟩ := blet_e hF
        refine b_putI (pc := 32) C dX8_step_32 fp_X8_31 (Hh.1 _ _ sh_2) rfl rfl rfl e5 ?_
        refine b_goto (tgt := 0) (pc := 35) C dX8_step_35 rfl ?_
        exact b_sub [0] rfl (ih  _ _ hF hx)
set_option maxHeartbeats 4000000 in
set_option maxRecDepth 20000 in
theorem e_X8_step_0 {X : bX} {l : Launch} {G : bG} {ρ : Nat → Nat} {A : Nat → Prop} {d : Nat} {σ' : bSto} (C : bCX X cX8_step RX8 (d + 1)) (Hh : bH X l G bSHf ρ A 1) (Rt : bRX X none none σ')  (σ : bSto) (hF : f_X8_step  σ = some σ') : bAJ X 0 [(0, .ref 2)] [] σ := by
  rw [f_X8_step] at hF
  refine b_aload_n (pc := 0) C dX8_step_0 rfl 0 rfl ?_
  refine b_getI (pc := 1) C dX8_step_1 fl_X8_31 (Hh.1 _ _ sh_2) rfl ?_
  refine b_aload_n (pc := 4) C dX8_step_4 rfl 0 rfl ?_
  refine b_getI (pc := 5) C dX8_step_5 fl_X8_28 (Hh.1 _ _ sh_2) rfl ?_
  refine b_icmp_ge (tgt := 38) (pc := 8) C dX8_step_8 rfl (fun hc1 => ?_) (fun hc1 => ?_)
  · rw [if_pos hc1] at hF
    exact b_sub [0] rfl (e_X8_step_J38 C Hh Rt  _ hF)
  · rw [if_neg hc1] at hF
    refine b_aload_n (pc := 11) C dX8_step_11 rfl 0 rfl ?_
    refine b_getS (pc := 12) C dX8_step_12 fl_X8_9 (Hh.1 _ _ sh_2) rfl ?_
    refine b_aload_n (pc := 15) C dX8_step_15 rfl 0 rfl ?_
    refine b_getI (pc := 16) C dX8_step_16 fl_X8_31 (Hh.1 _ _ sh_2) rfl ?_
    obtain ⟨hb2, hF⟩ := bif_n hF
    refine b_bald (pc := 19) C dX8_step_19 (Hh.1 _ _ sh_3) hb2 ?_
    refine b_bipush (pc := 20) C dX8_step_20 bp_32 ?_
    refine b_icmp_ne (tgt := 38) (pc := 22) C dX8_step_22 rfl (fun hc3 => ?_) (fun hc3 => ?_)
    · rw [if_neg hc3] at hF
      exact b_sub [0] rfl (e_X8_step_J38 C Hh Rt  _ hF)
    · rw [if_pos hc3] at hF
      refine b_aload_n (pc := 25) C dX8_step_25 rfl 0 rfl ?_
      refine b_dup (pc := 26) C dX8_step_26 rfl ?_
      refine b_getI (pc := 27) C dX8_step_27 fl_X8_31 (Hh.1 _ _ sh_2) rfl ?_
      refine b_iconst (pc := 30) C dX8_step_30 ic_1 ?_
      refine b_iadd (pc := 31) C dX8_step_31 ?_
      obtain ⟨σ4, e5, hF⟩ := blet_e hF
      refine b_putI (pc := 32) C dX8_step_32 fp_X8_31 (Hh.1 _ _ sh_2) rfl rfl rfl e5 ?_
      refine b_goto (tgt := 0) (pc := 35) C dX8_step_35 rfl ?_
      obtain ⟨σ7, hq6, hF⟩ := bl0_e hF
      refine b_sub [0] rfl (e_X8_step_L0 C Hh Rt bFU  _ _ hq6 (fun  _ e  => ?_))
      cases e
      exact b_sub [0] rfl (e_X8_step_J38 C Hh Rt  _ hF)
set_option maxHeartbeats 4000000 in
set_option maxRecDepth 20000 in
theorem e_X8_step {l : Launch} {G : bG} {ρ : Nat → Nat} {A : Nat → Prop} (d : Nat)  (σ : bSto) (σ' : bSto) (hF : f_X8_step  σ = some σ') : bEv l G bSHf ρ A yX8_step cX8_step 1 none (d + 1) [.ref 2] σ none σ' := b_met (d := d + 1) (by decide +kernel) (Nat.le_of_ble_eq_true rfl) rfl (fun X C Rt h1 h2 h3 => e_X8_step_0 C ⟨fun o q h => by rw [h1]; exact h, fun i h => by rw [h2]; exact h, h3⟩ Rt  _ hF)
/-! BenchColony$Tape.begin -/
def f_X8_begin (x1 : Int32) (σ : bSto) : Option bSto := bbd (f_J9_min_7cf53 x1 (σ.1 2 1) σ) (fun v3 σ2 => bbd (f_J9_max_7cf53 (0 : Int32) v3 σ2) (fun v6 σ5 => blet (bI σ5 2 2 v6) (fun σ7 => blet (bI σ7 2 3 (0 : Int32)) (fun σ9 => bbv (f_X8_step  σ9) (fun σ12 => some σ12)))))
set_option maxHeartbeats 4000000 in
set_option maxRecDepth 20000 in
theorem e_X8_begin_0 {X : bX} {l : Launch} {G : bG} {ρ : Nat → Nat} {A : Nat → Prop} {d : Nat} {σ' : bSto} (C : bCX X cX8_begin RX8 (d + 2)) (Hh : bH X l G bSHf ρ A 2) (Rt : bRX X none none σ') (x1 : Int32) (σ : bSto) (hF : f_X8_begin x1 σ = some σ') : bAJ X 0 [(0, .ref 2), (1, .int x1)] [] σ := by
  rw [f_X8_begin] at hF
  refine b_aload_n (pc := 0) C dX8_begin_0 rfl 0 rfl ?_
  refine b_iconst (pc := 1) C dX8_begin_1 ic_0 ?_
  refine b_iload_n (pc := 2) C dX8_begin_2 rfl 1 rfl ?_
  refine b_aload_n (pc := 3) C dX8_begin_3 rfl 0 rfl ?_
  refine b_getI (pc := 4) C dX8_begin_4 fl_X8_15 (Hh.1 _ _ sh_2) rfl ?_
  obtain ⟨v3, σ2, hc1, hF⟩ := bbd_e hF
  refine b_cS2i (d' := (d + 1)) (pc := 7) C dX8_begin_7 mm_X8_19 (Nat.le_of_ble_eq_true rfl) (by omega) (Hh.2.2 _ _ _ _ _ _ _ _ _ (lvl_eq (by omega) (e_J9_min_7cf53 (d + 1) x1 (σ.1 2 1) _ _ _ hc1))) ?_
  obtain ⟨v6, σ5, hc4, hF⟩ := bbd_e hF
  refine b_cS2i (d' := (d + 1)) (pc := 10) C dX8_begin_10 mm_X8_25 (Nat.le_of_ble_eq_true rfl) (by omega) (Hh.2.2 _ _ _ _ _ _ _ _ _ (lvl_eq (by omega) (e_J9_max_7cf53 (d + 1) (0 : Int32) v3 _ _ _ hc4))) ?_
  obtain ⟨σ7, e8, hF⟩ := blet_e hF
  refine b_putI (pc := 13) C dX8_begin_13 fp_X8_28 (Hh.1 _ _ sh_2) rfl rfl rfl e8 ?_
  refine b_aload_n (pc := 16) C dX8_begin_16 rfl 0 rfl ?_
  refine b_iconst (pc := 17) C dX8_begin_17 ic_0 ?_
  obtain ⟨σ9, e10, hF⟩ := blet_e hF
  refine b_putI (pc := 18) C dX8_begin_18 fp_X8_31 (Hh.1 _ _ sh_2) rfl rfl rfl e10 ?_
  refine b_aload_n (pc := 21) C dX8_begin_21 rfl 0 rfl ?_
  obtain ⟨σ12, hc11, hF⟩ := bbv_e hF
  refine b_cV0v (d' := (d + 1)) (pc := 22) C dX8_begin_22 mm_X8_34 (Hh.1 _ _ sh_2) rfl (Nat.le_of_ble_eq_true rfl) (by omega) (Hh.2.2 _ _ _ _ _ _ _ _ _ (lvl_eq (by omega) (e_X8_step (d + 0)  _ _ hc11))) ?_
  exact b_vret (pc := 25) C Rt dX8_begin_25 hF
set_option maxHeartbeats 4000000 in
set_option maxRecDepth 20000 in
theorem e_X8_begin {l : Launch} {G : bG} {ρ : Nat → Nat} {A : Nat → Prop} (d : Nat) (x1 : Int32) (σ : bSto) (σ' : bSto) (hF : f_X8_begin x1 σ = some σ') : bEv l G bSHf ρ A yX8_begin cX8_begin 2 none (d + 2) [.ref 2, .int x1] σ none σ' := b_met (d := d + 2) (by decide +kernel) (Nat.le_of_ble_eq_true rfl) rfl (fun X C Rt h1 h2 h3 => e_X8_begin_0 C ⟨fun o q h => by rw [h1]; exact h, fun i h => by rw [h2]; exact h, h3⟩ Rt _ _ hF)
/-! BenchColony$Tape.is -/
def f_X8_is_L28 : Nat → Nat → Int32 → bSto → Option ((Int32 × bSto) ⊕ (bSto))
  | 0, _, _, _ => none
  | n + 1, x1, x2, σ => (if (nI (blen x1)) ≤ x2 then some (.inr σ) else if ((σ.1 2 5) + x2) < 0 ∨ 1000 ≤ ((σ.1 2 5) + x2).toNatClampNeg then none else if x2 < 0 ∨ blen x1 ≤ x2.toNatClampNeg then none else (if (σ.1 3 ((σ.1 2 5) + x2).toNatClampNeg) = (bchr x1 x2.toNatClampNeg) then blet (x2 + (1 : Int32)) (fun x2_5 => f_X8_is_L28 n x1 x2_5 σ) else some (.inl ((0 : Int32), σ))))
def f_X8_is (x1 : Nat) (σ : bSto) : Option (Int32 × bSto) := (if (σ.1 2 4) = (1 : Int32) then (if ((σ.1 2 3) - (σ.1 2 5)) = (nI (blen x1)) then br0 (f_X8_is_L28 bFU x1 (0 : Int32) σ) (fun v s => some (v, s)) (fun σ4 => some ((1 : Int32), σ4)) else some ((0 : Int32), σ)) else some ((0 : Int32), σ))
set_option maxHeartbeats 4000000 in
set_option maxRecDepth 20000 in
theorem e_X8_is_L28 {X : bX} {l : Launch} {G : bG} {ρ : Nat → Nat} {A : Nat → Prop} {d : Nat} {r : Int32} {σ' : bSto} (C : bCX X cX8_is RX8 (d + 5)) (Hh : bH X l G bSHf ρ A 3) (Rt : bRX X (some .boolean) (some (.int r)) σ') : ∀ (n : Nat) (x1 : Nat) (hx1 : x1 < bnS) (x2 : Int32) (σ : bSto) (q : ((Int32 × bSto) ⊕ (bSto))), f_X8_is_L28 n x1 x2 σ = some q → (∀ (v : Int32) (s : bSto), q = .inl (v, s) → some (v, s) = some (r, σ')) → (∀  (s : bSto), q = .inr s → bAJ X 63 [] [] s) → bAJ X 28 [(0, .ref 2), (1, .ref (1000 + x1)), (2, .int x2)] [] σ := by
  intro n
  induction n with
  | zero => intro x1 hx1 x2 σ q hF; rw [f_X8_is_L28] at hF; cases hF
  | succ n ih =>
    intro x1 hx1 x2 σ q hF hr hx
    rw [f_X8_is_L28] at hF
    refine b_iload_n (pc := 28) C dX8_is_28 rfl 2 rfl ?_
    refine b_aload_n (pc := 29) C dX8_is_29 rfl 1 rfl ?_
    refine b_cT0i (d' := d + 4) (pc := 30) C dX8_is_30 mm_X8_58 hx1 rfl (Nat.le_of_ble_eq_true rfl) (by omega) (Hh.2.2 _ _ _ _ _ _ _ _ _ (e_strlen (d + 3) _ hx1 _)) ?_
    refine b_icmp_ge (tgt := 63) (pc := 33) C dX8_is_33 rfl (fun hc1 => ?_) (fun hc1 => ?_)
    · rw [if_pos hc1] at hF
      exact b_sub [] rfl (hx  _ (Option.some.inj hF).symm )
    · rw [if_neg hc1] at hF
      refine b_aload_n (pc := 36) C dX8_is_36 rfl 0 rfl ?_
      refine b_getS (pc := 37) C dX8_is_37 fl_X8_9 (Hh.1 _ _ sh_2) rfl ?_
      refine b_aload_n (pc := 40) C dX8_is_40 rfl 0 rfl ?_
      refine b_getI (pc := 41) C dX8_is_41 fl_X8_37 (Hh.1 _ _ sh_2) rfl ?_
      refine b_iload_n (pc := 44) C dX8_is_44 rfl 2 rfl ?_
      refine b_iadd (pc := 45) C dX8_is_45 ?_
      obtain ⟨hb2, hF⟩ := bif_n hF
      refine b_bald (pc := 46) C dX8_is_46 (Hh.1 _ _ sh_3) hb2 ?_
      refine b_aload_n (pc := 47) C dX8_is_47 rfl 1 rfl ?_
      refine b_iload_n (pc := 48) C dX8_is_48 rfl 2 rfl ?_
      obtain ⟨hb3, hF⟩ := bif_n hF
      refine b_cT1i (d' := d + 4) (pc := 49) C dX8_is_49 mm_X8_63 hx1 rfl (Nat.le_of_ble_eq_true rfl) (by omega) (Hh.2.2 _ _ _ _ _ _ _ _ _ (e_strchr (d + 0) _ hx1 _ _ hb3)) ?_
      refine b_icmp_eq (tgt := 57) (pc := 52) C dX8_is_52 rfl (fun hc4 => ?_) (fun hc4 => ?_)
      · rw [if_pos hc4] at hF
        obtain ⟨x2_5, e6, hF⟩ := blet_e hF
        refine b_iinc (L' := [(2, .int x2_5), (0, .ref 2), (1, .ref (1000 + x1))]) (pc := 57) C dX8_is_57 2 rfl ic_1 e6 (Hh.2.1 _ (Nat.le_of_ble_eq_true rfl)) rfl ?_
        refine b_goto (tgt := 28) (pc := 60) C dX8_is_60 rfl ?_
        exact b_sub [1, 2, 0] rfl (ih _ hx1 x2_5 _ _ hF hr hx)
      · rw [if_neg hc4] at hF
        refine b_iconst (pc := 55) C dX8_is_55 ic_0 ?_
        exact b_zret (pc := 56) C Rt dX8_is_56 rfl (hr _ _ (Option.some.inj hF).symm)
set_option maxHeartbeats 4000000 in
set_option maxRecDepth 20000 in
theorem e_X8_is_0 {X : bX} {l : Launch} {G : bG} {ρ : Nat → Nat} {A : Nat → Prop} {d : Nat} {r : Int32} {σ' : bSto} (C : bCX X cX8_is RX8 (d + 5)) (Hh : bH X l G bSHf ρ A 3) (Rt : bRX X (some .boolean) (some (.int r)) σ') (x1 : Nat) (hx1 : x1 < bnS) (σ : bSto) (hF : f_X8_is x1 σ = some (r, σ')) : bAJ X 0 [(0, .ref 2), (1, .ref (1000 + x1))] [] σ := by
  rw [f_X8_is] at hF
  refine b_aload_n (pc := 0) C dX8_is_0 rfl 0 rfl ?_
  refine b_getI (pc := 1) C dX8_is_1 fl_X8_40 (Hh.1 _ _ sh_2) rfl ?_
  refine b_iconst (pc := 4) C dX8_is_4 ic_1 ?_
  refine b_icmp_ne (tgt := 24) (pc := 5) C dX8_is_5 rfl (fun hc1 => ?_) (fun hc1 => ?_)
  · rw [if_neg hc1] at hF
    refine b_iconst (pc := 24) C dX8_is_24 ic_0 ?_
    exact b_zret (pc := 25) C Rt dX8_is_25 rfl hF
  · rw [if_pos hc1] at hF
    refine b_aload_n (pc := 8) C dX8_is_8 rfl 0 rfl ?_
    refine b_getI (pc := 9) C dX8_is_9 fl_X8_31 (Hh.1 _ _ sh_2) rfl ?_
    refine b_aload_n (pc := 12) C dX8_is_12 rfl 0 rfl ?_
    refine b_getI (pc := 13) C dX8_is_13 fl_X8_37 (Hh.1 _ _ sh_2) rfl ?_
    refine b_isub (pc := 16) C dX8_is_16 ?_
    refine b_aload_n (pc := 17) C dX8_is_17 rfl 1 rfl ?_
    refine b_cT0i (d' := d + 4) (pc := 18) C dX8_is_18 mm_X8_58 hx1 rfl (Nat.le_of_ble_eq_true rfl) (by omega) (Hh.2.2 _ _ _ _ _ _ _ _ _ (e_strlen (d + 3) _ hx1 _)) ?_
    refine b_icmp_eq (tgt := 26) (pc := 21) C dX8_is_21 rfl (fun hc2 => ?_) (fun hc2 => ?_)
    · rw [if_pos hc2] at hF
      refine b_iconst (pc := 26) C dX8_is_26 ic_0 ?_
      refine b_istore_n (L' := [(2, .int (0 : Int32)), (0, .ref 2), (1, .ref (1000 + x1))]) (pc := 27) C dX8_is_27 rfl rfl (Hh.2.1 _ (Nat.le_of_ble_eq_true rfl)) rfl ?_
      rcases br0_e hF with ⟨v, s, hq3, hF⟩ | ⟨σ4, hq3, hF⟩
      · exact b_sub [1, 2, 0] rfl (e_X8_is_L28 C Hh Rt bFU _ hx1 (0 : Int32) _ _ hq3 (fun v s e => by cases e; exact hF) (fun  _ e => by cases e))
      · refine b_sub [1, 2, 0] rfl (e_X8_is_L28 C Hh Rt bFU _ hx1 (0 : Int32) _ _ hq3 (fun v s e => by cases e) (fun  _ e  => ?_))
        cases e
        refine b_iconst (pc := 63) C dX8_is_63 ic_1 ?_
        exact b_zret (pc := 64) C Rt dX8_is_64 rfl hF
    · rw [if_neg hc2] at hF
      refine b_iconst (pc := 24) C dX8_is_24 ic_0 ?_
      exact b_zret (pc := 25) C Rt dX8_is_25 rfl hF
set_option maxHeartbeats 4000000 in
set_option maxRecDepth 20000 in
theorem e_X8_is {l : Launch} {G : bG} {ρ : Nat → Nat} {A : Nat → Prop} (d : Nat) (x1 : Nat) (hx1 : x1 < bnS) (σ : bSto) (r : Int32) (σ' : bSto) (hF : f_X8_is x1 σ = some (r, σ')) : bEv l G bSHf ρ A yX8_is cX8_is 3 (some .boolean) (d + 5) [.ref 2, .ref (1000 + x1)] σ (some (.int r)) σ' := b_met (d := d + 5) (by decide +kernel) (Nat.le_of_ble_eq_true rfl) rfl (fun X C Rt h1 h2 h3 => e_X8_is_0 C ⟨fun o q h => by rw [h1]; exact h, fun i h => by rw [h2]; exact h, h3⟩ Rt _ hx1 _ hF)
/-! BenchColony$Tape.codeOf -/
def f_X8_codeOf_L4 : Nat → Nat → Int64 → Int32 → bSto → Option (Int64 × bSto)
  | 0, _, _, _, _ => none
  | n + 1, x0, x1, x3, σ => (if (nI (blen x0)) ≤ x3 then some (x1, σ) else if x3 < 0 ∨ blen x0 ≤ x3.toNatClampNeg then none else blet (((32 : Int64) * x1) + (((bchr x0 x3.toNatClampNeg) - (96 : Int32)).toInt64)) (fun x1_3 => blet (x3 + (1 : Int32)) (fun x3_5 => f_X8_codeOf_L4 n x0 x1_3 x3_5 σ)))
def f_X8_codeOf (x0 : Nat) (σ : bSto) : Option (Int64 × bSto) := bl1 (f_X8_codeOf_L4 bFU x0 (0 : Int64) (0 : Int32) σ) (fun x1_1 σ2 => some (x1_1, σ2))
set_option maxHeartbeats 4000000 in
set_option maxRecDepth 20000 in
theorem e_X8_codeOf_L4 {X : bX} {l : Launch} {G : bG} {SH : bShp} {ρ : Nat → Nat} {A : Nat → Prop} {d : Nat} {r : Int64} {σ' : bSto} (C : bCX X cX8_codeOf RX8 (d + 5)) (Hh : bH X l G SH ρ A 4) (Rt : bRX X (some .long) (some (.long r)) σ') : ∀ (n : Nat) (x0 : Nat) (hx0 : x0 < bnS) (x1 : Int64) (x3 : Int32) (σ : bSto) (q : (Int64 × bSto)), f_X8_codeOf_L4 n x0 x1 x3 σ = some q → (∀ (x1 : Int64) (s : bSto), q = (x1, s) → bAJ X 34 [(1, .long x1)] [] s) → bAJ X 4 [(0, .ref (1000 + x0)), (1, .long x1), (3, .int x3)] [] σ := by
  intro n
  induction n with
  | zero => intro x0 hx0 x1 x3 σ q hF; rw [f_X8_codeOf_L4] at hF; cases hF
  | succ n ih =>
    intro x0 hx0 x1 x3 σ q hF hx
    rw [f_X8_codeOf_L4] at hF
    refine b_iload_n (pc := 4) C dX8_codeOf_4 rfl 2 rfl ?_
    refine b_aload_n (pc := 5) C dX8_codeOf_5 rfl 0 rfl ?_
    refine b_cT0i (d' := d + 4) (pc := 6) C dX8_codeOf_6 mm_X8_58 hx0 rfl (Nat.le_of_ble_eq_true rfl) (by omega) (Hh.2.2 _ _ _ _ _ _ _ _ _ (e_strlen (d + 3) _ hx0 _)) ?_
    refine b_icmp_ge (tgt := 34) (pc := 9) C dX8_codeOf_9 rfl (fun hc1 => ?_) (fun hc1 => ?_)
    · rw [if_pos hc1] at hF
      exact b_sub [1] rfl (hx _ _ (Option.some.inj hF).symm )
    · rw [if_neg hc1] at hF
      refine b_ldc2 (pc := 12) C dX8_codeOf_12 ww_X8_53 ?_
      refine b_lload_n (pc := 15) C dX8_codeOf_15 rfl 1 rfl ?_
      refine b_lmul (pc := 16) C dX8_codeOf_16 ?_
      refine b_aload_n (pc := 17) C dX8_codeOf_17 rfl 0 rfl ?_
      refine b_iload_n (pc := 18) C dX8_codeOf_18 rfl 2 rfl ?_
      obtain ⟨hb2, hF⟩ := bif_n hF
      refine b_cT1i (d' := d + 4) (pc := 19) C dX8_codeOf_19 mm_X8_63 hx0 rfl (Nat.le_of_ble_eq_true rfl) (by omega) (Hh.2.2 _ _ _ _ _ _ _ _ _ (e_strchr (d + 0) _ hx0 _ _ hb2)) ?_
      refine b_bipush (pc := 22) C dX8_codeOf_22 bp_96 ?_
      refine b_isub (pc := 24) C dX8_codeOf_24 ?_
      refine b_i2l (pc := 25) C dX8_codeOf_25 ?_
      refine b_ladd (pc := 26) C dX8_codeOf_26 ?_
      obtain ⟨x1_3, e4, hF⟩ := blet_e hF
      refine b_lstore_n (L' := [(1, .long x1_3), (0, .ref (1000 + x0)), (3, .int x3)]) (pc := 27) C dX8_codeOf_27 rfl e4 (Hh.2.1 _ (Nat.le_of_ble_eq_true rfl)) rfl ?_
      obtain ⟨x3_5, e6, hF⟩ := blet_e hF
      refine b_iinc (L' := [(3, .int x3_5), (1, .long x1_3), (0, .ref (1000 + x0))]) (pc := 28) C dX8_codeOf_28 2 rfl ic_1 e6 (Hh.2.1 _ (Nat.le_of_ble_eq_true rfl)) rfl ?_
      refine b_goto (tgt := 4) (pc := 31) C dX8_codeOf_31 rfl ?_
      exact b_sub [2, 1, 0] rfl (ih _ hx0 x1_3 x3_5 _ _ hF hx)
set_option maxHeartbeats 4000000 in
set_option maxRecDepth 20000 in
theorem e_X8_codeOf_0 {X : bX} {l : Launch} {G : bG} {SH : bShp} {ρ : Nat → Nat} {A : Nat → Prop} {d : Nat} {r : Int64} {σ' : bSto} (C : bCX X cX8_codeOf RX8 (d + 5)) (Hh : bH X l G SH ρ A 4) (Rt : bRX X (some .long) (some (.long r)) σ') (x0 : Nat) (hx0 : x0 < bnS) (σ : bSto) (hF : f_X8_codeOf x0 σ = some (r, σ')) : bAJ X 0 [(0, .ref (1000 + x0))] [] σ := by
  rw [f_X8_codeOf] at hF
  refine b_lconst (pc := 0) C dX8_codeOf_0 rfl ?_
  refine b_lstore_n (L' := [(1, .long (0 : Int64)), (0, .ref (1000 + x0))]) (pc := 1) C dX8_codeOf_1 rfl rfl (Hh.2.1 _ (Nat.le_of_ble_eq_true rfl)) rfl ?_
  refine b_iconst (pc := 2) C dX8_codeOf_2 ic_0 ?_
  refine b_istore_n (L' := [(3, .int (0 : Int32)), (1, .long (0 : Int64)), (0, .ref (1000 + x0))]) (pc := 3) C dX8_codeOf_3 rfl rfl (Hh.2.1 _ (Nat.le_of_ble_eq_true rfl)) rfl ?_
  obtain ⟨x1_1, σ2, hq1, hF⟩ := bl1_e hF
  refine b_sub [2, 1, 0] rfl (e_X8_codeOf_L4 C Hh Rt bFU _ hx0 (0 : Int64) (0 : Int32) _ _ hq1 (fun _ _ e  => ?_))
  cases e
  refine b_lload_n (pc := 34) C dX8_codeOf_34 rfl 0 rfl ?_
  exact b_lret (pc := 35) C Rt dX8_codeOf_35 hF
set_option maxHeartbeats 4000000 in
set_option maxRecDepth 20000 in
theorem e_X8_codeOf {l : Launch} {G : bG} {SH : bShp} {ρ : Nat → Nat} {A : Nat → Prop} (d : Nat) (x0 : Nat) (hx0 : x0 < bnS) (σ : bSto) (r : Int64) (σ' : bSto) (hF : f_X8_codeOf x0 σ = some (r, σ')) : bEv l G SH ρ A yX8_codeOf cX8_codeOf 4 (some .long) (d + 5) [.ref (1000 + x0)] σ (some (.long r)) σ' := b_met (d := d + 5) (by decide +kernel) (Nat.le_of_ble_eq_true rfl) rfl (fun X C Rt h1 h2 h3 => e_X8_codeOf_0 C ⟨fun o q h => by rw [h1]; exact h, fun i h => by rw [h2]; exact h, h3⟩ Rt _ hx0 _ hF)
