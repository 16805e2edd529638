/-! BenchColony$Packer.begin -/
def f_X5_begin_L42 : Nat → Nat → Int32 → bSto → Option (bSto)
  | 0, _, _, _ => none
  | n + 1, x1, x2, σ => (if (σ.1 58 4) ≤ x2 then some σ else bbd (f_X7_benchesFor x1 x2 σ) (fun v4 σ3 => if x2 < 0 ∨ 7 ≤ x2.toNatClampNeg then none else blet (bI σ3 61 x2.toNatClampNeg v4) (fun σ5 => blet (x2 + (1 : Int32)) (fun x2_8 => f_X5_begin_L42 n x1 x2_8 σ5))))
def f_X5_begin (x1 : Nat) (σ : bSto) : Option bSto := blet (bI σ 58 4 (σ.1 (x1 + 7) 7)) (fun σ1 => blet (bI σ1 58 5 (σ1.1 (x1 + 1) 5)) (fun σ3 => blet (bA σ3 59 (va_cpy (σ3.1 ((x1 + 1) + 4)) (σ3.1 59) (0 : Int32).toNatClampNeg (0 : Int32).toNatClampNeg (6 : Int32).toNatClampNeg)) (fun σ6 => bl0 (f_X5_begin_L42 bFU x1 (0 : Int32) σ6) (fun σ9 => some σ9))))
set_option maxHeartbeats 4000000 in
set_option maxRecDepth 20000 in
theorem e_X5_begin_L42 {X : bX} {l : Launch} {G : bG} {ρ : Nat → Nat} {A : Nat → Prop} {d : Nat} {σ' : bSto} (C : bCX X cX5_begin RX5 (d + 3)) (Hh : bH X l G bSHf ρ A 3) (Rt : bRX X none none σ') : ∀ (n : Nat) (x1 : Nat) (hx1 : kR x1) (x2 : Int32) (σ : bSto) (q : (bSto)), f_X5_begin_L42 n x1 x2 σ = some q → (∀  (s : bSto), q = s → bAJ X 67 [] [] s) → bAJ X 42 [(0, .ref 58), (1, .ref x1), (2, .int x2)] [] σ := by
  intro n
  induction n with
  | zero => intro x1 hx1 x2 σ q hF; rw [f_X5_begin_L42] at hF; cases hF
  | succ n ih =>
    intro x1 hx1 x2 σ q hF hx
    rw [f_X5_begin_L42] at hF
    refine b_iload_n (pc := 42) C dX5_begin_42 rfl 2 rfl ?_
    refine b_aload_n (pc := 43) C dX5_begin_43 rfl 0 rfl ?_
    refine b_getI (pc := 44) C dX5_begin_44 fl_X5_36 (Hh.1 _ _ sh_58) rfl ?_
    refine b_icmp_ge (tgt := 67) (pc := 47) C dX5_begin_47 rfl (fun hc1 => ?_) (fun hc1 => ?_)
    · rw [if_pos hc1] at hF
      exact b_sub [] rfl (hx  _ (Option.some.inj hF).symm )
    · rw [if_neg hc1] at hF
      refine b_aload_n (pc := 50) C dX5_begin_50 rfl 0 rfl ?_
      refine b_getS (pc := 51) C dX5_begin_51 fl_X5_18 (Hh.1 _ _ sh_58) rfl ?_
      refine b_iload_n (pc := 54) C dX5_begin_54 rfl 2 rfl ?_
      refine b_aload_n (pc := 55) C dX5_begin_55 rfl 1 rfl ?_
      refine b_iload_n (pc := 56) C dX5_begin_56 rfl 2 rfl ?_
      obtain ⟨v4, σ3, hc2, hF⟩ := bbd_e hF
      refine b_cV1i (d' := (d + 2)) (pc := 57) C dX5_begin_57 mm_X5_58 (Hh.1 _ _ (shR hx1)) rfl (Nat.le_of_ble_eq_true rfl) (by omega) (Hh.2.2 _ _ _ _ _ _ _ _ _ (lvl_eq (by omega) (e_X7_benchesFor (d + 0) _ hx1 x2 _ _ _ hc2))) ?_
      obtain ⟨hb7, hF⟩ := bif_n hF
      obtain ⟨σ5, e6, hF⟩ := blet_e hF
      refine b_iast (pc := 60) C dX5_begin_60 (Hh.1 _ _ sh_61) hb7 e6 ?_
      obtain ⟨x2_8, e9, hF⟩ := blet_e hF
      refine b_iinc (L' := [(2, .int x2_8), (0, .ref 58), (1, .ref x1)]) (pc := 61) C dX5_begin_61 2 rfl ic_1 e9 (Hh.2.1 _ (Nat.le_of_ble_eq_true rfl)) rfl ?_
      refine b_goto (tgt := 42) (pc := 64) C dX5_begin_64 rfl ?_
      exact b_sub [1, 2, 0] rfl (ih _ hx1 x2_8 _ _ hF hx)
set_option maxHeartbeats 4000000 in
set_option maxRecDepth 20000 in
theorem e_X5_begin_0 {X : bX} {l : Launch} {G : bG} {ρ : Nat → Nat} {A : Nat → Prop} {d : Nat} {σ' : bSto} (C : bCX X cX5_begin RX5 (d + 3)) (Hh : bH X l G bSHf ρ A 3) (Rt : bRX X none none σ') (x1 : Nat) (hx1 : kR x1) (σ : bSto) (hF : f_X5_begin x1 σ = some σ') : bAJ X 0 [(0, .ref 58), (1, .ref x1)] [] σ := by
  rw [f_X5_begin] at hF
  refine b_aload_n (pc := 0) C dX5_begin_0 rfl 0 rfl ?_
  refine b_aload_n (pc := 1) C dX5_begin_1 rfl 1 rfl ?_
  refine b_getS (pc := 2) C dX5_begin_2 fl_X5_24 (Hh.1 _ _ (shR hx1)) rfl ?_
  refine b_getI (pc := 5) C dX5_begin_5 fl_X5_30 (Hh.1 _ _ (shF (kk_7_1 hx1))) rfl ?_
  obtain ⟨σ1, e2, hF⟩ := blet_e hF
  refine b_putI (pc := 8) C dX5_begin_8 fp_X5_36 (Hh.1 _ _ sh_58) rfl rfl rfl e2 ?_
  refine b_aload_n (pc := 11) C dX5_begin_11 rfl 0 rfl ?_
  refine b_aload_n (pc := 12) C dX5_begin_12 rfl 1 rfl ?_
  refine b_getS (pc := 13) C dX5_begin_13 fl_X5_39 (Hh.1 _ _ (shR hx1)) rfl ?_
  refine b_getI (pc := 16) C dX5_begin_16 fl_X5_43 (Hh.1 _ _ (shH (kk_7_0 hx1))) rfl ?_
  obtain ⟨σ3, e4, hF⟩ := blet_e hF
  refine b_putI (pc := 19) C dX5_begin_19 fp_X5_46 (Hh.1 _ _ sh_58) rfl rfl rfl e4 ?_
  refine b_aload_n (pc := 22) C dX5_begin_22 rfl 1 rfl ?_
  refine b_getS (pc := 23) C dX5_begin_23 fl_X5_39 (Hh.1 _ _ (shR hx1)) rfl ?_
  refine b_getS (pc := 26) C dX5_begin_26 fl_X5_49 (Hh.1 _ _ (shH (kk_7_0 hx1))) rfl ?_
  refine b_iconst (pc := 29) C dX5_begin_29 ic_0 ?_
  refine b_aload_n (pc := 30) C dX5_begin_30 rfl 0 rfl ?_
  refine b_getS (pc := 31) C dX5_begin_31 fl_X5_9 (Hh.1 _ _ sh_58) rfl ?_
  refine b_iconst (pc := 34) C dX5_begin_34 ic_0 ?_
  refine b_bipush (pc := 35) C dX5_begin_35 bp_6 ?_
  obtain ⟨σ6, e7, hF⟩ := blet_e hF
  refine b_copy (pc := 37) C dX5_begin_37 ww_X5_52 wArr (Hh.1 _ _ (sa_3_3 (kk_7_0 hx1))) (Hh.1 _ _ sh_59) (Nat.le_of_ble_eq_true rfl) (by decide) e7 ?_
  refine b_iconst (pc := 40) C dX5_begin_40 ic_0 ?_
  refine b_istore_n (L' := [(2, .int (0 : Int32)), (0, .ref 58), (1, .ref x1)]) (pc := 41) C dX5_begin_41 rfl rfl (Hh.2.1 _ (Nat.le_of_ble_eq_true rfl)) rfl ?_
  obtain ⟨σ9, hq8, hF⟩ := bl0_e hF
  refine b_sub [1, 2, 0] rfl (e_X5_begin_L42 C Hh Rt bFU _ hx1 (0 : Int32) _ _ hq8 (fun  _ e  => ?_))
  cases e
  exact b_vret (pc := 67) C Rt dX5_begin_67 hF
set_option maxHeartbeats 4000000 in
set_option maxRecDepth 20000 in
theorem e_X5_begin {l : Launch} {G : bG} {ρ : Nat → Nat} {A : Nat → Prop} (d : Nat) (x1 : Nat) (hx1 : kR x1) (σ : bSto) (σ' : bSto) (hF : f_X5_begin x1 σ = some σ') : bEv l G bSHf ρ A yX5_begin cX5_begin 3 none (d + 3) [.ref 58, .ref x1] σ none σ' := b_met (d := d + 3) (by decide +kernel) (Nat.le_of_ble_eq_true rfl) rfl (fun X C Rt h1 h2 h3 => e_X5_begin_0 C ⟨fun o q h => by rw [h1]; exact h, fun i h => by rw [h2]; exact h, h3⟩ Rt _ hx1 _ hF)
/-! BenchColony$Packer.oneMovesOn -/
def f_X5_oneMovesOn_L2 (g : Int32 → Int32 → bSto → Option (Int32 × bSto)) : Nat → Int32 → Int32 → Int32 → bSto → Option ((Int32 × bSto) ⊕ (bSto))
  | 0, _, _, _, _ => none
  | n + 1, x1, x2, x3, σ => (if (σ.1 58 4) ≤ x3 then some (.inr σ) else if x3 < 0 ∨ 7 ≤ x3.toNatClampNeg then none else (if (σ.1 62 x3.toNatClampNeg) = x1 then bbd (g x3 (x2 + (1 : Int32)) σ) (fun v8 σ7 => (if v8 = 0 then blet (x3 + (1 : Int32)) (fun x3_10 => f_X5_oneMovesOn_L2 g n x1 x2 x3_10 σ7) else if x1 < 0 ∨ 6 ≤ x1.toNatClampNeg then none else if x1 < 0 ∨ 6 ≤ x1.toNatClampNeg then none else blet (bI σ7 60 x1.toNatClampNeg ((σ7.1 60 x1.toNatClampNeg) - (1 : Int32))) (fun σ13 => some (.inl ((1 : Int32), σ13))))) else blet (x3 + (1 : Int32)) (fun x3_4 => f_X5_oneMovesOn_L2 g n x1 x2 x3_4 σ)))
def f_X5_oneMovesOn (g : Int32 → Int32 → bSto → Option (Int32 × bSto)) (x1 : Int32) (x2 : Int32) (σ : bSto) : Option (Int32 × bSto) := br0 (f_X5_oneMovesOn_L2 g bFU x1 x2 (0 : Int32) σ) (fun v s => some (v, s)) (fun σ2 => some ((0 : Int32), σ2))
set_option maxHeartbeats 4000000 in
set_option maxRecDepth 20000 in
theorem e_X5_oneMovesOn_L2 {X : bX} {l : Launch} {G : bG} {ρ : Nat → Nat} {A : Nat → Prop} {d : Nat} {r : Int32} {σ' : bSto} {g : Int32 → Int32 → bSto → Option (Int32 × bSto)} (C : bCX X cX5_oneMovesOn RX5 (d + 1)) (Hh : bH X l G bSHf ρ A 4) (Rt : bRX X (some .boolean) (some (.int r)) σ') (hg : ∀ (y1 : Int32) (y2 : Int32) (σ : bSto) (r : Int32) (σ2 : bSto), g y1 y2 σ = some (r, σ2) → bEv l G bSHf ρ A yX5_findsSeat cX5_findsSeat 4 (some .boolean) d [.ref 58, .int y1, .int y2] σ (some (.int r)) σ2) : ∀ (n : Nat) (x1 : Int32) (x2 : Int32) (x3 : Int32) (σ : bSto) (q : ((Int32 × bSto) ⊕ (bSto))), f_X5_oneMovesOn_L2 g n x1 x2 x3 σ = some q → (∀ (v : Int32) (s : bSto), q = .inl (v, s) → some (v, s) = some (r, σ')) → (∀  (s : bSto), q = .inr s → bAJ X 49 [] [] s) → bAJ X 2 [(0, .ref 58), (1, .int x1), (2, .int x2), (3, .int x3)] [] σ := by
  intro n
  induction n with
  | zero => intro x1 x2 x3 σ q hF; rw [f_X5_oneMovesOn_L2] at hF; cases hF
  | succ n ih =>
    intro x1 x2 x3 σ q hF hr hx
    rw [f_X5_oneMovesOn_L2] at hF
    refine b_iload_n (pc := 2) C dX5_oneMovesOn_2 rfl 3 rfl ?_
    refine b_aload_n (pc := 3) C dX5_oneMovesOn_3 rfl 0 rfl ?_
    refine b_getI (pc := 4) C dX5_oneMovesOn_4 fl_X5_36 (Hh.1 _ _ sh_58) rfl ?_
    refine b_icmp_ge (tgt := 49) (pc := 7) C dX5_oneMovesOn_7 rfl (fun hc1 => ?_) (fun hc1 => ?_)
    · rw [if_pos hc1] at hF
      exact b_sub [] rfl (hx  _ (Option.some.inj hF).symm )
    · rw [if_neg hc1] at hF
      refine b_aload_n (pc := 10) C dX5_oneMovesOn_10 rfl 0 rfl ?_
      refine b_getS (pc := 11) C dX5_oneMovesOn_11 fl_X5_21 (Hh.1 _ _ sh_58) rfl ?_
      refine b_iload_n (pc := 14) C dX5_oneMovesOn_14 rfl 3 rfl ?_
      obtain ⟨hb2, hF⟩ := bif_n hF
      refine b_iald (pc := 15) C dX5_oneMovesOn_15 (Hh.1 _ _ sh_62) hb2 ?_
      refine b_iload_n (pc := 16) C dX5_oneMovesOn_16 rfl 1 rfl ?_
      refine b_icmp_ne (tgt := 43) (pc := 17) C dX5_oneMovesOn_17 rfl (fun hc3 => ?_) (fun hc3 => ?_)
      · rw [if_neg hc3] at hF
        obtain ⟨x3_4, e5, hF⟩ := blet_e hF
        refine b_iinc (L' := [(3, .int x3_4), (0, .ref 58), (1, .int x1), (2, .int x2)]) (pc := 43) C dX5_oneMovesOn_43 3 rfl ic_1 e5 (Hh.2.1 _ (Nat.le_of_ble_eq_true rfl)) rfl ?_
        refine b_goto (tgt := 2) (pc := 46) C dX5_oneMovesOn_46 rfl ?_
        exact b_sub [1, 2, 3, 0] rfl (ih x1 x2 x3_4 _ _ hF hr hx)
      · rw [if_pos hc3] at hF
        refine b_aload_n (pc := 20) C dX5_oneMovesOn_20 rfl 0 rfl ?_
        refine b_iload_n (pc := 21) C dX5_oneMovesOn_21 rfl 3 rfl ?_
        refine b_iload_n (pc := 22) C dX5_oneMovesOn_22 rfl 2 rfl ?_
        refine b_iconst (pc := 23) C dX5_oneMovesOn_23 ic_1 ?_
        refine b_iadd (pc := 24) C dX5_oneMovesOn_24 ?_
        obtain ⟨v8, σ7, hc6, hF⟩ := bbd_e hF
        refine b_cV2i (d' := d) (pc := 25) C dX5_oneMovesOn_25 mm_X5_71 (Hh.1 _ _ sh_58) rfl (Nat.le_of_ble_eq_true rfl) (by omega) (Hh.2.2 _ _ _ _ _ _ _ _ _ (hg _ _ _ _ _ hc6)) ?_
        refine b_if_eq (tgt := 43) (pc := 28) C dX5_oneMovesOn_28 rfl (fun hc9 => ?_) (fun hc9 => ?_)
        · rw [if_pos hc9] at hF
          obtain ⟨x3_10, e11, hF⟩ := blet_e hF
          refine b_iinc (L' := [(3, .int x3_10), (0, .ref 58), (1, .int x1), (2, .int x2)]) (pc := 43) C dX5_oneMovesOn_43 3 rfl ic_1 e11 (Hh.2.1 _ (Nat.le_of_ble_eq_true rfl)) rfl ?_
          refine b_goto (tgt := 2) (pc := 46) C dX5_oneMovesOn_46 rfl ?_
          exact b_sub [1, 2, 3, 0] rfl (ih x1 x2 x3_10 _ _ hF hr hx)
        · rw [if_neg hc9] at hF
          refine b_aload_n (pc := 31) C dX5_oneMovesOn_31 rfl 0 rfl ?_
          refine b_getS (pc := 32) C dX5_oneMovesOn_32 fl_X5_15 (Hh.1 _ _ sh_58) rfl ?_
          refine b_iload_n (pc := 35) C dX5_oneMovesOn_35 rfl 1 rfl ?_
          refine b_dup2 (pc := 36) C dX5_oneMovesOn_36 rfl rfl ?_
          obtain ⟨hb12, hF⟩ := bif_n hF
          refine b_iald (pc := 37) C dX5_oneMovesOn_37 (Hh.1 _ _ sh_60) hb12 ?_
          refine b_iconst (pc := 38) C dX5_oneMovesOn_38 ic_1 ?_
          refine b_isub (pc := 39) C dX5_oneMovesOn_39 ?_
          obtain ⟨hb15, hF⟩ := bif_n hF
          obtain ⟨σ13, e14, hF⟩ := blet_e hF
          refine b_iast (pc := 40) C dX5_oneMovesOn_40 (Hh.1 _ _ sh_60) hb15 e14 ?_
          refine b_iconst (pc := 41) C dX5_oneMovesOn_41 ic_1 ?_
          exact b_zret (pc := 42) C Rt dX5_oneMovesOn_42 rfl (hr _ _ (Option.some.inj hF).symm)
set_option maxHeartbeats 4000000 in
set_option maxRecDepth 20000 in
theorem e_X5_oneMovesOn_0 {X : bX} {l : Launch} {G : bG} {ρ : Nat → Nat} {A : Nat → Prop} {d : Nat} {r : Int32} {σ' : bSto} {g : Int32 → Int32 → bSto → Option (Int32 × bSto)} (C : bCX X cX5_oneMovesOn RX5 (d + 1)) (Hh : bH X l G bSHf ρ A 4) (Rt : bRX X (some .boolean) (some (.int r)) σ') (hg : ∀ (y1 : Int32) (y2 : Int32) (σ : bSto) (r : Int32) (σ2 : bSto), g y1 y2 σ = some (r, σ2) → bEv l G bSHf ρ A yX5_findsSeat cX5_findsSeat 4 (some .boolean) d [.ref 58, .int y1, .int y2] σ (some (.int r)) σ2) (x1 : Int32) (x2 : Int32) (σ : bSto) (hF : f_X5_oneMovesOn g x1 x2 σ = some (r, σ')) : bAJ X 0 [(0, .ref 58), (1, .int x1), (2, .int x2)] [] σ := by
  rw [f_X5_oneMovesOn] at hF
  refine b_iconst (pc := 0) C dX5_oneMovesOn_0 ic_0 ?_
  refine b_istore_n (L' := [(3, .int (0 : Int32)), (0, .ref 58), (1, .int x1), (2, .int x2)]) (pc := 1) C dX5_oneMovesOn_1 rfl rfl (Hh.2.1 _ (Nat.le_of_ble_eq_true rfl)) rfl ?_
  rcases br0_e hF with ⟨v, s, hq1, hF⟩ | ⟨σ2, hq1, hF⟩
  · exact b_sub [1, 2, 3, 0] rfl (e_X5_oneMovesOn_L2 C Hh Rt hg bFU x1 x2 (0 : Int32) _ _ hq1 (fun v s e => by cases e; exact hF) (fun  _ e => by cases e))
  · refine b_sub [1, 2, 3, 0] rfl (e_X5_oneMovesOn_L2 C Hh Rt hg bFU x1 x2 (0 : Int32) _ _ hq1 (fun v s e => by cases e) (fun  _ e  => ?_))
    cases e
    refine b_iconst (pc := 49) C dX5_oneMovesOn_49 ic_0 ?_
    exact b_zret (pc := 50) C Rt dX5_oneMovesOn_50 rfl hF
set_option maxHeartbeats 4000000 in
set_option maxRecDepth 20000 in
theorem e_X5_oneMovesOn {l : Launch} {G : bG} {ρ : Nat → Nat} {A : Nat → Prop} (d : Nat) {g : Int32 → Int32 → bSto → Option (Int32 × bSto)} (hg : ∀ (y1 : Int32) (y2 : Int32) (σ : bSto) (r : Int32) (σ2 : bSto), g y1 y2 σ = some (r, σ2) → bEv l G bSHf ρ A yX5_findsSeat cX5_findsSeat 4 (some .boolean) d [.ref 58, .int y1, .int y2] σ (some (.int r)) σ2) (x1 : Int32) (x2 : Int32) (σ : bSto) (r : Int32) (σ' : bSto) (hF : f_X5_oneMovesOn g x1 x2 σ = some (r, σ')) : bEv l G bSHf ρ A yX5_oneMovesOn cX5_oneMovesOn 4 (some .boolean) (d + 1) [.ref 58, .int x1, .int x2] σ (some (.int r)) σ' := b_met (d := d + 1) (by decide +kernel) (Nat.le_of_ble_eq_true rfl) rfl (fun X C Rt h1 h2 h3 => e_X5_oneMovesOn_0 C ⟨fun o q h => by rw [h1]; exact h, fun i h => by rw [h2]; exact h, h3⟩ Rt hg _ _ _ hF)
/-! BenchColony$Packer.findsSeat -/
def f_X5_findsSeat_J74_10 (g : Int32 → Int32 → bSto → Option (Int32 × bSto)) (k : Int32 → Int32 → Int32 → bSto → Option ((Int32 × bSto) ⊕ (bSto))) (x1 : Int32) (x3 : Int32) (σ : bSto) : Option ((Int32 × bSto) ⊕ (bSto)) := if x1 < 0 ∨ 7 ≤ x1.toNatClampNeg then none else blet (bI σ 62 x1.toNatClampNeg x3) (fun σ1 => if x3 < 0 ∨ 6 ≤ x3.toNatClampNeg then none else if x3 < 0 ∨ 6 ≤ x3.toNatClampNeg then none else blet (bI σ1 60 x3.toNatClampNeg ((σ1.1 60 x3.toNatClampNeg) + (1 : Int32))) (fun σ5 => some (.inl ((1 : Int32), σ5))))
def f_X5_findsSeat_L10 (g : Int32 → Int32 → bSto → Option (Int32 × bSto)) : Nat → Int32 → Int32 → Int32 → bSto → Option ((Int32 × bSto) ⊕ (bSto))
  | 0, _, _, _, _ => none
  | n + 1, x1, x2, x3, σ => (if (σ.1 58 5) ≤ x3 then some (.inr σ) else if x1 < 0 ∨ 7 ≤ x1.toNatClampNeg then none else (if (((σ.1 61 x1.toNatClampNeg) &&& ((σ.1 58 6) ^^^ (-1 : Int32))) &&& ((1 : Int32) <<< (x3 &&& 31))) = 0 then blet (x3 + (1 : Int32)) (fun x3_4 => f_X5_findsSeat_L10 g n x1 x2 x3_4 σ) else blet (bI σ 58 6 ((σ.1 58 6) ||| ((1 : Int32) <<< (x3 &&& 31)))) (fun σ6 => if x3 < 0 ∨ 6 ≤ x3.toNatClampNeg then none else if x3 < 0 ∨ 6 ≤ x3.toNatClampNeg then none else (if (σ6.1 60 x3.toNatClampNeg) < (σ6.1 59 x3.toNatClampNeg) then f_X5_findsSeat_J74_10 g (f_X5_findsSeat_L10 g n) x1 x3 σ6 else bbd (f_X5_oneMovesOn g x3 x2 σ6) (fun v13 σ12 => (if v13 = 0 then blet (x3 + (1 : Int32)) (fun x3_15 => f_X5_findsSeat_L10 g n x1 x2 x3_15 σ12) else f_X5_findsSeat_J74_10 g (f_X5_findsSeat_L10 g n) x1 x3 σ12))))))
def f_X5_findsSeat_B (g : Int32 → Int32 → bSto → Option (Int32 × bSto)) (x1 : Int32) (x2 : Int32) (σ : bSto) : Option (Int32 × bSto) := (if x2 ≤ (6 : Int32) then br0 (f_X5_findsSeat_L10 g bFU x1 x2 (0 : Int32) σ) (fun v s => some (v, s)) (fun σ3 => some ((0 : Int32), σ3)) else some ((0 : Int32), σ))
def f_X5_findsSeat : Nat → Int32 → Int32 → bSto → Option (Int32 × bSto)
  | 0, _, _, _ => none
  | n + 1, x1, x2, σ => f_X5_findsSeat_B (f_X5_findsSeat n) x1 x2 σ
set_option maxHeartbeats 4000000 in
set_option maxRecDepth 20000 in
theorem e_X5_findsSeat_J74_10 {X : bX} {l : Launch} {G : bG} {ρ : Nat → Nat} {A : Nat → Prop} {d : Nat} {r : Int32} {σ' : bSto} {g : Int32 → Int32 → bSto → Option (Int32 × bSto)} (C : bCX X cX5_findsSeat RX5 (d + 2)) (Hh : bH X l G bSHf ρ A 4) (Rt : bRX X (some .boolean) (some (.int r)) σ') (hg : ∀ (y1 : Int32) (y2 : Int32) (σ : bSto) (r : Int32) (σ2 : bSto), g y1 y2 σ = some (r, σ2) → bEv l G bSHf ρ A yX5_findsSeat cX5_findsSeat 4 (some .boolean) d [.ref 58, .int y1, .int y2] σ (some (.int r)) σ2) {k : Int32 → Int32 → Int32 → bSto → Option ((Int32 × bSto) ⊕ (bSto))} (ih : ∀ (x1 : Int32) (x2 : Int32) (x3 : Int32) (σ : bSto) (q : ((Int32 × bSto) ⊕ (bSto))), k x1 x2 x3 σ = some q → (∀ (v : Int32) (s : bSto), q = .inl (v, s) → some (v, s) = some (r, σ')) → (∀  (s : bSto), q = .inr s → bAJ X 99 [] [] s) → bAJ X 10 [(0, .ref 58), (1, .int x1), (2, .int x2), (3, .int x3)] [] σ) (x1 : Int32) (x3 : Int32) (σ : bSto) (q : ((Int32 × bSto) ⊕ (bSto))) (hF : f_X5_findsSeat_J74_10 g k x1 x3 σ = some q) : (∀ (v : Int32) (s : bSto), q = .inl (v, s) → some (v, s) = some (r, σ')) → (∀  (s : bSto), q = .inr s → bAJ X 99 [] [] s) → bAJ X 74 [(0, .ref 58), (1, .int x1), (3, .int x3)] [] σ := by
  intro hr hx
  rw [f_X5_findsSeat_J74_10] at hF
  refine b_aload_n (pc := 74) C dX5_findsSeat_74 rfl 0 rfl ?_
  refine b_getS (pc := 75) C dX5_findsSeat_75 fl_X5_21 (Hh.1 _ _ sh_58) rfl ?_
  refine b_iload_n (pc := 78) C dX5_findsSeat_78 rfl 1 rfl ?_
  refine b_iload_n (pc := 79) C dX5_findsSeat_79 rfl 2 rfl ?_
  obtain ⟨hb3, hF⟩ := bif_n hF
  obtain ⟨σ1, e2, hF⟩ := blet_e hF
  refine b_iast (pc := 80) C dX5_findsSeat_80 (Hh.1 _ _ sh_62) hb3 e2 ?_
  refine b_aload_n (pc := 81) C dX5_findsSeat_81 rfl 0 rfl ?_
  refine b_getS (pc := 82) C dX5_findsSeat_82 fl_X5_15 (Hh.1 _ _ sh_58) rfl ?_
  refine b_iload_n (pc := 85) C dX5_findsSeat_85 rfl 2 rfl ?_
  refine b_dup2 (pc := 86) C dX5_findsSeat_86 rfl rfl ?_
  obtain ⟨hb4, hF⟩ := bif_n hF
  refine b_iald (pc := 87) C dX5_findsSeat_87 (Hh.1 _ _ sh_60) hb4 ?_
  refine b_iconst (pc := 88) C dX5_findsSeat_88 ic_1 ?_
  refine b_iadd (pc := 89) C dX5_findsSeat_89 ?_
  obtain ⟨hb7, hF⟩ := bif_n hF
  obtain ⟨σ5, e6, hF⟩ := blet_e hF
  refine b_iast (pc := 90) C dX5_findsSeat_90 (Hh.1 _ _ sh_60) hb7 e6 ?_
  refine b_iconst (pc := 91) C dX5_findsSeat_91 ic_1 ?_
  exact b_zret (pc := 92) C Rt dX5_findsSeat_92 rfl (hr _ _ (Option.some.inj hF).symm)
set_option maxHeartbeats 4000000 in
set_option maxRecDepth 20000 in
theorem e_X5_findsSeat_L10 {X : bX} {l : Launch} {G : bG} {ρ : Nat → Nat} {A : Nat → Prop} {d : Nat} {r : Int32} {σ' : bSto} {g : Int32 → Int32 → bSto → Option (Int32 × bSto)} (C : bCX X cX5_findsSeat RX5 (d + 2)) (Hh : bH X l G bSHf ρ A 4) (Rt : bRX X (some .boolean) (some (.int r)) σ') (hg : ∀ (y1 : Int32) (y2 : Int32) (σ : bSto) (r : Int32) (σ2 : bSto), g y1 y2 σ = some (r, σ2) → bEv l G bSHf ρ A yX5_findsSeat cX5_findsSeat 4 (some .boolean) d [.ref 58, .int y1, .int y2] σ (some (.int r)) σ2) : ∀ (n : Nat) (x1 : Int32) (x2 : Int32) (x3 : Int32) (σ : bSto) (q : ((Int32 × bSto) ⊕ (bSto))), f_X5_findsSeat_L10 g n x1 x2 x3 σ = some q → (∀ (v : Int32) (s : bSto), q = .inl (v, s) → some (v, s) = some (r, σ')) → (∀  (s : bSto), q = .inr s → bAJ X 99 [] [] s) → bAJ X 10 [(0, .ref 58), (1, .int x1), (2, .int x2), (3, .int x3)] [] σ := by
  intro n
  induction n with
  | zero => intro x1 x2 x3 σ q hF; rw [f_X5_findsSeat_L10] at hF; cases hF
  | succ n ih =>
    intro x1 x2 x3 σ q hF hr hx
    rw [f_X5_findsSeat_L10] at hF
    refine b_iload_n (pc := 10) C dX5_findsSeat_10 rfl 3 rfl ?_
    refine b_aload_n (pc := 11) C dX5_findsSeat_11 rfl 0 rfl ?_
    refine b_getI (pc := 12) C dX5_findsSeat_12 fl_X5_46 (Hh.1 _ _ sh_58) rfl ?_
    refine b_icmp_ge (tgt := 99) (pc := 15) C dX5_findsSeat_15 rfl (fun hc1 => ?_) (fun hc1 => ?_)
    · rw [if_pos hc1] at hF
      exact b_sub [] rfl (hx  _ (Option.some.inj hF).symm )
    · rw [if_neg hc1] at hF
      refine b_aload_n (pc := 18) C dX5_findsSeat_18 rfl 0 rfl ?_
      refine b_getS (pc := 19) C dX5_findsSeat_19 fl_X5_18 (Hh.1 _ _ sh_58) rfl ?_
      refine b_iload_n (pc := 22) C dX5_findsSeat_22 rfl 1 rfl ?_
      obtain ⟨hb2, hF⟩ := bif_n hF
      refine b_iald (pc := 23) C dX5_findsSeat_23 (Hh.1 _ _ sh_61) hb2 ?_
      refine b_aload_n (pc := 24) C dX5_findsSeat_24 rfl 0 rfl ?_
      refine b_getI (pc := 25) C dX5_findsSeat_25 fl_X5_68 (Hh.1 _ _ sh_58) rfl ?_
      refine b_iconst (pc := 28) C dX5_findsSeat_28 ic_m1 ?_
      refine b_ixor (pc := 29) C dX5_findsSeat_29 ?_
      refine b_iand (pc := 30) C dX5_findsSeat_30 ?_
      refine b_iconst (pc := 31) C dX5_findsSeat_31 ic_1 ?_
      refine b_iload_n (pc := 32) C dX5_findsSeat_32 rfl 3 rfl ?_
      refine b_ishl (pc := 33) C dX5_findsSeat_33 ?_
      refine b_iand (pc := 34) C dX5_findsSeat_34 ?_
      refine b_if_eq (tgt := 93) (pc := 35) C dX5_findsSeat_35 rfl (fun hc3 => ?_) (fun hc3 => ?_)
      · rw [if_pos hc3] at hF
        obtain ⟨x3_4, e5, hF⟩ := blet_e hF
        refine b_iinc (L' := [(3, .int x3_4), (0, .ref 58), (1, .int x1), (2, .int x2)]) (pc := 93) C dX5_findsSeat_93 3 rfl ic_1 e5 (Hh.2.1 _ (Nat.le_of_ble_eq_true rfl)) rfl ?_
        refine b_goto (tgt := 10) (pc := 96) C dX5_findsSeat_96 rfl ?_
        exact b_sub [1, 2, 3, 0] rfl (ih x1 x2 x3_4 _ _ hF hr hx)
      · rw [if_neg hc3] at hF
        refine b_aload_n (pc := 38) C dX5_findsSeat_38 rfl 0 rfl ?_
        refine b_dup (pc := 39) C dX5_findsSeat_39 rfl ?_
        refine b_getI (pc := 40) C dX5_findsSeat_40 fl_X5_68 (Hh.1 _ _ sh_58) rfl ?_
        refine b_iconst (pc := 43) C dX5_findsSeat_43 ic_1 ?_
        refine b_iload_n (pc := 44) C dX5_findsSeat_44 rfl 3 rfl ?_
        refine b_ishl (pc := 45) C dX5_findsSeat_45 ?_
        refine b_ior (pc := 46) C dX5_findsSeat_46 ?_
        obtain ⟨σ6, e7, hF⟩ := blet_e hF
        refine b_putI (pc := 47) C dX5_findsSeat_47 fp_X5_68 (Hh.1 _ _ sh_58) rfl rfl rfl e7 ?_
        refine b_aload_n (pc := 50) C dX5_findsSeat_50 rfl 0 rfl ?_
        refine b_getS (pc := 51) C dX5_findsSeat_51 fl_X5_15 (Hh.1 _ _ sh_58) rfl ?_
        refine b_iload_n (pc := 54) C dX5_findsSeat_54 rfl 3 rfl ?_
        obtain ⟨hb8, hF⟩ := bif_n hF
        refine b_iald (pc := 55) C dX5_findsSeat_55 (Hh.1 _ _ sh_60) hb8 ?_
        refine b_aload_n (pc := 56) C dX5_findsSeat_56 rfl 0 rfl ?_
        refine b_getS (pc := 57) C dX5_findsSeat_57 fl_X5_9 (Hh.1 _ _ sh_58) rfl ?_
        refine b_iload_n (pc := 60) C dX5_findsSeat_60 rfl 3 rfl ?_
        obtain ⟨hb9, hF⟩ := bif_n hF
        refine b_iald (pc := 61) C dX5_findsSeat_61 (Hh.1 _ _ sh_59) hb9 ?_
        refine b_icmp_lt (tgt := 74) (pc := 62) C dX5_findsSeat_62 rfl (fun hc10 => ?_) (fun hc10 => ?_)
        · rw [if_pos hc10] at hF
          exact b_sub [0, 1, 3] rfl (e_X5_findsSeat_J74_10 C Hh Rt hg ih x1 x3 _ _ hF hr hx)
        · rw [if_neg hc10] at hF
          refine b_aload_n (pc := 65) C dX5_findsSeat_65 rfl 0 rfl ?_
          refine b_iload_n (pc := 66) C dX5_findsSeat_66 rfl 3 rfl ?_
          refine b_iload_n (pc := 67) C dX5_findsSeat_67 rfl 2 rfl ?_
          obtain ⟨v13, σ12, hc11, hF⟩ := bbd_e hF
          refine b_cV2i (d' := (d + 1)) (pc := 68) C dX5_findsSeat_68 mm_X5_75 (Hh.1 _ _ sh_58) rfl (Nat.le_of_ble_eq_true rfl) (by omega) (Hh.2.2 _ _ _ _ _ _ _ _ _ (e_X5_oneMovesOn d hg x3 x2 _ _ _ hc11)) ?_
          refine b_if_eq (tgt := 93) (pc := 71) C dX5_findsSeat_71 rfl (fun hc14 => ?_) (fun hc14 => ?_)
          · rw [if_pos hc14] at hF
            obtain ⟨x3_15, e16, hF⟩ := blet_e hF
            refine b_iinc (L' := [(3, .int x3_15), (0, .ref 58), (1, .int x1), (2, .int x2)]) (pc := 93) C dX5_findsSeat_93 3 rfl ic_1 e16 (Hh.2.1 _ (Nat.le_of_ble_eq_true rfl)) rfl ?_
            refine b_goto (tgt := 10) (pc := 96) C dX5_findsSeat_96 rfl ?_
            exact b_sub [1, 2, 3, 0] rfl (ih x1 x2 x3_15 _ _ hF hr hx)
          · rw [if_neg hc14] at hF
            exact b_sub [0, 1, 3] rfl (e_X5_findsSeat_J74_10 C Hh Rt hg ih x1 x3 _ _ hF hr hx)
set_option maxHeartbeats 4000000 in
set_option maxRecDepth 20000 in
theorem e_X5_findsSeat_0 {X : bX} {l : Launch} {G : bG} {ρ : Nat → Nat} {A : Nat → Prop} {d : Nat} {r : Int32} {σ' : bSto} {g : Int32 → Int32 → bSto → Option (Int32 × bSto)} (C : bCX X cX5_findsSeat RX5 (d + 2)) (Hh : bH X l G bSHf ρ A 4) (Rt : bRX X (some .boolean) (some (.int r)) σ') (hg : ∀ (y1 : Int32) (y2 : Int32) (σ : bSto) (r : Int32) (σ2 : bSto), g y1 y2 σ = some (r, σ2) → bEv l G bSHf ρ A yX5_findsSeat cX5_findsSeat 4 (some .boolean) d [.ref 58, .int y1, .int y2] σ (some (.int r)) σ2) (x1 : Int32) (x2 : Int32) (σ : bSto) (hF : f_X5_findsSeat_B g x1 x2 σ = some (r, σ')) : bAJ X 0 [(0, .ref 58), (1, .int x1), (2, .int x2)] [] σ := by
  rw [f_X5_findsSeat_B] at hF
  refine b_iload_n (pc := 0) C dX5_findsSeat_0 rfl 2 rfl ?_
  refine b_bipush (pc := 1) C dX5_findsSeat_1 bp_6 ?_
  refine b_icmp_le (tgt := 8) (pc := 3) C dX5_findsSeat_3 rfl (fun hc1 => ?_) (fun hc1 => ?_)
  · rw [if_pos hc1] at hF
    refine b_iconst (pc := 8) C dX5_findsSeat_8 ic_0 ?_
    refine b_istore_n (L' := [(3, .int (0 : Int32)), (0, .ref 58), (1, .int x1), (2, .int x2)]) (pc := 9) C dX5_findsSeat_9 rfl rfl (Hh.2.1 _ (Nat.le_of_ble_eq_true rfl)) rfl ?_
    rcases br0_e hF with ⟨v, s, hq2, hF⟩ | ⟨σ3, hq2, hF⟩
    · exact b_sub [1, 2, 3, 0] rfl (e_X5_findsSeat_L10 C Hh Rt hg bFU x1 x2 (0 : Int32) _ _ hq2 (fun v s e => by cases e; exact hF) (fun  _ e => by cases e))
    · refine b_sub [1, 2, 3, 0] rfl (e_X5_findsSeat_L10 C Hh Rt hg bFU x1 x2 (0 : Int32) _ _ hq2 (fun v s e => by cases e) (fun  _ e  => ?_))
      cases e
      refine b_iconst (pc := 99) C dX5_findsSeat_99 ic_0 ?_
      exact b_zret (pc := 100) C Rt dX5_findsSeat_100 rfl hF
  · rw [if_neg hc1] at hF
    refine b_iconst (pc := 6) C dX5_findsSeat_6 ic_0 ?_
    exact b_zret (pc := 7) C Rt dX5_findsSeat_7 rfl hF
set_option maxHeartbeats 4000000 in
set_option maxRecDepth 20000 in
theorem e_X5_findsSeat {l : Launch} {G : bG} {ρ : Nat → Nat} {A : Nat → Prop} : ∀ (n d : Nat) (x1 : Int32) (x2 : Int32) (σ : bSto) (r : Int32) (σ' : bSto), f_X5_findsSeat n x1 x2 σ = some (r, σ') → bEv l G bSHf ρ A yX5_findsSeat cX5_findsSeat 4 (some .boolean) (d + 2 * n) [.ref 58, .int x1, .int x2] σ (some (.int r)) σ' := by
  intro n
  induction n with
  | zero => intro d x1 x2 σ r σ' hF; rw [f_X5_findsSeat] at hF; cases hF
  | succ n ih =>
    intro d x1 x2 σ r σ' hF
    rw [f_X5_findsSeat] at hF
    rw [show (d + 2 * (n + 1)) = (d + 2 * n) + 2 by omega]
    exact b_met (d := (d + 2 * n) + 2) (by decide +kernel) (Nat.le_of_ble_eq_true rfl) rfl (fun X C Rt h1 h2 h3 => e_X5_findsSeat_0 C ⟨fun o q h => by rw [h1]; exact h, fun i h => by rw [h2]; exact h, h3⟩ Rt (fun _ _ _ _ _ h => ih d _ _ _ _ _ h) _ _ _ hF)
/-! BenchColony$Packer.most -/
def f_X5_most_L21 : Nat → Int32 → Int32 → Int32 → bSto → Option (Int32 × bSto)
  | 0, _, _, _, _ => none
  | n + 1, x1, x2, x3, σ => (if (σ.1 58 4) ≤ x3 then some (x2, σ) else blet (bI σ 58 6 (0 : Int32)) (fun σ2 => (if ((x1 >>> (x3 &&& 31)) &&& (1 : Int32)) = (1 : Int32) then bbd (f_X5_findsSeat 20 x3 (0 : Int32) σ2) (fun v9 σ8 => (if v9 = 0 then blet (x3 + (1 : Int32)) (fun x3_11 => f_X5_most_L21 n x1 x2 x3_11 σ8) else blet (x2 + (1 : Int32)) (fun x2_13 => blet (x3 + (1 : Int32)) (fun x3_15 => f_X5_most_L21 n x1 x2_13 x3_15 σ8)))) else blet (x3 + (1 : Int32)) (fun x3_5 => f_X5_most_L21 n x1 x2 x3_5 σ2))))
def f_X5_most (x1 : Int32) (σ : bSto) : Option (Int32 × bSto) := bbv (f_J7_fill_53178 62 (-2 : Int32) σ) (fun σ2 => bbv (f_J7_fill_53178 60 (0 : Int32) σ2) (fun σ4 => bl1 (f_X5_most_L21 bFU x1 (0 : Int32) (0 : Int32) σ4) (fun x2_5 σ6 => some (x2_5, σ6))))
set_option maxHeartbeats 4000000 in
set_option maxRecDepth 20000 in
theorem e_X5_most_L21 {X : bX} {l : Launch} {G : bG} {ρ : Nat → Nat} {A : Nat → Prop} {d : Nat} {r : Int32} {σ' : bSto} (C : bCX X cX5_most RX5 (d + 41)) (Hh : bH X l G bSHf ρ A 4) (Rt : bRX X (some .int) (some (.int r)) σ') : ∀ (n : Nat) (x1 : Int32) (x2 : Int32) (x3 : Int32) (σ : bSto) (q : (Int32 × bSto)), f_X5_most_L21 n x1 x2 x3 σ = some q → (∀ (x2 : Int32) (s : bSto), q = (x2, s) → bAJ X 61 [(2, .int x2)] [] s) → bAJ X 21 [(0, .ref 58), (1, .int x1), (2, .int x2), (3, .int x3)] [] σ := by
  intro n
  induction n with
  | zero => intro x1 x2 x3 σ q hF; rw [f_X5_most_L21] at hF; cases hF
  | succ n ih =>
    intro x1 x2 x3 σ q hF hx
    rw [f_X5_most_L21] at hF
    refine b_iload_n (pc := 21) C dX5_most_21 rfl 3 rfl ?_
    refine b_aload_n (pc := 22) C dX5_most_22 rfl 0 rfl ?_
    refine b_getI (pc := 23) C dX5_most_23 fl_X5_36 (Hh.1 _ _ sh_58) rfl ?_
    refine b_icmp_ge (tgt := 61) (pc := 26) C dX5_most_26 rfl (fun hc1 => ?_) (fun hc1 => ?_)
    · rw [if_pos hc1] at hF
      exact b_sub [2] rfl (hx _ _ (Option.some.inj hF).symm )
    · rw [if_neg hc1] at hF
      refine b_aload_n (pc := 29) C dX5_most_29 rfl 0 rfl ?_
      refine b_iconst (pc := 30) C dX5_most_30 ic_0 ?_
      obtain ⟨σ2, e3, hF⟩ := blet_e hF
      refine b_putI (pc := 31) C dX5_most_31 fp_X5_68 (Hh.1 _ _ sh_58) rfl rfl rfl e3 ?_
      refine b_iload_n (pc := 34) C dX5_most_34 rfl 1 rfl ?_
      refine b_iload_n (pc := 35) C dX5_most_35 rfl 3 rfl ?_
      refine b_ishr (pc := 36) C dX5_most_36 ?_
      refine b_iconst (pc := 37) C dX5_most_37 ic_1 ?_
      refine b_iand (pc := 38) C dX5_most_38 ?_
      refine b_iconst (pc := 39) C dX5_most_39 ic_1 ?_
      refine b_icmp_ne (tgt := 55) (pc := 40) C dX5_most_40 rfl (fun hc4 => ?_) (fun hc4 => ?_)
      · rw [if_neg hc4] at hF
        obtain ⟨x3_5, e6, hF⟩ := blet_e hF
        refine b_iinc (L' := [(3, .int x3_5), (0, .ref 58), (1, .int x1), (2, .int x2)]) (pc := 55) C dX5_most_55 3 rfl ic_1 e6 (Hh.2.1 _ (Nat.le_of_ble_eq_true rfl)) rfl ?_
        refine b_goto (tgt := 21) (pc := 58) C dX5_most_58 rfl ?_
        exact b_sub [1, 2, 3, 0] rfl (ih x1 x2 x3_5 _ _ hF hx)
      · rw [if_pos hc4] at hF
        refine b_aload_n (pc := 43) C dX5_most_43 rfl 0 rfl ?_
        refine b_iload_n (pc := 44) C dX5_most_44 rfl 3 rfl ?_
        refine b_iconst (pc := 45) C dX5_most_45 ic_0 ?_
        obtain ⟨v9, σ8, hc7, hF⟩ := bbd_e hF
        refine b_cV2i (d' := (d + 40)) (pc := 46) C dX5_most_46 mm_X5_71 (Hh.1 _ _ sh_58) rfl (Nat.le_of_ble_eq_true rfl) (by omega) (Hh.2.2 _ _ _ _ _ _ _ _ _ (lvl_eq (by omega) (e_X5_findsSeat 20 (d + 0) x3 (0 : Int32) _ _ _ hc7))) ?_
        refine b_if_eq (tgt := 55) (pc := 49) C dX5_most_49 rfl (fun hc10 => ?_) (fun hc10 => ?_)
        · rw [if_pos hc10] at hF
          obtain ⟨x3_11, e12, hF⟩ := blet_e hF
          refine b_iinc (L' := [(3, .int x3_11), (0, .ref 58), (1, .int x1), (2, .int x2)]) (pc := 55) C dX5_most_55 3 rfl ic_1 e12 (Hh.2.1 _ (Nat.le_of_ble_eq_true rfl)) rfl ?_
          refine b_goto (tgt := 21) (pc := 58) C dX5_most_58 rfl ?_
          exact b_sub [1, 2, 3, 0] rfl (ih x1 x2 x3_11 _ _ hF hx)
        · rw [if_neg hc10] at hF
          obtain ⟨x2_13, e14, hF⟩ := blet_e hF
          refine b_iinc (L' := [(2, .int x2_13), (0, .ref 58), (1, .int x1), (3, .int x3)]) (pc := 52) C dX5_most_52 2 rfl ic_1 e14 (Hh.2.1 _ (Nat.le_of_ble_eq_true rfl)) rfl ?_
          obtain ⟨x3_15, e16, hF⟩ := blet_e hF
          refine b_iinc (L' := [(3, .int x3_15), (2, .int x2_13), (0, .ref 58), (1, .int x1)]) (pc := 55) C dX5_most_55 3 rfl ic_1 e16 (Hh.2.1 _ (Nat.le_of_ble_eq_true rfl)) rfl ?_
          refine b_goto (tgt := 21) (pc := 58) C dX5_most_58 rfl ?_
          exact b_sub [2, 3, 1, 0] rfl (ih x1 x2_13 x3_15 _ _ hF hx)
set_option maxHeartbeats 4000000 in
set_option maxRecDepth 20000 in
theorem e_X5_most_0 {X : bX} {l : Launch} {G : bG} {ρ : Nat → Nat} {A : Nat → Prop} {d : Nat} {r : Int32} {σ' : bSto} (C : bCX X cX5_most RX5 (d + 41)) (Hh : bH X l G bSHf ρ A 4) (Rt : bRX X (some .int) (some (.int r)) σ') (x1 : Int32) (σ : bSto) (hF : f_X5_most x1 σ = some (r, σ')) : bAJ X 0 [(0, .ref 58), (1, .int x1)] [] σ := by
  rw [f_X5_most] at hF
  refine b_aload_n (pc := 0) C dX5_most_0 rfl 0 rfl ?_
  refine b_getS (pc := 1) C dX5_most_1 fl_X5_21 (Hh.1 _ _ sh_58) rfl ?_
  refine b_bipush (pc := 4) C dX5_most_4 bp_m2 ?_
  obtain ⟨σ2, hc1, hF⟩ := bbv_e hF
  refine b_cS2v (d' := (d + 40)) (pc := 6) C dX5_most_6 mm_X5_62 (Nat.le_of_ble_eq_true rfl) (by omega) (Hh.2.2 _ _ _ _ _ _ _ _ _ (lvl_eq (by omega) (e_J7_fill_53178 (d + 40) _ (show kIA 62 from sh_62) (-2 : Int32) _ _ hc1))) ?_
  refine b_aload_n (pc := 9) C dX5_most_9 rfl 0 rfl ?_
  refine b_getS (pc := 10) C dX5_most_10 fl_X5_15 (Hh.1 _ _ sh_58) rfl ?_
  refine b_iconst (pc := 13) C dX5_most_13 ic_0 ?_
  obtain ⟨σ4, hc3, hF⟩ := bbv_e hF
  refine b_cS2v (d' := (d + 40)) (pc := 14) C dX5_most_14 mm_X5_62 (Nat.le_of_ble_eq_true rfl) (by omega) (Hh.2.2 _ _ _ _ _ _ _ _ _ (lvl_eq (by omega) (e_J7_fill_53178 (d + 40) _ (show kIA 60 from sh_60) (0 : Int32) _ _ hc3))) ?_
  refine b_iconst (pc := 17) C dX5_most_17 ic_0 ?_
  refine b_istore_n (L' := [(2, .int (0 : Int32)), (0, .ref 58), (1, .int x1)]) (pc := 18) C dX5_most_18 rfl rfl (Hh.2.1 _ (Nat.le_of_ble_eq_true rfl)) rfl ?_
  refine b_iconst (pc := 19) C dX5_most_19 ic_0 ?_
  refine b_istore_n (L' := [(3, .int (0 : Int32)), (2, .int (0 : Int32)), (0, .ref 58), (1, .int x1)]) (pc := 20) C dX5_most_20 rfl rfl (Hh.2.1 _ (Nat.le_of_ble_eq_true rfl)) rfl ?_
  obtain ⟨x2_5, σ6, hq5, hF⟩ := bl1_e hF
  refine b_sub [2, 3, 1, 0] rfl (e_X5_most_L21 C Hh Rt bFU x1 (0 : Int32) (0 : Int32) _ _ hq5 (fun _ _ e  => ?_))
  cases e
  refine b_iload_n (pc := 61) C dX5_most_61 rfl 0 rfl ?_
  exact b_iret (pc := 62) C Rt dX5_most_62 hF
set_option maxHeartbeats 4000000 in
set_option maxRecDepth 20000 in
theorem e_X5_most {l : Launch} {G : bG} {ρ : Nat → Nat} {A : Nat → Prop} (d : Nat) (x1 : Int32) (σ : bSto) (r : Int32) (σ' : bSto) (hF : f_X5_most x1 σ = some (r, σ')) : bEv l G bSHf ρ A yX5_most cX5_most 4 (some .int) (d + 41) [.ref 58, .int x1] σ (some (.int r)) σ' := b_met (d := d + 41) (by decide +kernel) (Nat.le_of_ble_eq_true rfl) rfl (fun X C Rt h1 h2 h3 => e_X5_most_0 C ⟨fun o q h => by rw [h1]; exact h, fun i h => by rw [h2]; exact h, h3⟩ Rt _ _ hF)
/-! BenchColony$Packer.takeFirst -/
def f_X5_takeFirst_L3 : Nat → Int32 → Int32 → Int32 → Int32 → bSto → Option ((Int32 × bSto) ⊕ (bSto))
  | 0, _, _, _, _, _ => none
  | n + 1, x1, x2, x3, x4, σ => (if (σ.1 58 5) ≤ x4 then some (.inr σ) else if x4 < 0 ∨ 6 ≤ x4.toNatClampNeg then none else (if (σ.1 59 x4.toNatClampNeg) ≤ 0 then blet (x4 + (1 : Int32)) (fun x4_4 => f_X5_takeFirst_L3 n x1 x2 x3 x4_4 σ) else if x1 < 0 ∨ 7 ≤ x1.toNatClampNeg then none else (if (((σ.1 61 x1.toNatClampNeg) >>> (x4 &&& 31)) &&& (1 : Int32)) = (1 : Int32) then if x4 < 0 ∨ 6 ≤ x4.toNatClampNeg then none else if x4 < 0 ∨ 6 ≤ x4.toNatClampNeg then none else blet (bI σ 59 x4.toNatClampNeg ((σ.1 59 x4.toNatClampNeg) - (1 : Int32))) (fun σ11 => bbd (f_X5_most x2 σ11) (fun v16 σ15 => (if v16 = (x3 - (1 : Int32)) then some (.inl (x4, σ15)) else if x4 < 0 ∨ 6 ≤ x4.toNatClampNeg then none else if x4 < 0 ∨ 6 ≤ x4.toNatClampNeg then none else blet (bI σ15 59 x4.toNatClampNeg ((σ15.1 59 x4.toNatClampNeg) + (1 : Int32))) (fun σ19 => blet (x4 + (1 : Int32)) (fun x4_22 => f_X5_takeFirst_L3 n x1 x2 x3 x4_22 σ19))))) else blet (x4 + (1 : Int32)) (fun x4_8 => f_X5_takeFirst_L3 n x1 x2 x3 x4_8 σ))))
def f_X5_takeFirst (x1 : Int32) (x2 : Int32) (x3 : Int32) (σ : bSto) : Option (Int32 × bSto) := br0 (f_X5_takeFirst_L3 bFU x1 x2 x3 (0 : Int32) σ) (fun v s => some (v, s)) (fun σ2 => some ((-2 : Int32), σ2))
set_option maxHeartbeats 4000000 in
set_option maxRecDepth 20000 in
theorem e_X5_takeFirst_L3 {X : bX} {l : Launch} {G : bG} {ρ : Nat → Nat} {A : Nat → Prop} {d : Nat} {r : Int32} {σ' : bSto} (C : bCX X cX5_takeFirst RX5 (d + 42)) (Hh : bH X l G bSHf ρ A 5) (Rt : bRX X (some .int) (some (.int r)) σ') : ∀ (n : Nat) (x1 : Int32) (x2 : Int32) (x3 : Int32) (x4 : Int32) (σ : bSto) (q : ((Int32 × bSto) ⊕ (bSto))), f_X5_takeFirst_L3 n x1 x2 x3 x4 σ = some q → (∀ (v : Int32) (s : bSto), q = .inl (v, s) → some (v, s) = some (r, σ')) → (∀  (s : bSto), q = .inr s → bAJ X 79 [] [] s) → bAJ X 3 [(0, .ref 58), (1, .int x1), (2, .int x2), (3, .int x3), (4, .int x4)] [] σ := by
  intro n
  induction n with
  | zero => intro x1 x2 x3 x4 σ q hF; rw [f_X5_takeFirst_L3] at hF; cases hF
  | succ n ih =>
    intro x1 x2 x3 x4 σ q hF hr hx
    rw [f_X5_takeFirst_L3] at hF
    refine b_iload (pc := 3) C dX5_takeFirst_3 4 rfl ?_
    refine b_aload_n (pc := 5) C dX5_takeFirst_5 rfl 0 rfl ?_
    refine b_getI (pc := 6) C dX5_takeFirst_6 fl_X5_46 (Hh.1 _ _ sh_58) rfl ?_
    refine b_icmp_ge (tgt := 79) (pc := 9) C dX5_takeFirst_9 rfl (fun hc1 => ?_) (fun hc1 => ?_)
    · rw [if_pos hc1] at hF
      exact b_sub [] rfl (hx  _ (Option.some.inj hF).symm )
    · rw [if_neg hc1] at hF
      refine b_aload_n (pc := 12) C dX5_takeFirst_12 rfl 0 rfl ?_
      refine b_getS (pc := 13) C dX5_takeFirst_13 fl_X5_9 (Hh.1 _ _ sh_58) rfl ?_
      refine b_iload (pc := 16) C dX5_takeFirst_16 4 rfl ?_
      obtain ⟨hb2, hF⟩ := bif_n hF
      refine b_iald (pc := 18) C dX5_takeFirst_18 (Hh.1 _ _ sh_59) hb2 ?_
      refine b_if_le (tgt := 73) (pc := 19) C dX5_takeFirst_19 rfl (fun hc3 => ?_) (fun hc3 => ?_)
      · rw [if_pos hc3] at hF
        obtain ⟨x4_4, e5, hF⟩ := blet_e hF
        refine b_iinc (L' := [(4, .int x4_4), (0, .ref 58), (1, .int x1), (2, .int x2), (3, .int x3)]) (pc := 73) C dX5_takeFirst_73 4 rfl ic_1 e5 (Hh.2.1 _ (Nat.le_of_ble_eq_true rfl)) rfl ?_
        refine b_goto (tgt := 3) (pc := 76) C dX5_takeFirst_76 rfl ?_
        exact b_sub [1, 2, 3, 4, 0] rfl (ih x1 x2 x3 x4_4 _ _ hF hr hx)
      · rw [if_neg hc3] at hF
        refine b_aload_n (pc := 22) C dX5_takeFirst_22 rfl 0 rfl ?_
        refine b_getS (pc := 23) C dX5_takeFirst_23 fl_X5_18 (Hh.1 _ _ sh_58) rfl ?_
        refine b_iload_n (pc := 26) C dX5_takeFirst_26 rfl 1 rfl ?_
        obtain ⟨hb6, hF⟩ := bif_n hF
        refine b_iald (pc := 27) C dX5_takeFirst_27 (Hh.1 _ _ sh_61) hb6 ?_
        refine b_iload (pc := 28) C dX5_takeFirst_28 4 rfl ?_
        refine b_ishr (pc := 30) C dX5_takeFirst_30 ?_
        refine b_iconst (pc := 31) C dX5_takeFirst_31 ic_1 ?_
        refine b_iand (pc := 32) C dX5_takeFirst_32 ?_
        refine b_iconst (pc := 33) C dX5_takeFirst_33 ic_1 ?_
        refine b_icmp_ne (tgt := 73) (pc := 34) C dX5_takeFirst_34 rfl (fun hc7 => ?_) (fun hc7 => ?_)
        · rw [if_neg hc7] at hF
          obtain ⟨x4_8, e9, hF⟩ := blet_e hF
          refine b_iinc (L' := [(4, .int x4_8), (0, .ref 58), (1, .int x1), (2, .int x2), (3, .int x3)]) (pc := 73) C dX5_takeFirst_73 4 rfl ic_1 e9 (Hh.2.1 _ (Nat.le_of_ble_eq_true rfl)) rfl ?_
          refine b_goto (tgt := 3) (pc := 76) C dX5_takeFirst_76 rfl ?_
          exact b_sub [1, 2, 3, 4, 0] rfl (ih x1 x2 x3 x4_8 _ _ hF hr hx)
        · rw [if_pos hc7] at hF
          refine b_aload_n (pc := 37) C dX5_takeFirst_37 rfl 0 rfl ?_
          refine b_getS (pc := 38) C dX5_takeFirst_38 fl_X5_9 (Hh.1 _ _ sh_58) rfl ?_
          refine b_iload (pc := 41) C dX5_takeFirst_41 4 rfl ?_
          refine b_dup2 (pc := 43) C dX5_takeFirst_43 rfl rfl ?_
          obtain ⟨hb10, hF⟩ := bif_n hF
          refine b_iald (pc := 44) C dX5_takeFirst_44 (Hh.1 _ _ sh_59) hb10 ?_
          refine b_iconst (pc := 45) C dX5_takeFirst_45 ic_1 ?_
          refine b_isub (pc := 46) C dX5_takeFirst_46 ?_
          obtain ⟨hb13, hF⟩ := bif_n hF
          obtain ⟨σ11, e12, hF⟩ := blet_e hF
          refine b_iast (pc := 47) C dX5_takeFirst_47 (Hh.1 _ _ sh_59) hb13 e12 ?_
          refine b_aload_n (pc := 48) C dX5_takeFirst_48 rfl 0 rfl ?_
          refine b_iload_n (pc := 49) C dX5_takeFirst_49 rfl 2 rfl ?_
          obtain ⟨v16, σ15, hc14, hF⟩ := bbd_e hF
          refine b_cV1i (d' := (d + 41)) (pc := 50) C dX5_takeFirst_50 mm_X5_86 (Hh.1 _ _ sh_58) rfl (Nat.le_of_ble_eq_true rfl) (by omega) (Hh.2.2 _ _ _ _ _ _ _ _ _ (lvl_eq (by omega) (e_X5_most (d + 0) x2 _ _ _ hc14))) ?_
          refine b_iload_n (pc := 53) C dX5_takeFirst_53 rfl 3 rfl ?_
          refine b_iconst (pc := 54) C dX5_takeFirst_54 ic_1 ?_
          refine b_isub (pc := 55) C dX5_takeFirst_55 ?_
          refine b_icmp_ne (tgt := 62) (pc := 56) C dX5_takeFirst_56 rfl (fun hc17 => ?_) (fun hc17 => ?_)
          · rw [if_neg hc17] at hF
            refine b_aload_n (pc := 62) C dX5_takeFirst_62 rfl 0 rfl ?_
            refine b_getS (pc := 63) C dX5_takeFirst_63 fl_X5_9 (Hh.1 _ _ sh_58) rfl ?_
            refine b_iload (pc := 66) C dX5_takeFirst_66 4 rfl ?_
            refine b_dup2 (pc := 68) C dX5_takeFirst_68 rfl rfl ?_
            obtain ⟨hb18, hF⟩ := bif_n hF
            refine b_iald (pc := 69) C dX5_takeFirst_69 (Hh.1 _ _ sh_59) hb18 ?_
            refine b_iconst (pc := 70) C dX5_takeFirst_70 ic_1 ?_
            refine b_iadd (pc := 71) C dX5_takeFirst_71 ?_
            obtain ⟨hb21, hF⟩ := bif_n hF
            obtain ⟨σ19, e20, hF⟩ := blet_e hF
            refine b_iast (pc := 72) C dX5_takeFirst_72 (Hh.1 _ _ sh_59) hb21 e20 ?_
            obtain ⟨x4_22, e23, hF⟩ := blet_e hF
            refine b_iinc (L' := [(4, .int x4_22), (0, .ref 58), (1, .int x1), (2, .int x2), (3, .int x3)]) (pc := 73) C dX5_takeFirst_73 4 rfl ic_1 e23 (Hh.2.1 _ (Nat.le_of_ble_eq_true rfl)) rfl ?_
            refine b_goto (tgt := 3) (pc := 76) C dX5_takeFirst_76 rfl ?_
            exact b_sub [1, 2, 3, 4, 0] rfl (ih x1 x2 x3 x4_22 _ _ hF hr hx)
          · rw [if_pos hc17] at hF
            refine b_iload (pc := 59) C dX5_takeFirst_59 4 rfl ?_
            exact b_iret (pc := 61) C Rt dX5_takeFirst_61 (hr _ _ (Option.some.inj hF).symm)
set_option maxHeartbeats 4000000 in
set_option maxRecDepth 20000 in
theorem e_X5_takeFirst_0 {X : bX} {l : Launch} {G : bG} {ρ : Nat → Nat} {A : Nat → Prop} {d : Nat} {r : Int32} {σ' : bSto} (C : bCX X cX5_takeFirst RX5 (d + 42)) (Hh : bH X l G bSHf ρ A 5) (Rt : bRX X (some .int) (some (.int r)) σ') (x1 : Int32) (x2 : Int32) (x3 : Int32) (σ : bSto) (hF : f_X5_takeFirst x1 x2 x3 σ = some (r, σ')) : bAJ X 0 [(0, .ref 58), (1, .int x1), (2, .int x2), (3, .int x3)] [] σ := by
  rw [f_X5_takeFirst] at hF
  refine b_iconst (pc := 0) C dX5_takeFirst_0 ic_0 ?_
  refine b_istore (L' := [(4, .int (0 : Int32)), (0, .ref 58), (1, .int x1), (2, .int x2), (3, .int x3)]) (pc := 1) C dX5_takeFirst_1 rfl (Hh.2.1 _ (Nat.le_of_ble_eq_true rfl)) rfl ?_
  rcases br0_e hF with ⟨v, s, hq1, hF⟩ | ⟨σ2, hq1, hF⟩
  · exact b_sub [1, 2, 3, 4, 0] rfl (e_X5_takeFirst_L3 C Hh Rt bFU x1 x2 x3 (0 : Int32) _ _ hq1 (fun v s e => by cases e; exact hF) (fun  _ e => by cases e))
  · refine b_sub [1, 2, 3, 4, 0] rfl (e_X5_takeFirst_L3 C Hh Rt bFU x1 x2 x3 (0 : Int32) _ _ hq1 (fun v s e => by cases e) (fun  _ e  => ?_))
    cases e
    refine b_bipush (pc := 79) C dX5_takeFirst_79 bp_m2 ?_
    exact b_iret (pc := 81) C Rt dX5_takeFirst_81 hF
set_option maxHeartbeats 4000000 in
set_option maxRecDepth 20000 in
theorem e_X5_takeFirst {l : Launch} {G : bG} {ρ : Nat → Nat} {A : Nat → Prop} (d : Nat) (x1 : Int32) (x2 : Int32) (x3 : Int32) (σ : bSto) (r : Int32) (σ' : bSto) (hF : f_X5_takeFirst x1 x2 x3 σ = some (r, σ')) : bEv l G bSHf ρ A yX5_takeFirst cX5_takeFirst 5 (some .int) (d + 42) [.ref 58, .int x1, .int x2, .int x3] σ (some (.int r)) σ' := b_met (d := d + 42) (by decide +kernel) (Nat.le_of_ble_eq_true rfl) rfl (fun X C Rt h1 h2 h3 => e_X5_takeFirst_0 C ⟨fun o q h => by rw [h1]; exact h, fun i h => by rw [h2]; exact h, h3⟩ Rt _ _ _ _ hF)
/-! BenchColony$Packer.firstRowAt -/
def f_X5_firstRowAt_L27 : Nat → Int32 → Int32 → Int32 → Int32 → Int32 → bSto → Option (Int32 × bSto)
  | 0, _, _, _, _, _, _ => none
  | n + 1, x2, x3, x4, x5, x6, σ => (if x2 < x6 then some (x5, σ) else (if (σ.1 58 4) ≤ x6 then some (x5, σ) else blet (x3 &&& (((1 : Int32) <<< (x6 &&& 31)) ^^^ (-1 : Int32))) (fun x3_3 => bbd (f_X5_takeFirst x6 x3_3 x4 σ) (fun v7 σ6 => (if v7 = (-2 : Int32) then blet (x6 + (1 : Int32)) (fun x6_9 => f_X5_firstRowAt_L27 n x2 x3_3 x4 v7 x6_9 σ6) else blet (x4 + (-1 : Int32)) (fun x4_11 => blet (x6 + (1 : Int32)) (fun x6_13 => f_X5_firstRowAt_L27 n x2 x3_3 x4_11 v7 x6_13 σ6)))))))
def f_X5_firstRowAt (x1 : Nat) (x2 : Int32) (σ : bSto) : Option (Int32 × bSto) := bbv (f_X5_begin x1 σ) (fun σ2 => bbd (f_X2_everybody (x1 + 7) σ2) (fun v5 σ4 => bbd (f_X5_most v5 σ4) (fun v8 σ7 => bl1 (f_X5_firstRowAt_L27 bFU x2 v5 v8 (-2 : Int32) (0 : Int32) σ7) (fun x5_9 σ10 => some (x5_9, σ10)))))
set_option maxHeartbeats 4000000 in
set_option maxRecDepth 20000 in
theorem e_X5_firstRowAt_L27 {X : bX} {l : Launch} {G : bG} {ρ : Nat → Nat} {A : Nat → Prop} {d : Nat} {r : Int32} {σ' : bSto} (C : bCX X cX5_firstRowAt RX5 (d + 43)) (Hh : bH X l G bSHf ρ A 7) (Rt : bRX X (some .int) (some (.int r)) σ') : ∀ (n : Nat) (x2 : Int32) (x3 : Int32) (x4 : Int32) (x5 : Int32) (x6 : Int32) (σ : bSto) (q : (Int32 × bSto)), f_X5_firstRowAt_L27 n x2 x3 x4 x5 x6 σ = some q → (∀ (x5 : Int32) (s : bSto), q = (x5, s) → bAJ X 78 [(5, .int x5)] [] s) → bAJ X 27 [(0, .ref 58), (2, .int x2), (3, .int x3), (4, .int x4), (5, .int x5), (6, .int x6)] [] σ := by
  intro n
  induction n with
  | zero => intro x2 x3 x4 x5 x6 σ q hF; rw [f_X5_firstRowAt_L27] at hF; cases hF
  | succ n ih =>
    intro x2 x3 x4 x5 x6 σ q hF hx
    rw [f_X5_firstRowAt_L27] at hF
    refine b_iload (pc := 27) C dX5_firstRowAt_27 5 rfl ?_
    refine b_iload_n (pc := 29) C dX5_firstRowAt_29 rfl 1 rfl ?_
    refine b_icmp_gt (tgt := 78) (pc := 30) C dX5_firstRowAt_30 rfl (fun hc1 => ?_) (fun hc1 => ?_)
    · rw [if_pos hc1] at hF
      exact b_sub [4] rfl (hx _ _ (Option.some.inj hF).symm )
    · rw [if_neg hc1] at hF
      refine b_iload (pc := 33) C dX5_firstRowAt_33 5 rfl ?_
      refine b_aload_n (pc := 35) C dX5_firstRowAt_35 rfl 0 rfl ?_
      refine b_getI (pc := 36) C dX5_firstRowAt_36 fl_X5_36 (Hh.1 _ _ sh_58) rfl ?_
      refine b_icmp_ge (tgt := 78) (pc := 39) C dX5_firstRowAt_39 rfl (fun hc2 => ?_) (fun hc2 => ?_)
      · rw [if_pos hc2] at hF
        exact b_sub [4] rfl (hx _ _ (Option.some.inj hF).symm )
      · rw [if_neg hc2] at hF
        refine b_iload_n (pc := 42) C dX5_firstRowAt_42 rfl 2 rfl ?_
        refine b_iconst (pc := 43) C dX5_firstRowAt_43 ic_1 ?_
        refine b_iload (pc := 44) C dX5_firstRowAt_44 5 rfl ?_
        refine b_ishl (pc := 46) C dX5_firstRowAt_46 ?_
        refine b_iconst (pc := 47) C dX5_firstRowAt_47 ic_m1 ?_
        refine b_ixor (pc := 48) C dX5_firstRowAt_48 ?_
        refine b_iand (pc := 49) C dX5_firstRowAt_49 ?_
        obtain ⟨x3_3, e4, hF⟩ := blet_e hF
        refine b_istore_n (L' := [(3, .int x3_3), (0, .ref 58), (2, .int x2), (4, .int x4), (5, .int x5), (6, .int x6)]) (pc := 50) C dX5_firstRowAt_50 rfl e4 (Hh.2.1 _ (Nat.le_of_ble_eq_true rfl)) rfl ?_
        refine b_aload_n (pc := 51) C dX5_firstRowAt_51 rfl 1 rfl ?_
        refine b_iload (pc := 52) C dX5_firstRowAt_52 5 rfl ?_
        refine b_iload_n (pc := 54) C dX5_firstRowAt_54 rfl 0 rfl ?_
        refine b_iload (pc := 55) C dX5_firstRowAt_55 3 rfl ?_
        obtain ⟨v7, σ6, hc5, hF⟩ := bbd_e hF
        refine b_cV3i (d' := (d + 42)) (pc := 57) C dX5_firstRowAt_57 mm_X5_89 (Hh.1 _ _ sh_58) rfl (Nat.le_of_ble_eq_true rfl) (by omega) (Hh.2.2 _ _ _ _ _ _ _ _ _ (lvl_eq (by omega) (e_X5_takeFirst (d + 0) x6 x3_3 x4 _ _ _ hc5))) ?_
        refine b_istore (L' := [(5, .int v7), (3, .int x3_3), (0, .ref 58), (2, .int x2), (4, .int x4), (6, .int x6)]) (pc := 60) C dX5_firstRowAt_60 rfl (Hh.2.1 _ (Nat.le_of_ble_eq_true rfl)) rfl ?_
        refine b_iload (pc := 62) C dX5_firstRowAt_62 0 rfl ?_
        refine b_bipush (pc := 64) C dX5_firstRowAt_64 bp_m2 ?_
        refine b_icmp_eq (tgt := 72) (pc := 66) C dX5_firstRowAt_66 rfl (fun hc8 => ?_) (fun hc8 => ?_)
        · rw [if_pos hc8] at hF
          obtain ⟨x6_9, e10, hF⟩ := blet_e hF
          refine b_iinc (L' := [(6, .int x6_9), (5, .int v7), (3, .int x3_3), (0, .ref 58), (2, .int x2), (4, .int x4)]) (pc := 72) C dX5_firstRowAt_72 5 rfl ic_1 e10 (Hh.2.1 _ (Nat.le_of_ble_eq_true rfl)) rfl ?_
          refine b_goto (tgt := 27) (pc := 75) C dX5_firstRowAt_75 rfl ?_
          exact b_sub [3, 4, 2, 5, 1, 0] rfl (ih x2 x3_3 x4 v7 x6_9 _ _ hF hx)
        · rw [if_neg hc8] at hF
          obtain ⟨x4_11, e12, hF⟩ := blet_e hF
          refine b_iinc (L' := [(4, .int x4_11), (5, .int v7), (3, .int x3_3), (0, .ref 58), (2, .int x2), (6, .int x6)]) (pc := 69) C dX5_firstRowAt_69 4 rfl ic_m1 e12 (Hh.2.1 _ (Nat.le_of_ble_eq_true rfl)) rfl ?_
          obtain ⟨x6_13, e14, hF⟩ := blet_e hF
          refine b_iinc (L' := [(6, .int x6_13), (4, .int x4_11), (5, .int v7), (3, .int x3_3), (0, .ref 58), (2, .int x2)]) (pc := 72) C dX5_firstRowAt_72 5 rfl ic_1 e14 (Hh.2.1 _ (Nat.le_of_ble_eq_true rfl)) rfl ?_
          refine b_goto (tgt := 27) (pc := 75) C dX5_firstRowAt_75 rfl ?_
          exact b_sub [4, 5, 3, 1, 2, 0] rfl (ih x2 x3_3 x4_11 v7 x6_13 _ _ hF hx)
set_option maxHeartbeats 4000000 in
set_option maxRecDepth 20000 in
theorem e_X5_firstRowAt_0 {X : bX} {l : Launch} {G : bG} {ρ : Nat → Nat} {A : Nat → Prop} {d : Nat} {r : Int32} {σ' : bSto} (C : bCX X cX5_firstRowAt RX5 (d + 43)) (Hh : bH X l G bSHf ρ A 7) (Rt : bRX X (some .int) (some (.int r)) σ') (x1 : Nat) (hx1 : kR x1) (x2 : Int32) (σ : bSto) (hF : f_X5_firstRowAt x1 x2 σ = some (r, σ')) : bAJ X 0 [(0, .ref 58), (1, .ref x1), (2, .int x2)] [] σ := by
  rw [f_X5_firstRowAt] at hF
  refine b_aload_n (pc := 0) C dX5_firstRowAt_0 rfl 0 rfl ?_
  refine b_aload_n (pc := 1) C dX5_firstRowAt_1 rfl 1 rfl ?_
  obtain ⟨σ2, hc1, hF⟩ := bbv_e hF
  refine b_cV1v (d' := (d + 42)) (pc := 2) C dX5_firstRowAt_2 mm_X5_78 (Hh.1 _ _ sh_58) rfl (Nat.le_of_ble_eq_true rfl) (by omega) (Hh.2.2 _ _ _ _ _ _ _ _ _ (lvl_eq (by omega) (e_X5_begin (d + 39) _ hx1 _ _ hc1))) ?_
  refine b_aload_n (pc := 5) C dX5_firstRowAt_5 rfl 1 rfl ?_
  refine b_getS (pc := 6) C dX5_firstRowAt_6 fl_X5_24 (Hh.1 _ _ (shR hx1)) rfl ?_
  obtain ⟨v5, σ4, hc3, hF⟩ := bbd_e hF
  refine b_cV0i (d' := (d + 42)) (pc := 9) C dX5_firstRowAt_9 mm_X5_82 (Hh.1 _ _ (shF (kk_7_1 hx1))) rfl (Nat.le_of_ble_eq_true rfl) (by omega) (Hh.2.2 _ _ _ _ _ _ _ _ _ (lvl_eq (by omega) (e_X2_everybody (d + 42) _ (kk_7_1 hx1) _ _ _ hc3))) ?_
  refine b_istore_n (L' := [(3, .int v5), (0, .ref 58), (1, .ref x1), (2, .int x2)]) (pc := 12) C dX5_firstRowAt_12 rfl rfl (Hh.2.1 _ (Nat.le_of_ble_eq_true rfl)) rfl ?_
  refine b_aload_n (pc := 13) C dX5_firstRowAt_13 rfl 1 rfl ?_
  refine b_iload_n (pc := 14) C dX5_firstRowAt_14 rfl 0 rfl ?_
  obtain ⟨v8, σ7, hc6, hF⟩ := bbd_e hF
  refine b_cV1i (d' := (d + 42)) (pc := 15) C dX5_firstRowAt_15 mm_X5_86 (Hh.1 _ _ sh_58) rfl (Nat.le_of_ble_eq_true rfl) (by omega) (Hh.2.2 _ _ _ _ _ _ _ _ _ (lvl_eq (by omega) (e_X5_most (d + 1) v5 _ _ _ hc6))) ?_
  refine b_istore (L' := [(4, .int v8), (3, .int v5), (0, .ref 58), (1, .ref x1), (2, .int x2)]) (pc := 18) C dX5_firstRowAt_18 rfl (Hh.2.1 _ (Nat.le_of_ble_eq_true rfl)) rfl ?_
  refine b_bipush (pc := 20) C dX5_firstRowAt_20 bp_m2 ?_
  refine b_istore (L' := [(5, .int (-2 : Int32)), (4, .int v8), (3, .int v5), (0, .ref 58), (1, .ref x1), (2, .int x2)]) (pc := 22) C dX5_firstRowAt_22 rfl (Hh.2.1 _ (Nat.le_of_ble_eq_true rfl)) rfl ?_
  refine b_iconst (pc := 24) C dX5_firstRowAt_24 ic_0 ?_
  refine b_istore (L' := [(6, .int (0 : Int32)), (5, .int (-2 : Int32)), (4, .int v8), (3, .int v5), (0, .ref 58), (1, .ref x1), (2, .int x2)]) (pc := 25) C dX5_firstRowAt_25 rfl (Hh.2.1 _ (Nat.le_of_ble_eq_true rfl)) rfl ?_
  obtain ⟨x5_9, σ10, hq9, hF⟩ := bl1_e hF
  refine b_sub [4, 6, 3, 2, 1, 0] rfl (e_X5_firstRowAt_L27 C Hh Rt bFU x2 v5 v8 (-2 : Int32) (0 : Int32) _ _ hq9 (fun _ _ e  => ?_))
  cases e
  refine b_iload (pc := 78) C dX5_firstRowAt_78 0 rfl ?_
  exact b_iret (pc := 80) C Rt dX5_firstRowAt_80 hF
set_option maxHeartbeats 4000000 in
set_option maxRecDepth 20000 in
theorem e_X5_firstRowAt {l : Launch} {G : bG} {ρ : Nat → Nat} {A : Nat → Prop} (d : Nat) (x1 : Nat) (hx1 : kR x1) (x2 : Int32) (σ : bSto) (r : Int32) (σ' : bSto) (hF : f_X5_firstRowAt x1 x2 σ = some (r, σ')) : bEv l G bSHf ρ A yX5_firstRowAt cX5_firstRowAt 7 (some .int) (d + 43) [.ref 58, .ref x1, .int x2] σ (some (.int r)) σ' := b_met (d := d + 43) (by decide +kernel) (Nat.le_of_ble_eq_true rfl) rfl (fun X C Rt h1 h2 h3 => e_X5_firstRowAt_0 C ⟨fun o q h => by rw [h1]; exact h, fun i h => by rw [h2]; exact h, h3⟩ Rt _ hx1 _ _ hF)
/-! BenchColony$Packer.openSeats -/
def f_X5_openSeats_L5 : Nat → Nat → Int32 → Int32 → Int32 → bSto → Option (Int32 × bSto)
  | 0, _, _, _, _, _ => none
  | n + 1, x1, x2, x3, x4, σ => (if (σ.1 58 5) ≤ x4 then some (x3, σ) else if x4 < 0 ∨ 6 ≤ x4.toNatClampNeg then none else (if (σ.1 (x1 + 5) x4.toNatClampNeg) = x2 then if x4 < 0 ∨ 6 ≤ x4.toNatClampNeg then none else if x4 < 0 ∨ 6 ≤ x4.toNatClampNeg then none else blet (bI σ 59 x4.toNatClampNeg (σ.1 (x1 + 4) x4.toNatClampNeg)) (fun σ7 => blet (x4 + (1 : Int32)) (fun x4_10 => f_X5_openSeats_L5 n x1 x2 (1 : Int32) x4_10 σ7)) else blet (x4 + (1 : Int32)) (fun x4_4 => f_X5_openSeats_L5 n x1 x2 x3 x4_4 σ)))
def f_X5_openSeats (x1 : Nat) (x2 : Int32) (σ : bSto) : Option (Int32 × bSto) := bl1 (f_X5_openSeats_L5 bFU x1 x2 (0 : Int32) (0 : Int32) σ) (fun x3_1 σ2 => if x3_1 = 0 ∨ x3_1 = 1 then some (x3_1, σ2) else none)
set_option maxHeartbeats 4000000 in
set_option maxRecDepth 20000 in
theorem e_X5_openSeats_L5 {X : bX} {l : Launch} {G : bG} {ρ : Nat → Nat} {A : Nat → Prop} {d : Nat} {r : Int32} {σ' : bSto} (C : bCX X cX5_openSeats RX5 (d + 0)) (Hh : bH X l G bSHf ρ A 5) (Rt : bRX X (some .boolean) (some (.int r)) σ') : ∀ (n : Nat) (x1 : Nat) (hx1 : kH x1) (x2 : Int32) (x3 : Int32) (x4 : Int32) (σ : bSto) (q : (Int32 × bSto)), f_X5_openSeats_L5 n x1 x2 x3 x4 σ = some q → (∀ (x3 : Int32) (s : bSto), q = (x3, s) → bAJ X 47 [(3, .int x3)] [] s) → bAJ X 5 [(0, .ref 58), (1, .ref x1), (2, .int x2), (3, .int x3), (4, .int x4)] [] σ := by
  intro n
  induction n with
  | zero => intro x1 hx1 x2 x3 x4 σ q hF; rw [f_X5_openSeats_L5] at hF; cases hF
  | succ n ih =>
    intro x1 hx1 x2 x3 x4 σ q hF hx
    rw [f_X5_openSeats_L5] at hF
    refine b_iload (pc := 5) C dX5_openSeats_5 4 rfl ?_
    refine b_aload_n (pc := 7) C dX5_openSeats_7 rfl 0 rfl ?_
    refine b_getI (pc := 8) C dX5_openSeats_8 fl_X5_46 (Hh.1 _ _ sh_58) rfl ?_
    refine b_icmp_ge (tgt := 47) (pc := 11) C dX5_openSeats_11 rfl (fun hc1 => ?_) (fun hc1 => ?_)
    · rw [if_pos hc1] at hF
      exact b_sub [3] rfl (hx _ _ (Option.some.inj hF).symm )
    · rw [if_neg hc1] at hF
      refine b_aload_n (pc := 14) C dX5_openSeats_14 rfl 1 rfl ?_
      refine b_getS (pc := 15) C dX5_openSeats_15 fl_X5_97 (Hh.1 _ _ (shH hx1)) rfl ?_
      refine b_iload (pc := 18) C dX5_openSeats_18 4 rfl ?_
      obtain ⟨hb2, hF⟩ := bif_n hF
      refine b_iald (pc := 20) C dX5_openSeats_20 (Hh.1 _ _ (sa_3_4 hx1)) hb2 ?_
      refine b_iload_n (pc := 21) C dX5_openSeats_21 rfl 2 rfl ?_
      refine b_icmp_ne (tgt := 41) (pc := 22) C dX5_openSeats_22 rfl (fun hc3 => ?_) (fun hc3 => ?_)
      · rw [if_neg hc3] at hF
        obtain ⟨x4_4, e5, hF⟩ := blet_e hF
        refine b_iinc (L' := [(4, .int x4_4), (0, .ref 58), (1, .ref x1), (2, .int x2), (3, .int x3)]) (pc := 41) C dX5_openSeats_41 4 rfl ic_1 e5 (Hh.2.1 _ (Nat.le_of_ble_eq_true rfl)) rfl ?_
        refine b_goto (tgt := 5) (pc := 44) C dX5_openSeats_44 rfl ?_
        exact b_sub [1, 2, 3, 4, 0] rfl (ih _ hx1 x2 x3 x4_4 _ _ hF hx)
      · rw [if_pos hc3] at hF
        refine b_aload_n (pc := 25) C dX5_openSeats_25 rfl 0 rfl ?_
        refine b_getS (pc := 26) C dX5_openSeats_26 fl_X5_9 (Hh.1 _ _ sh_58) rfl ?_
        refine b_iload (pc := 29) C dX5_openSeats_29 4 rfl ?_
        refine b_aload_n (pc := 31) C dX5_openSeats_31 rfl 1 rfl ?_
        refine b_getS (pc := 32) C dX5_openSeats_32 fl_X5_49 (Hh.1 _ _ (shH hx1)) rfl ?_
        refine b_iload (pc := 35) C dX5_openSeats_35 4 rfl ?_
        obtain ⟨hb6, hF⟩ := bif_n hF
        refine b_iald (pc := 37) C dX5_openSeats_37 (Hh.1 _ _ (sa_3_3 hx1)) hb6 ?_
        obtain ⟨hb9, hF⟩ := bif_n hF
        obtain ⟨σ7, e8, hF⟩ := blet_e hF
        refine b_iast (pc := 38) C dX5_openSeats_38 (Hh.1 _ _ sh_59) hb9 e8 ?_
        refine b_iconst (pc := 39) C dX5_openSeats_39 ic_1 ?_
        refine b_istore_n (L' := [(3, .int (1 : Int32)), (0, .ref 58), (1, .ref x1), (2, .int x2), (4, .int x4)]) (pc := 40) C dX5_openSeats_40 rfl rfl (Hh.2.1 _ (Nat.le_of_ble_eq_true rfl)) rfl ?_
        obtain ⟨x4_10, e11, hF⟩ := blet_e hF
        refine b_iinc (L' := [(4, .int x4_10), (3, .int (1 : Int32)), (0, .ref 58), (1, .ref x1), (2, .int x2)]) (pc := 41) C dX5_openSeats_41 4 rfl ic_1 e11 (Hh.2.1 _ (Nat.le_of_ble_eq_true rfl)) rfl ?_
        refine b_goto (tgt := 5) (pc := 44) C dX5_openSeats_44 rfl ?_
        exact b_sub [2, 3, 4, 1, 0] rfl (ih _ hx1 x2 (1 : Int32) x4_10 _ _ hF hx)
set_option maxHeartbeats 4000000 in
set_option maxRecDepth 20000 in
theorem e_X5_openSeats_0 {X : bX} {l : Launch} {G : bG} {ρ : Nat → Nat} {A : Nat → Prop} {d : Nat} {r : Int32} {σ' : bSto} (C : bCX X cX5_openSeats RX5 (d + 0)) (Hh : bH X l G bSHf ρ A 5) (Rt : bRX X (some .boolean) (some (.int r)) σ') (x1 : Nat) (hx1 : kH x1) (x2 : Int32) (σ : bSto) (hF : f_X5_openSeats x1 x2 σ = some (r, σ')) : bAJ X 0 [(0, .ref 58), (1, .ref x1), (2, .int x2)] [] σ := by
  rw [f_X5_openSeats] at hF
  refine b_iconst (pc := 0) C dX5_openSeats_0 ic_0 ?_
  refine b_istore_n (L' := [(3, .int (0 : Int32)), (0, .ref 58), (1, .ref x1), (2, .int x2)]) (pc := 1) C dX5_openSeats_1 rfl rfl (Hh.2.1 _ (Nat.le_of_ble_eq_true rfl)) rfl ?_
  refine b_iconst (pc := 2) C dX5_openSeats_2 ic_0 ?_
  refine b_istore (L' := [(4, .int (0 : Int32)), (3, .int (0 : Int32)), (0, .ref 58), (1, .ref x1), (2, .int x2)]) (pc := 3) C dX5_openSeats_3 rfl (Hh.2.1 _ (Nat.le_of_ble_eq_true rfl)) rfl ?_
  obtain ⟨x3_1, σ2, hq1, hF⟩ := bl1_e hF
  refine b_sub [2, 3, 4, 1, 0] rfl (e_X5_openSeats_L5 C Hh Rt bFU _ hx1 x2 (0 : Int32) (0 : Int32) _ _ hq1 (fun _ _ e  => ?_))
  cases e
  refine b_iload_n (pc := 47) C dX5_openSeats_47 rfl 0 rfl ?_
  obtain ⟨hz3, hF⟩ := bif_y hF
  exact b_zret (pc := 48) C Rt dX5_openSeats_48 (bz_n hz3) hF
set_option maxHeartbeats 4000000 in
set_option maxRecDepth 20000 in
theorem e_X5_openSeats {l : Launch} {G : bG} {ρ : Nat → Nat} {A : Nat → Prop} (d : Nat) (x1 : Nat) (hx1 : kH x1) (x2 : Int32) (σ : bSto) (r : Int32) (σ' : bSto) (hF : f_X5_openSeats x1 x2 σ = some (r, σ')) : bEv l G bSHf ρ A yX5_openSeats cX5_openSeats 5 (some .boolean) (d + 0) [.ref 58, .ref x1, .int x2] σ (some (.int r)) σ' := b_met (d := d + 0) (by decide +kernel) (Nat.le_of_ble_eq_true rfl) rfl (fun X C Rt h1 h2 h3 => e_X5_openSeats_0 C ⟨fun o q h => by rw [h1]; exact h, fun i h => by rw [h2]; exact h, h3⟩ Rt _ hx1 _ _ hF)
/-! BenchColony$Packer.leastRent -/
def f_X5_leastRent_L20 : Nat → Nat → Int32 → Int32 → Int32 → bSto → Option (Int32 × bSto)
  | 0, _, _, _, _, _ => none
  | n + 1, x1, x2, x3, x4, σ => (if (30 : Int32) < x4 then some (x2, σ) else bbd (f_X5_openSeats (x1 + 1) x4 σ) (fun v4 σ3 => (if v4 = 0 then blet (x4 + (1 : Int32)) (fun x4_6 => f_X5_leastRent_L20 n x1 x2 x3 x4_6 σ3) else bbd (f_X2_everybody (x1 + 7) σ3) (fun v10 σ9 => bbd (f_X5_most v10 σ9) (fun v13 σ12 => blet (x2 + (x4 * (v13 - x3))) (fun x2_14 => blet (x4 + (1 : Int32)) (fun x4_16 => f_X5_leastRent_L20 n x1 x2_14 v13 x4_16 σ12)))))))
def f_X5_leastRent (x1 : Nat) (σ : bSto) : Option (Int32 × bSto) := bbv (f_X5_begin x1 σ) (fun σ2 => bbv (f_J7_fill_53178 59 (0 : Int32) σ2) (fun σ4 => bl1 (f_X5_leastRent_L20 bFU x1 (0 : Int32) (0 : Int32) (0 : Int32) σ4) (fun x2_5 σ6 => some (x2_5, σ6))))
set_option maxHeartbeats 4000000 in
set_option maxRecDepth 20000 in
theorem e_X5_leastRent_L20 {X : bX} {l : Launch} {G : bG} {ρ : Nat → Nat} {A : Nat → Prop} {d : Nat} {r : Int32} {σ' : bSto} (C : bCX X cX5_leastRent RX5 (d + 42)) (Hh : bH X l G bSHf ρ A 6) (Rt : bRX X (some .int) (some (.int r)) σ') : ∀ (n : Nat) (x1 : Nat) (hx1 : kR x1) (x2 : Int32) (x3 : Int32) (x4 : Int32) (σ : bSto) (q : (Int32 × bSto)), f_X5_leastRent_L20 n x1 x2 x3 x4 σ = some q → (∀ (x2 : Int32) (s : bSto), q = (x2, s) → bAJ X 72 [(2, .int x2)] [] s) → bAJ X 20 [(0, .ref 58), (1, .ref x1), (2, .int x2), (3, .int x3), (4, .int x4)] [] σ := by
  intro n
  induction n with
  | zero => intro x1 hx1 x2 x3 x4 σ q hF; rw [f_X5_leastRent_L20] at hF; cases hF
  | succ n ih =>
    intro x1 hx1 x2 x3 x4 σ q hF hx
    rw [f_X5_leastRent_L20] at hF
    refine b_iload (pc := 20) C dX5_leastRent_20 4 rfl ?_
    refine b_bipush (pc := 22) C dX5_leastRent_22 bp_30 ?_
    refine b_icmp_gt (tgt := 72) (pc := 24) C dX5_leastRent_24 rfl (fun hc1 => ?_) (fun hc1 => ?_)
    · rw [if_pos hc1] at hF
      exact b_sub [2] rfl (hx _ _ (Option.some.inj hF).symm )
    · rw [if_neg hc1] at hF
      refine b_aload_n (pc := 27) C dX5_leastRent_27 rfl 0 rfl ?_
      refine b_aload_n (pc := 28) C dX5_leastRent_28 rfl 1 rfl ?_
      refine b_getS (pc := 29) C dX5_leastRent_29 fl_X5_39 (Hh.1 _ _ (shR hx1)) rfl ?_
      refine b_iload (pc := 32) C dX5_leastRent_32 4 rfl ?_
      obtain ⟨v4, σ3, hc2, hF⟩ := bbd_e hF
      refine b_cV2i (d' := (d + 41)) (pc := 34) C dX5_leastRent_34 mm_X5_93 (Hh.1 _ _ sh_58) rfl (Nat.le_of_ble_eq_true rfl) (by omega) (Hh.2.2 _ _ _ _ _ _ _ _ _ (lvl_eq (by omega) (e_X5_openSeats (d + 41) _ (kk_7_0 hx1) x4 _ _ _ hc2))) ?_
      refine b_if_eq (tgt := 66) (pc := 37) C dX5_leastRent_37 rfl (fun hc5 => ?_) (fun hc5 => ?_)
      · rw [if_pos hc5] at hF
        obtain ⟨x4_6, e7, hF⟩ := blet_e hF
        refine b_iinc (L' := [(4, .int x4_6), (0, .ref 58), (1, .ref x1), (2, .int x2), (3, .int x3)]) (pc := 66) C dX5_leastRent_66 4 rfl ic_1 e7 (Hh.2.1 _ (Nat.le_of_ble_eq_true rfl)) rfl ?_
        refine b_goto (tgt := 20) (pc := 69) C dX5_leastRent_69 rfl ?_
        exact b_sub [1, 2, 3, 4, 0] rfl (ih _ hx1 x2 x3 x4_6 _ _ hF hx)
      · rw [if_neg hc5] at hF
        refine b_aload_n (pc := 40) C dX5_leastRent_40 rfl 0 rfl ?_
        refine b_aload_n (pc := 41) C dX5_leastRent_41 rfl 1 rfl ?_
        refine b_getS (pc := 42) C dX5_leastRent_42 fl_X5_24 (Hh.1 _ _ (shR hx1)) rfl ?_
        obtain ⟨v10, σ9, hc8, hF⟩ := bbd_e hF
        refine b_cV0i (d' := (d + 41)) (pc := 45) C dX5_leastRent_45 mm_X5_82 (Hh.1 _ _ (shF (kk_7_1 hx1))) rfl (Nat.le_of_ble_eq_true rfl) (by omega) (Hh.2.2 _ _ _ _ _ _ _ _ _ (lvl_eq (by omega) (e_X2_everybody (d + 41) _ (kk_7_1 hx1) _ _ _ hc8))) ?_
        obtain ⟨v13, σ12, hc11, hF⟩ := bbd_e hF
        refine b_cV1i (d' := (d + 41)) (pc := 48) C dX5_leastRent_48 mm_X5_86 (Hh.1 _ _ sh_58) rfl (Nat.le_of_ble_eq_true rfl) (by omega) (Hh.2.2 _ _ _ _ _ _ _ _ _ (lvl_eq (by omega) (e_X5_most (d + 0) v10 _ _ _ hc11))) ?_
        refine b_istore (L' := [(5, .int v13), (0, .ref 58), (1, .ref x1), (2, .int x2), (3, .int x3), (4, .int x4)]) (pc := 51) C dX5_leastRent_51 rfl (Hh.2.1 _ (Nat.le_of_ble_eq_true rfl)) rfl ?_
        refine b_iload_n (pc := 53) C dX5_leastRent_53 rfl 3 rfl ?_
        refine b_iload (pc := 54) C dX5_leastRent_54 5 rfl ?_
        refine b_iload (pc := 56) C dX5_leastRent_56 0 rfl ?_
        refine b_iload_n (pc := 58) C dX5_leastRent_58 rfl 4 rfl ?_
        refine b_isub (pc := 59) C dX5_leastRent_59 ?_
        refine b_imul (pc := 60) C dX5_leastRent_60 ?_
        refine b_iadd (pc := 61) C dX5_leastRent_61 ?_
        obtain ⟨x2_14, e15, hF⟩ := blet_e hF
        refine b_istore_n (L' := [(2, .int x2_14), (5, .int v13), (0, .ref 58), (1, .ref x1), (3, .int x3), (4, .int x4)]) (pc := 62) C dX5_leastRent_62 rfl e15 (Hh.2.1 _ (Nat.le_of_ble_eq_true rfl)) rfl ?_
        refine b_iload (pc := 63) C dX5_leastRent_63 1 rfl ?_
        refine b_istore_n (L' := [(3, .int v13), (2, .int x2_14), (5, .int v13), (0, .ref 58), (1, .ref x1), (4, .int x4)]) (pc := 65) C dX5_leastRent_65 rfl rfl (Hh.2.1 _ (Nat.le_of_ble_eq_true rfl)) rfl ?_
        obtain ⟨x4_16, e17, hF⟩ := blet_e hF
        refine b_iinc (L' := [(4, .int x4_16), (3, .int v13), (2, .int x2_14), (5, .int v13), (0, .ref 58), (1, .ref x1)]) (pc := 66) C dX5_leastRent_66 5 rfl ic_1 e17 (Hh.2.1 _ (Nat.le_of_ble_eq_true rfl)) rfl ?_
        refine b_goto (tgt := 20) (pc := 69) C dX5_leastRent_69 rfl ?_
        exact b_sub [4, 5, 2, 1, 0] rfl (ih _ hx1 x2_14 v13 x4_16 _ _ hF hx)
set_option maxHeartbeats 4000000 in
set_option maxRecDepth 20000 in
theorem e_X5_leastRent_0 {X : bX} {l : Launch} {G : bG} {ρ : Nat → Nat} {A : Nat → Prop} {d : Nat} {r : Int32} {σ' : bSto} (C : bCX X cX5_leastRent RX5 (d + 42)) (Hh : bH X l G bSHf ρ A 6) (Rt : bRX X (some .int) (some (.int r)) σ') (x1 : Nat) (hx1 : kR x1) (σ : bSto) (hF : f_X5_leastRent x1 σ = some (r, σ')) : bAJ X 0 [(0, .ref 58), (1, .ref x1)] [] σ := by
  rw [f_X5_leastRent] at hF
  refine b_aload_n (pc := 0) C dX5_leastRent_0 rfl 0 rfl ?_
  refine b_aload_n (pc := 1) C dX5_leastRent_1 rfl 1 rfl ?_
  obtain ⟨σ2, hc1, hF⟩ := bbv_e hF
  refine b_cV1v (d' := (d + 41)) (pc := 2) C dX5_leastRent_2 mm_X5_78 (Hh.1 _ _ sh_58) rfl (Nat.le_of_ble_eq_true rfl) (by omega) (Hh.2.2 _ _ _ _ _ _ _ _ _ (lvl_eq (by omega) (e_X5_begin (d + 38) _ hx1 _ _ hc1))) ?_
  refine b_aload_n (pc := 5) C dX5_leastRent_5 rfl 0 rfl ?_
  refine b_getS (pc := 6) C dX5_leastRent_6 fl_X5_9 (Hh.1 _ _ sh_58) rfl ?_
  refine b_iconst (pc := 9) C dX5_leastRent_9 ic_0 ?_
  obtain ⟨σ4, hc3, hF⟩ := bbv_e hF
  refine b_cS2v (d' := (d + 41)) (pc := 10) C dX5_leastRent_10 mm_X5_62 (Nat.le_of_ble_eq_true rfl) (by omega) (Hh.2.2 _ _ _ _ _ _ _ _ _ (lvl_eq (by omega) (e_J7_fill_53178 (d + 41) _ (show kIA 59 from sh_59) (0 : Int32) _ _ hc3))) ?_
  refine b_iconst (pc := 13) C dX5_leastRent_13 ic_0 ?_
  refine b_istore_n (L' := [(2, .int (0 : Int32)), (0, .ref 58), (1, .ref x1)]) (pc := 14) C dX5_leastRent_14 rfl rfl (Hh.2.1 _ (Nat.le_of_ble_eq_true rfl)) rfl ?_
  refine b_iconst (pc := 15) C dX5_leastRent_15 ic_0 ?_
  refine b_istore_n (L' := [(3, .int (0 : Int32)), (2, .int (0 : Int32)), (0, .ref 58), (1, .ref x1)]) (pc := 16) C dX5_leastRent_16 rfl rfl (Hh.2.1 _ (Nat.le_of_ble_eq_true rfl)) rfl ?_
  refine b_iconst (pc := 17) C dX5_leastRent_17 ic_0 ?_
  refine b_istore (L' := [(4, .int (0 : Int32)), (3, .int (0 : Int32)), (2, .int (0 : Int32)), (0, .ref 58), (1, .ref x1)]) (pc := 18) C dX5_leastRent_18 rfl (Hh.2.1 _ (Nat.le_of_ble_eq_true rfl)) rfl ?_
  obtain ⟨x2_5, σ6, hq5, hF⟩ := bl1_e hF
  refine b_sub [3, 4, 2, 1, 0] rfl (e_X5_leastRent_L20 C Hh Rt bFU _ hx1 (0 : Int32) (0 : Int32) (0 : Int32) _ _ hq5 (fun _ _ e  => ?_))
  cases e
  refine b_iload_n (pc := 72) C dX5_leastRent_72 rfl 0 rfl ?_
  exact b_iret (pc := 73) C Rt dX5_leastRent_73 hF
set_option maxHeartbeats 4000000 in
set_option maxRecDepth 20000 in
theorem e_X5_leastRent {l : Launch} {G : bG} {ρ : Nat → Nat} {A : Nat → Prop} (d : Nat) (x1 : Nat) (hx1 : kR x1) (σ : bSto) (r : Int32) (σ' : bSto) (hF : f_X5_leastRent x1 σ = some (r, σ')) : bEv l G bSHf ρ A yX5_leastRent cX5_leastRent 6 (some .int) (d + 42) [.ref 58, .ref x1] σ (some (.int r)) σ' := b_met (d := d + 42) (by decide +kernel) (Nat.le_of_ble_eq_true rfl) rfl (fun X C Rt h1 h2 h3 => e_X5_leastRent_0 C ⟨fun o q h => by rw [h1]; exact h, fun i h => by rw [h2]; exact h, h3⟩ Rt _ hx1 _ hF)
/-! BenchColony$Packer.seatMore -/
def f_X5_seatMore_L22 : Nat → Int32 → Int32 → Int32 → bSto → Option ((Int32 × bSto) ⊕ (bSto))
  | 0, _, _, _, _ => none
  | n + 1, x2, x3, x4, σ => (if (σ.1 58 5) ≤ x4 then some (.inr σ) else if x4 < 0 ∨ 6 ≤ x4.toNatClampNeg then none else if x4 < 0 ∨ 6 ≤ x4.toNatClampNeg then none else blet (bI σ 59 x4.toNatClampNeg ((σ.1 59 x4.toNatClampNeg) + (1 : Int32))) (fun σ3 => bbd (f_X5_most x2 σ3) (fun v8 σ7 => (if v8 ≤ x3 then if x4 < 0 ∨ 6 ≤ x4.toNatClampNeg then none else if x4 < 0 ∨ 6 ≤ x4.toNatClampNeg then none else blet (bI σ7 59 x4.toNatClampNeg ((σ7.1 59 x4.toNatClampNeg) - (1 : Int32))) (fun σ11 => blet (x4 + (1 : Int32)) (fun x4_14 => f_X5_seatMore_L22 n x2 x3 x4_14 σ11)) else some (.inl (x4, σ7))))))
def f_X5_seatMore (x1 : Nat) (σ : bSto) : Option (Int32 × bSto) := bbv (f_X5_begin x1 σ) (fun σ2 => bbd (f_X2_everybody (x1 + 7) σ2) (fun v5 σ4 => bbd (f_X5_most v5 σ4) (fun v8 σ7 => br0 (f_X5_seatMore_L22 bFU v5 v8 (0 : Int32) σ7) (fun v s => some (v, s)) (fun σ10 => some ((-2 : Int32), σ10)))))
set_option maxHeartbeats 4000000 in
set_option maxRecDepth 20000 in
theorem e_X5_seatMore_L22 {X : bX} {l : Launch} {G : bG} {ρ : Nat → Nat} {A : Nat → Prop} {d : Nat} {r : Int32} {σ' : bSto} (C : bCX X cX5_seatMore RX5 (d + 42)) (Hh : bH X l G bSHf ρ A 5) (Rt : bRX X (some .int) (some (.int r)) σ') : ∀ (n : Nat) (x2 : Int32) (x3 : Int32) (x4 : Int32) (σ : bSto) (q : ((Int32 × bSto) ⊕ (bSto))), f_X5_seatMore_L22 n x2 x3 x4 σ = some q → (∀ (v : Int32) (s : bSto), q = .inl (v, s) → some (v, s) = some (r, σ')) → (∀  (s : bSto), q = .inr s → bAJ X 71 [] [] s) → bAJ X 22 [(0, .ref 58), (2, .int x2), (3, .int x3), (4, .int x4)] [] σ := by
  intro n
  induction n with
  | zero => intro x2 x3 x4 σ q hF; rw [f_X5_seatMore_L22] at hF; cases hF
  | succ n ih =>
    intro x2 x3 x4 σ q hF hr hx
    rw [f_X5_seatMore_L22] at hF
    refine b_iload (pc := 22) C dX5_seatMore_22 3 rfl ?_
    refine b_aload_n (pc := 24) C dX5_seatMore_24 rfl 0 rfl ?_
    refine b_getI (pc := 25) C dX5_seatMore_25 fl_X5_46 (Hh.1 _ _ sh_58) rfl ?_
    refine b_icmp_ge (tgt := 71) (pc := 28) C dX5_seatMore_28 rfl (fun hc1 => ?_) (fun hc1 => ?_)
    · rw [if_pos hc1] at hF
      exact b_sub [] rfl (hx  _ (Option.some.inj hF).symm )
    · rw [if_neg hc1] at hF
      refine b_aload_n (pc := 31) C dX5_seatMore_31 rfl 0 rfl ?_
      refine b_getS (pc := 32) C dX5_seatMore_32 fl_X5_9 (Hh.1 _ _ sh_58) rfl ?_
      refine b_iload (pc := 35) C dX5_seatMore_35 3 rfl ?_
      refine b_dup2 (pc := 37) C dX5_seatMore_37 rfl rfl ?_
      obtain ⟨hb2, hF⟩ := bif_n hF
      refine b_iald (pc := 38) C dX5_seatMore_38 (Hh.1 _ _ sh_59) hb2 ?_
      refine b_iconst (pc := 39) C dX5_seatMore_39 ic_1 ?_
      refine b_iadd (pc := 40) C dX5_seatMore_40 ?_
      obtain ⟨hb5, hF⟩ := bif_n hF
      obtain ⟨σ3, e4, hF⟩ := blet_e hF
      refine b_iast (pc := 41) C dX5_seatMore_41 (Hh.1 _ _ sh_59) hb5 e4 ?_
      refine b_aload_n (pc := 42) C dX5_seatMore_42 rfl 0 rfl ?_
      refine b_iload_n (pc := 43) C dX5_seatMore_43 rfl 1 rfl ?_
      obtain ⟨v8, σ7, hc6, hF⟩ := bbd_e hF
      refine b_cV1i (d' := (d + 41)) (pc := 44) C dX5_seatMore_44 mm_X5_86 (Hh.1 _ _ sh_58) rfl (Nat.le_of_ble_eq_true rfl) (by omega) (Hh.2.2 _ _ _ _ _ _ _ _ _ (lvl_eq (by omega) (e_X5_most (d + 0) x2 _ _ _ hc6))) ?_
      refine b_iload_n (pc := 47) C dX5_seatMore_47 rfl 2 rfl ?_
      refine b_icmp_le (tgt := 54) (pc := 48) C dX5_seatMore_48 rfl (fun hc9 => ?_) (fun hc9 => ?_)
      · rw [if_pos hc9] at hF
        refine b_aload_n (pc := 54) C dX5_seatMore_54 rfl 0 rfl ?_
        refine b_getS (pc := 55) C dX5_seatMore_55 fl_X5_9 (Hh.1 _ _ sh_58) rfl ?_
        refine b_iload (pc := 58) C dX5_seatMore_58 3 rfl ?_
        refine b_dup2 (pc := 60) C dX5_seatMore_60 rfl rfl ?_
        obtain ⟨hb10, hF⟩ := bif_n hF
        refine b_iald (pc := 61) C dX5_seatMore_61 (Hh.1 _ _ sh_59) hb10 ?_
        refine b_iconst (pc := 62) C dX5_seatMore_62 ic_1 ?_
        refine b_isub (pc := 63) C dX5_seatMore_63 ?_
        obtain ⟨hb13, hF⟩ := bif_n hF
        obtain ⟨σ11, e12, hF⟩ := blet_e hF
        refine b_iast (pc := 64) C dX5_seatMore_64 (Hh.1 _ _ sh_59) hb13 e12 ?_
        obtain ⟨x4_14, e15, hF⟩ := blet_e hF
        refine b_iinc (L' := [(4, .int x4_14), (0, .ref 58), (2, .int x2), (3, .int x3)]) (pc := 65) C dX5_seatMore_65 3 rfl ic_1 e15 (Hh.2.1 _ (Nat.le_of_ble_eq_true rfl)) rfl ?_
        refine b_goto (tgt := 22) (pc := 68) C dX5_seatMore_68 rfl ?_
        exact b_sub [1, 2, 3, 0] rfl (ih x2 x3 x4_14 _ _ hF hr hx)
      · rw [if_neg hc9] at hF
        refine b_iload (pc := 51) C dX5_seatMore_51 3 rfl ?_
        exact b_iret (pc := 53) C Rt dX5_seatMore_53 (hr _ _ (Option.some.inj hF).symm)
set_option maxHeartbeats 4000000 in
set_option maxRecDepth 20000 in
theorem e_X5_seatMore_0 {X : bX} {l : Launch} {G : bG} {ρ : Nat → Nat} {A : Nat → Prop} {d : Nat} {r : Int32} {σ' : bSto} (C : bCX X cX5_seatMore RX5 (d + 42)) (Hh : bH X l G bSHf ρ A 5) (Rt : bRX X (some .int) (some (.int r)) σ') (x1 : Nat) (hx1 : kR x1) (σ : bSto) (hF : f_X5_seatMore x1 σ = some (r, σ')) : bAJ X 0 [(0, .ref 58), (1, .ref x1)] [] σ := by
  rw [f_X5_seatMore] at hF
  refine b_aload_n (pc := 0) C dX5_seatMore_0 rfl 0 rfl ?_
  refine b_aload_n (pc := 1) C dX5_seatMore_1 rfl 1 rfl ?_
  obtain ⟨σ2, hc1, hF⟩ := bbv_e hF
  refine b_cV1v (d' := (d + 41)) (pc := 2) C dX5_seatMore_2 mm_X5_78 (Hh.1 _ _ sh_58) rfl (Nat.le_of_ble_eq_true rfl) (by omega) (Hh.2.2 _ _ _ _ _ _ _ _ _ (lvl_eq (by omega) (e_X5_begin (d + 38) _ hx1 _ _ hc1))) ?_
  refine b_aload_n (pc := 5) C dX5_seatMore_5 rfl 1 rfl ?_
  refine b_getS (pc := 6) C dX5_seatMore_6 fl_X5_24 (Hh.1 _ _ (shR hx1)) rfl ?_
  obtain ⟨v5, σ4, hc3, hF⟩ := bbd_e hF
  refine b_cV0i (d' := (d + 41)) (pc := 9) C dX5_seatMore_9 mm_X5_82 (Hh.1 _ _ (shF (kk_7_1 hx1))) rfl (Nat.le_of_ble_eq_true rfl) (by omega) (Hh.2.2 _ _ _ _ _ _ _ _ _ (lvl_eq (by omega) (e_X2_everybody (d + 41) _ (kk_7_1 hx1) _ _ _ hc3))) ?_
  refine b_istore_n (L' := [(2, .int v5), (0, .ref 58), (1, .ref x1)]) (pc := 12) C dX5_seatMore_12 rfl rfl (Hh.2.1 _ (Nat.le_of_ble_eq_true rfl)) rfl ?_
  refine b_aload_n (pc := 13) C dX5_seatMore_13 rfl 1 rfl ?_
  refine b_iload_n (pc := 14) C dX5_seatMore_14 rfl 0 rfl ?_
  obtain ⟨v8, σ7, hc6, hF⟩ := bbd_e hF
  refine b_cV1i (d' := (d + 41)) (pc := 15) C dX5_seatMore_15 mm_X5_86 (Hh.1 _ _ sh_58) rfl (Nat.le_of_ble_eq_true rfl) (by omega) (Hh.2.2 _ _ _ _ _ _ _ _ _ (lvl_eq (by omega) (e_X5_most (d + 0) v5 _ _ _ hc6))) ?_
  refine b_istore_n (L' := [(3, .int v8), (2, .int v5), (0, .ref 58), (1, .ref x1)]) (pc := 18) C dX5_seatMore_18 rfl rfl (Hh.2.1 _ (Nat.le_of_ble_eq_true rfl)) rfl ?_
  refine b_iconst (pc := 19) C dX5_seatMore_19 ic_0 ?_
  refine b_istore (L' := [(4, .int (0 : Int32)), (3, .int v8), (2, .int v5), (0, .ref 58), (1, .ref x1)]) (pc := 20) C dX5_seatMore_20 rfl (Hh.2.1 _ (Nat.le_of_ble_eq_true rfl)) rfl ?_
  rcases br0_e hF with ⟨v, s, hq9, hF⟩ | ⟨σ10, hq9, hF⟩
  · exact b_sub [3, 2, 1, 0] rfl (e_X5_seatMore_L22 C Hh Rt bFU v5 v8 (0 : Int32) _ _ hq9 (fun v s e => by cases e; exact hF) (fun  _ e => by cases e))
  · refine b_sub [3, 2, 1, 0] rfl (e_X5_seatMore_L22 C Hh Rt bFU v5 v8 (0 : Int32) _ _ hq9 (fun v s e => by cases e) (fun  _ e  => ?_))
    cases e
    refine b_bipush (pc := 71) C dX5_seatMore_71 bp_m2 ?_
    exact b_iret (pc := 73) C Rt dX5_seatMore_73 hF
set_option maxHeartbeats 4000000 in
set_option maxRecDepth 20000 in
theorem e_X5_seatMore {l : Launch} {G : bG} {ρ : Nat → Nat} {A : Nat → Prop} (d : Nat) (x1 : Nat) (hx1 : kR x1) (σ : bSto) (r : Int32) (σ' : bSto) (hF : f_X5_seatMore x1 σ = some (r, σ')) : bEv l G bSHf ρ A yX5_seatMore cX5_seatMore 5 (some .int) (d + 42) [.ref 58, .ref x1] σ (some (.int r)) σ' := b_met (d := d + 42) (by decide +kernel) (Nat.le_of_ble_eq_true rfl) rfl (fun X C Rt h1 h2 h3 => e_X5_seatMore_0 C ⟨fun o q h => by rw [h1]; exact h, fun i h => by rw [h2]; exact h, h3⟩ Rt _ hx1 _ hF)
/-! BenchColony$Couples.pairsAmong -/
def f_X0_pairsAmong_L38 : Nat → Nat → Int32 → Int32 → Int32 → Int32 → bSto → Option (Int32 × bSto)
  | 0, _, _, _, _, _, _ => none
  | n + 1, x1, x4, x5, x6, x7, σ => (if (σ.1 x1 7) ≤ x7 then some (x5, σ) else (if ((x6 >>> (x7 &&& 31)) &&& (1 : Int32)) = (1 : Int32) then if (x4 &&& (((1 : Int32) <<< (x7 &&& 31)) ^^^ (-1 : Int32))) < 0 ∨ 128 ≤ (x4 &&& (((1 : Int32) <<< (x7 &&& 31)) ^^^ (-1 : Int32))).toNatClampNeg then none else bbd (f_J9_max_7cf53 x5 ((1 : Int32) + (σ.1 64 (x4 &&& (((1 : Int32) <<< (x7 &&& 31)) ^^^ (-1 : Int32))).toNatClampNeg)) σ) (fun v8 σ7 => blet (x7 + (1 : Int32)) (fun x7_9 => f_X0_pairsAmong_L38 n x1 x4 v8 x6 x7_9 σ7)) else blet (x7 + (1 : Int32)) (fun x7_3 => f_X0_pairsAmong_L38 n x1 x4 x5 x6 x7_3 σ)))
def f_X0_pairsAmong (x1 : Nat) (x2 : Int32) (σ : bSto) : Option (Int32 × bSto) := bbd (f_J6_numberOfTrailingZeros_0f7a4 x2 σ) (fun v3 σ2 => blet (x2 &&& (((1 : Int32) <<< (v3 &&& 31)) ^^^ (-1 : Int32))) (fun x4_4 => if x4_4 < 0 ∨ 128 ≤ x4_4.toNatClampNeg then none else blet (σ2.1 64 x4_4.toNatClampNeg) (fun x5_7 => bbd (f_X2_marriable x1 v3 σ2) (fun v11 σ10 => blet (v11 &&& x4_4) (fun x6_12 => blet (v3 + (1 : Int32)) (fun x7_14 => bl1 (f_X0_pairsAmong_L38 bFU x1 x4_4 x5_7 x6_12 x7_14 σ10) (fun x5_16 σ17 => some (x5_16, σ17))))))))
set_option maxHeartbeats 4000000 in
set_option maxRecDepth 20000 in
theorem e_X0_pairsAmong_L38 {X : bX} {l : Launch} {G : bG} {ρ : Nat → Nat} {A : Nat → Prop} {d : Nat} {r : Int32} {σ' : bSto} (C : bCX X cX0_pairsAmong RX0 (d + 2)) (Hh : bH X l G bSHf ρ A 8) (Rt : bRX X (some .int) (some (.int r)) σ') : ∀ (n : Nat) (x1 : Nat) (hx1 : kF x1) (x4 : Int32) (x5 : Int32) (x6 : Int32) (x7 : Int32) (σ : bSto) (q : (Int32 × bSto)), f_X0_pairsAmong_L38 n x1 x4 x5 x6 x7 σ = some q → (∀ (x5 : Int32) (s : bSto), q = (x5, s) → bAJ X 87 [(5, .int x5)] [] s) → bAJ X 38 [(0, .ref 63), (1, .ref x1), (4, .int x4), (5, .int x5), (6, .int x6), (7, .int x7)] [] σ := by
  intro n
  induction n with
  | zero => intro x1 hx1 x4 x5 x6 x7 σ q hF; rw [f_X0_pairsAmong_L38] at hF; cases hF
  | succ n ih =>
    intro x1 hx1 x4 x5 x6 x7 σ q hF hx
    rw [f_X0_pairsAmong_L38] at hF
    refine b_iload (pc := 38) C dX0_pairsAmong_38 5 rfl ?_
    refine b_aload_n (pc := 40) C dX0_pairsAmong_40 rfl 1 rfl ?_
    refine b_getI (pc := 41) C dX0_pairsAmong_41 fl_X0_34 (Hh.1 _ _ (shF hx1)) rfl ?_
    refine b_icmp_ge (tgt := 87) (pc := 44) C dX0_pairsAmong_44 rfl (fun hc1 => ?_) (fun hc1 => ?_)
    · rw [if_pos hc1] at hF
      exact b_sub [3] rfl (hx _ _ (Option.some.inj hF).symm )
    · rw [if_neg hc1] at hF
      refine b_iload (pc := 47) C dX0_pairsAmong_47 4 rfl ?_
      refine b_iload (pc := 49) C dX0_pairsAmong_49 5 rfl ?_
      refine b_ishr (pc := 51) C dX0_pairsAmong_51 ?_
      refine b_iconst (pc := 52) C dX0_pairsAmong_52 ic_1 ?_
      refine b_iand (pc := 53) C dX0_pairsAmong_53 ?_
      refine b_iconst (pc := 54) C dX0_pairsAmong_54 ic_1 ?_
      refine b_icmp_ne (tgt := 81) (pc := 55) C dX0_pairsAmong_55 rfl (fun hc2 => ?_) (fun hc2 => ?_)
      · rw [if_neg hc2] at hF
        obtain ⟨x7_3, e4, hF⟩ := blet_e hF
        refine b_iinc (L' := [(7, .int x7_3), (0, .ref 63), (1, .ref x1), (4, .int x4), (5, .int x5), (6, .int x6)]) (pc := 81) C dX0_pairsAmong_81 5 rfl ic_1 e4 (Hh.2.1 _ (Nat.le_of_ble_eq_true rfl)) rfl ?_
        refine b_goto (tgt := 38) (pc := 84) C dX0_pairsAmong_84 rfl ?_
        exact b_sub [1, 2, 3, 4, 5, 0] rfl (ih _ hx1 x4 x5 x6 x7_3 _ _ hF hx)
      · rw [if_pos hc2] at hF
        refine b_iload (pc := 58) C dX0_pairsAmong_58 3 rfl ?_
        refine b_iconst (pc := 60) C dX0_pairsAmong_60 ic_1 ?_
        refine b_aload_n (pc := 61) C dX0_pairsAmong_61 rfl 0 rfl ?_
        refine b_getS (pc := 62) C dX0_pairsAmong_62 fl_X0_9 (Hh.1 _ _ sh_63) rfl ?_
        refine b_iload (pc := 65) C dX0_pairsAmong_65 2 rfl ?_
        refine b_iconst (pc := 67) C dX0_pairsAmong_67 ic_1 ?_
        refine b_iload (pc := 68) C dX0_pairsAmong_68 5 rfl ?_
        refine b_ishl (pc := 70) C dX0_pairsAmong_70 ?_
        refine b_iconst (pc := 71) C dX0_pairsAmong_71 ic_m1 ?_
        refine b_ixor (pc := 72) C dX0_pairsAmong_72 ?_
        refine b_iand (pc := 73) C dX0_pairsAmong_73 ?_
        obtain ⟨hb5, hF⟩ := bif_n hF
        refine b_iald (pc := 74) C dX0_pairsAmong_74 (Hh.1 _ _ sh_64) hb5 ?_
        refine b_iadd (pc := 75) C dX0_pairsAmong_75 ?_
        obtain ⟨v8, σ7, hc6, hF⟩ := bbd_e hF
        refine b_cS2i (d' := (d + 1)) (pc := 76) C dX0_pairsAmong_76 mm_X0_51 (Nat.le_of_ble_eq_true rfl) (by omega) (Hh.2.2 _ _ _ _ _ _ _ _ _ (lvl_eq (by omega) (e_J9_max_7cf53 (d + 1) x5 ((1 : Int32) + (σ.1 64 (x4 &&& (((1 : Int32) <<< (x7 &&& 31)) ^^^ (-1 : Int32))).toNatClampNeg)) _ _ _ hc6))) ?_
        refine b_istore (L' := [(5, .int v8), (0, .ref 63), (1, .ref x1), (4, .int x4), (6, .int x6), (7, .int x7)]) (pc := 79) C dX0_pairsAmong_79 rfl (Hh.2.1 _ (Nat.le_of_ble_eq_true rfl)) rfl ?_
        obtain ⟨x7_9, e10, hF⟩ := blet_e hF
        refine b_iinc (L' := [(7, .int x7_9), (5, .int v8), (0, .ref 63), (1, .ref x1), (4, .int x4), (6, .int x6)]) (pc := 81) C dX0_pairsAmong_81 5 rfl ic_1 e10 (Hh.2.1 _ (Nat.le_of_ble_eq_true rfl)) rfl ?_
        refine b_goto (tgt := 38) (pc := 84) C dX0_pairsAmong_84 rfl ?_
        exact b_sub [2, 3, 4, 1, 5, 0] rfl (ih _ hx1 x4 v8 x6 x7_9 _ _ hF hx)
set_option maxHeartbeats 4000000 in
set_option maxRecDepth 20000 in
theorem e_X0_pairsAmong_0 {X : bX} {l : Launch} {G : bG} {ρ : Nat → Nat} {A : Nat → Prop} {d : Nat} {r : Int32} {σ' : bSto} (C : bCX X cX0_pairsAmong RX0 (d + 2)) (Hh : bH X l G bSHf ρ A 8) (Rt : bRX X (some .int) (some (.int r)) σ') (x1 : Nat) (hx1 : kF x1) (x2 : Int32) (σ : bSto) (hF : f_X0_pairsAmong x1 x2 σ = some (r, σ')) : bAJ X 0 [(0, .ref 63), (1, .ref x1), (2, .int x2)] [] σ := by
  rw [f_X0_pairsAmong] at hF
  refine b_iload_n (pc := 0) C dX0_pairsAmong_0 rfl 2 rfl ?_
  obtain ⟨v3, σ2, hc1, hF⟩ := bbd_e hF
  refine b_cS1i (d' := (d + 1)) (pc := 1) C dX0_pairsAmong_1 mm_X0_42 (Nat.le_of_ble_eq_true rfl) (by omega) (Hh.2.2 _ _ _ _ _ _ _ _ _ (lvl_eq (by omega) (e_J6_numberOfTrailingZeros_0f7a4 (d + 1) x2 _ _ _ hc1))) ?_
  refine b_istore_n (L' := [(3, .int v3), (0, .ref 63), (1, .ref x1), (2, .int x2)]) (pc := 4) C dX0_pairsAmong_4 rfl rfl (Hh.2.1 _ (Nat.le_of_ble_eq_true rfl)) rfl ?_
  refine b_iload_n (pc := 5) C dX0_pairsAmong_5 rfl 3 rfl ?_
  refine b_iconst (pc := 6) C dX0_pairsAmong_6 ic_1 ?_
  refine b_iload_n (pc := 7) C dX0_pairsAmong_7 rfl 0 rfl ?_
  refine b_ishl (pc := 8) C dX0_pairsAmong_8 ?_
  refine b_iconst (pc := 9) C dX0_pairsAmong_9 ic_m1 ?_
  refine b_ixor (pc := 10) C dX0_pairsAmong_10 ?_
  refine b_iand (pc := 11) C dX0_pairsAmong_11 ?_
  obtain ⟨x4_4, e5, hF⟩ := blet_e hF
  refine b_istore (L' := [(4, .int x4_4), (3, .int v3), (0, .ref 63), (1, .ref x1), (2, .int x2)]) (pc := 12) C dX0_pairsAmong_12 e5 (Hh.2.1 _ (Nat.le_of_ble_eq_true rfl)) rfl ?_
  refine b_aload_n (pc := 14) C dX0_pairsAmong_14 rfl 2 rfl ?_
  refine b_getS (pc := 15) C dX0_pairsAmong_15 fl_X0_9 (Hh.1 _ _ sh_63) rfl ?_
  refine b_iload (pc := 18) C dX0_pairsAmong_18 0 rfl ?_
  obtain ⟨hb6, hF⟩ := bif_n hF
  refine b_iald (pc := 20) C dX0_pairsAmong_20 (Hh.1 _ _ sh_64) hb6 ?_
  obtain ⟨x5_7, e8, hF⟩ := blet_e hF
  refine b_istore (L' := [(5, .int x5_7), (4, .int x4_4), (3, .int v3), (0, .ref 63), (1, .ref x1), (2, .int x2)]) (pc := 21) C dX0_pairsAmong_21 e8 (Hh.2.1 _ (Nat.le_of_ble_eq_true rfl)) rfl ?_
  refine b_aload_n (pc := 23) C dX0_pairsAmong_23 rfl 4 rfl ?_
  refine b_iload_n (pc := 24) C dX0_pairsAmong_24 rfl 2 rfl ?_
  obtain ⟨v11, σ10, hc9, hF⟩ := bbd_e hF
  refine b_cV1i (d' := (d + 1)) (pc := 25) C dX0_pairsAmong_25 mm_X0_48 (Hh.1 _ _ (shF hx1)) rfl (Nat.le_of_ble_eq_true rfl) (by omega) (Hh.2.2 _ _ _ _ _ _ _ _ _ (lvl_eq (by omega) (e_X2_marriable (d + 0) _ hx1 v3 _ _ _ hc9))) ?_
  refine b_iload (pc := 28) C dX0_pairsAmong_28 1 rfl ?_
  refine b_iand (pc := 30) C dX0_pairsAmong_30 ?_
  obtain ⟨x6_12, e13, hF⟩ := blet_e hF
  refine b_istore (L' := [(6, .int x6_12), (5, .int x5_7), (4, .int x4_4), (3, .int v3), (0, .ref 63), (1, .ref x1), (2, .int x2)]) (pc := 31) C dX0_pairsAmong_31 e13 (Hh.2.1 _ (Nat.le_of_ble_eq_true rfl)) rfl ?_
  refine b_iload_n (pc := 33) C dX0_pairsAmong_33 rfl 3 rfl ?_
  refine b_iconst (pc := 34) C dX0_pairsAmong_34 ic_1 ?_
  refine b_iadd (pc := 35) C dX0_pairsAmong_35 ?_
  obtain ⟨x7_14, e15, hF⟩ := blet_e hF
  refine b_istore (L' := [(7, .int x7_14), (6, .int x6_12), (5, .int x5_7), (4, .int x4_4), (3, .int v3), (0, .ref 63), (1, .ref x1), (2, .int x2)]) (pc := 36) C dX0_pairsAmong_36 e15 (Hh.2.1 _ (Nat.le_of_ble_eq_true rfl)) rfl ?_
  obtain ⟨x5_16, σ17, hq16, hF⟩ := bl1_e hF
  refine b_sub [5, 6, 3, 2, 1, 0] rfl (e_X0_pairsAmong_L38 C Hh Rt bFU _ hx1 x4_4 x5_7 x6_12 x7_14 _ _ hq16 (fun _ _ e  => ?_))
  cases e
  refine b_iload (pc := 87) C dX0_pairsAmong_87 0 rfl ?_
  exact b_iret (pc := 89) C Rt dX0_pairsAmong_89 hF
set_option maxHeartbeats 4000000 in
set_option maxRecDepth 20000 in
theorem e_X0_pairsAmong {l : Launch} {G : bG} {ρ : Nat → Nat} {A : Nat → Prop} (d : Nat) (x1 : Nat) (hx1 : kF x1) (x2 : Int32) (σ : bSto) (r : Int32) (σ' : bSto) (hF : f_X0_pairsAmong x1 x2 σ = some (r, σ')) : bEv l G bSHf ρ A yX0_pairsAmong cX0_pairsAmong 8 (some .int) (d + 2) [.ref 63, .ref x1, .int x2] σ (some (.int r)) σ' := b_met (d := d + 2) (by decide +kernel) (Nat.le_of_ble_eq_true rfl) rfl (fun X C Rt h1 h2 h3 => e_X0_pairsAmong_0 C ⟨fun o q h => by rw [h1]; exact h, fun i h => by rw [h2]; exact h, h3⟩ Rt _ hx1 _ _ hF)
/-! BenchColony$Couples.wed -/
def f_X0_wed_L24 : Nat → Nat → Int32 → Int32 → Int32 → Int32 → Int32 → bSto → Option ((Int32 × bSto) ⊕ (Int32 × bSto))
  | 0, _, _, _, _, _, _, _ => none
  | n + 1, x1, x2, x3, x4, x5, x6, σ => (if (σ.1 x1 7) ≤ x6 then some (.inr (x4, σ)) else blet (x4 &&& (((1 : Int32) <<< (x6 &&& 31)) ^^^ (-1 : Int32))) (fun x7_2 => (if ((x5 >>> (x6 &&& 31)) &&& (1 : Int32)) = (1 : Int32) then if x7_2 < 0 ∨ 128 ≤ x7_2.toNatClampNeg then none else if x3 < 0 ∨ 128 ≤ x3.toNatClampNeg then none else (if ((1 : Int32) + (σ.1 64 x7_2.toNatClampNeg)) = (σ.1 64 x3.toNatClampNeg) then if x2 < 0 ∨ 7 ≤ x2.toNatClampNeg then none else blet (bI σ 65 x2.toNatClampNeg x6) (fun σ12 => if x6 < 0 ∨ 7 ≤ x6.toNatClampNeg then none else blet (bI σ12 65 x6.toNatClampNeg x2) (fun σ15 => some (.inl (x7_2, σ15)))) else blet (x6 + (1 : Int32)) (fun x6_10 => f_X0_wed_L24 n x1 x2 x3 x4 x5 x6_10 σ)) else blet (x6 + (1 : Int32)) (fun x6_5 => f_X0_wed_L24 n x1 x2 x3 x4 x5 x6_5 σ))))
def f_X0_wed (x1 : Nat) (x2 : Int32) (x3 : Int32) (σ : bSto) : Option (Int32 × bSto) := blet (x3 &&& (((1 : Int32) <<< (x2 &&& 31)) ^^^ (-1 : Int32))) (fun x4_1 => bbd (f_X2_marriable x1 x2 σ) (fun v5 σ4 => blet (v5 &&& x4_1) (fun x5_6 => blet (x2 + (1 : Int32)) (fun x6_8 => br1 (f_X0_wed_L24 bFU x1 x2 x3 x4_1 x5_6 x6_8 σ4) (fun v s => some (v, s)) (fun x4_10 σ11 => some (x4_10, σ11))))))
set_option maxHeartbeats 4000000 in
set_option maxRecDepth 20000 in
theorem e_X0_wed_L24 {X : bX} {l : Launch} {G : bG} {ρ : Nat → Nat} {A : Nat → Prop} {d : Nat} {r : Int32} {σ' : bSto} (C : bCX X cX0_wed RX0 (d + 2)) (Hh : bH X l G bSHf ρ A 8) (Rt : bRX X (some .int) (some (.int r)) σ') : ∀ (n : Nat) (x1 : Nat) (hx1 : kF x1) (x2 : Int32) (x3 : Int32) (x4 : Int32) (x5 : Int32) (x6 : Int32) (σ : bSto) (q : ((Int32 × bSto) ⊕ (Int32 × bSto))), f_X0_wed_L24 n x1 x2 x3 x4 x5 x6 σ = some q → (∀ (v : Int32) (s : bSto), q = .inl (v, s) → some (v, s) = some (r, σ')) → (∀ (x4 : Int32) (s : bSto), q = .inr (x4, s) → bAJ X 98 [(4, .int x4)] [] s) → bAJ X 24 [(0, .ref 63), (1, .ref x1), (2, .int x2), (3, .int x3), (4, .int x4), (5, .int x5), (6, .int x6)] [] σ := by
  intro n
  induction n with
  | zero => intro x1 hx1 x2 x3 x4 x5 x6 σ q hF; rw [f_X0_wed_L24] at hF; cases hF
  | succ n ih =>
    intro x1 hx1 x2 x3 x4 x5 x6 σ q hF hr hx
    rw [f_X0_wed_L24] at hF
    refine b_iload (pc := 24) C dX0_wed_24 6 rfl ?_
    refine b_aload_n (pc := 26) C dX0_wed_26 rfl 1 rfl ?_
    refine b_getI (pc := 27) C dX0_wed_27 fl_X0_34 (Hh.1 _ _ (shF hx1)) rfl ?_
    refine b_icmp_ge (tgt := 98) (pc := 30) C dX0_wed_30 rfl (fun hc1 => ?_) (fun hc1 => ?_)
    · rw [if_pos hc1] at hF
      exact b_sub [4] rfl (hx _ _ (Option.some.inj hF).symm )
    · rw [if_neg hc1] at hF
      refine b_iload (pc := 33) C dX0_wed_33 4 rfl ?_
      refine b_iconst (pc := 35) C dX0_wed_35 ic_1 ?_
      refine b_iload (pc := 36) C dX0_wed_36 6 rfl ?_
      refine b_ishl (pc := 38) C dX0_wed_38 ?_
      refine b_iconst (pc := 39) C dX0_wed_39 ic_m1 ?_
      refine b_ixor (pc := 40) C dX0_wed_40 ?_
      refine b_iand (pc := 41) C dX0_wed_41 ?_
      obtain ⟨x7_2, e3, hF⟩ := blet_e hF
      refine b_istore (L' := [(7, .int x7_2), (0, .ref 63), (1, .ref x1), (2, .int x2), (3, .int x3), (4, .int x4), (5, .int x5), (6, .int x6)]) (pc := 42) C dX0_wed_42 e3 (Hh.2.1 _ (Nat.le_of_ble_eq_true rfl)) rfl ?_
      refine b_iload (pc := 44) C dX0_wed_44 6 rfl ?_
      refine b_iload (pc := 46) C dX0_wed_46 7 rfl ?_
      refine b_ishr (pc := 48) C dX0_wed_48 ?_
      refine b_iconst (pc := 49) C dX0_wed_49 ic_1 ?_
      refine b_iand (pc := 50) C dX0_wed_50 ?_
      refine b_iconst (pc := 51) C dX0_wed_51 ic_1 ?_
      refine b_icmp_ne (tgt := 92) (pc := 52) C dX0_wed_52 rfl (fun hc4 => ?_) (fun hc4 => ?_)
      · rw [if_neg hc4] at hF
        obtain ⟨x6_5, e6, hF⟩ := blet_e hF
        refine b_iinc (L' := [(6, .int x6_5), (7, .int x7_2), (0, .ref 63), (1, .ref x1), (2, .int x2), (3, .int x3), (4, .int x4), (5, .int x5)]) (pc := 92) C dX0_wed_92 7 rfl ic_1 e6 (Hh.2.1 _ (Nat.le_of_ble_eq_true rfl)) rfl ?_
        refine b_goto (tgt := 24) (pc := 95) C dX0_wed_95 rfl ?_
        exact b_sub [2, 3, 4, 5, 6, 7, 0] rfl (ih _ hx1 x2 x3 x4 x5 x6_5 _ _ hF hr hx)
      · rw [if_pos hc4] at hF
        refine b_iconst (pc := 55) C dX0_wed_55 ic_1 ?_
        refine b_aload_n (pc := 56) C dX0_wed_56 rfl 1 rfl ?_
        refine b_getS (pc := 57) C dX0_wed_57 fl_X0_9 (Hh.1 _ _ sh_63) rfl ?_
        refine b_iload (pc := 60) C dX0_wed_60 0 rfl ?_
        obtain ⟨hb7, hF⟩ := bif_n hF
        refine b_iald (pc := 62) C dX0_wed_62 (Hh.1 _ _ sh_64) hb7 ?_
        refine b_iadd (pc := 63) C dX0_wed_63 ?_
        refine b_aload_n (pc := 64) C dX0_wed_64 rfl 1 rfl ?_
        refine b_getS (pc := 65) C dX0_wed_65 fl_X0_9 (Hh.1 _ _ sh_63) rfl ?_
        refine b_iload_n (pc := 68) C dX0_wed_68 rfl 4 rfl ?_
        obtain ⟨hb8, hF⟩ := bif_n hF
        refine b_iald (pc := 69) C dX0_wed_69 (Hh.1 _ _ sh_64) hb8 ?_
        refine b_icmp_ne (tgt := 92) (pc := 70) C dX0_wed_70 rfl (fun hc9 => ?_) (fun hc9 => ?_)
        · rw [if_neg hc9] at hF
          obtain ⟨x6_10, e11, hF⟩ := blet_e hF
          refine b_iinc (L' := [(6, .int x6_10), (7, .int x7_2), (0, .ref 63), (1, .ref x1), (2, .int x2), (3, .int x3), (4, .int x4), (5, .int x5)]) (pc := 92) C dX0_wed_92 7 rfl ic_1 e11 (Hh.2.1 _ (Nat.le_of_ble_eq_true rfl)) rfl ?_
          refine b_goto (tgt := 24) (pc := 95) C dX0_wed_95 rfl ?_
          exact b_sub [2, 3, 4, 5, 6, 7, 0] rfl (ih _ hx1 x2 x3 x4 x5 x6_10 _ _ hF hr hx)
        · rw [if_pos hc9] at hF
          refine b_aload_n (pc := 73) C dX0_wed_73 rfl 1 rfl ?_
          refine b_getS (pc := 74) C dX0_wed_74 fl_X0_15 (Hh.1 _ _ sh_63) rfl ?_
          refine b_iload_n (pc := 77) C dX0_wed_77 rfl 3 rfl ?_
          refine b_iload (pc := 78) C dX0_wed_78 7 rfl ?_
          obtain ⟨hb14, hF⟩ := bif_n hF
          obtain ⟨σ12, e13, hF⟩ := blet_e hF
          refine b_iast (pc := 80) C dX0_wed_80 (Hh.1 _ _ sh_65) hb14 e13 ?_
          refine b_aload_n (pc := 81) C dX0_wed_81 rfl 1 rfl ?_
          refine b_getS (pc := 82) C dX0_wed_82 fl_X0_15 (Hh.1 _ _ sh_63) rfl ?_
          refine b_iload (pc := 85) C dX0_wed_85 7 rfl ?_
          refine b_iload_n (pc := 87) C dX0_wed_87 rfl 3 rfl ?_
          obtain ⟨hb17, hF⟩ := bif_n hF
          obtain ⟨σ15, e16, hF⟩ := blet_e hF
          refine b_iast (pc := 88) C dX0_wed_88 (Hh.1 _ _ sh_65) hb17 e16 ?_
          refine b_iload (pc := 89) C dX0_wed_89 0 rfl ?_
          exact b_iret (pc := 91) C Rt dX0_wed_91 (hr _ _ (Option.some.inj hF).symm)
set_option maxHeartbeats 4000000 in
set_option maxRecDepth 20000 in
theorem e_X0_wed_0 {X : bX} {l : Launch} {G : bG} {ρ : Nat → Nat} {A : Nat → Prop} {d : Nat} {r : Int32} {σ' : bSto} (C : bCX X cX0_wed RX0 (d + 2)) (Hh : bH X l G bSHf ρ A 8) (Rt : bRX X (some .int) (some (.int r)) σ') (x1 : Nat) (hx1 : kF x1) (x2 : Int32) (x3 : Int32) (σ : bSto) (hF : f_X0_wed x1 x2 x3 σ = some (r, σ')) : bAJ X 0 [(0, .ref 63), (1, .ref x1), (2, .int x2), (3, .int x3)] [] σ := by
  rw [f_X0_wed] at hF
  refine b_iload_n (pc := 0) C dX0_wed_0 rfl 3 rfl ?_
  refine b_iconst (pc := 1) C dX0_wed_1 ic_1 ?_
  refine b_iload_n (pc := 2) C dX0_wed_2 rfl 2 rfl ?_
  refine b_ishl (pc := 3) C dX0_wed_3 ?_
  refine b_iconst (pc := 4) C dX0_wed_4 ic_m1 ?_
  refine b_ixor (pc := 5) C dX0_wed_5 ?_
  refine b_iand (pc := 6) C dX0_wed_6 ?_
  obtain ⟨x4_1, e2, hF⟩ := blet_e hF
  refine b_istore (L' := [(4, .int x4_1), (0, .ref 63), (1, .ref x1), (2, .int x2), (3, .int x3)]) (pc := 7) C dX0_wed_7 e2 (Hh.2.1 _ (Nat.le_of_ble_eq_true rfl)) rfl ?_
  refine b_aload_n (pc := 9) C dX0_wed_9 rfl 2 rfl ?_
  refine b_iload_n (pc := 10) C dX0_wed_10 rfl 3 rfl ?_
  obtain ⟨v5, σ4, hc3, hF⟩ := bbd_e hF
  refine b_cV1i (d' := (d + 1)) (pc := 11) C dX0_wed_11 mm_X0_48 (Hh.1 _ _ (shF hx1)) rfl (Nat.le_of_ble_eq_true rfl) (by omega) (Hh.2.2 _ _ _ _ _ _ _ _ _ (lvl_eq (by omega) (e_X2_marriable (d + 0) _ hx1 x2 _ _ _ hc3))) ?_
  refine b_iload (pc := 14) C dX0_wed_14 0 rfl ?_
  refine b_iand (pc := 16) C dX0_wed_16 ?_
  obtain ⟨x5_6, e7, hF⟩ := blet_e hF
  refine b_istore (L' := [(5, .int x5_6), (4, .int x4_1), (0, .ref 63), (1, .ref x1), (2, .int x2), (3, .int x3)]) (pc := 17) C dX0_wed_17 e7 (Hh.2.1 _ (Nat.le_of_ble_eq_true rfl)) rfl ?_
  refine b_iload_n (pc := 19) C dX0_wed_19 rfl 4 rfl ?_
  refine b_iconst (pc := 20) C dX0_wed_20 ic_1 ?_
  refine b_iadd (pc := 21) C dX0_wed_21 ?_
  obtain ⟨x6_8, e9, hF⟩ := blet_e hF
  refine b_istore (L' := [(6, .int x6_8), (5, .int x5_6), (4, .int x4_1), (0, .ref 63), (1, .ref x1), (2, .int x2), (3, .int x3)]) (pc := 22) C dX0_wed_22 e9 (Hh.2.1 _ (Nat.le_of_ble_eq_true rfl)) rfl ?_
  rcases br1_e hF with ⟨v, s, hq10, hF⟩ | ⟨x4_10, σ11, hq10, hF⟩
  · exact b_sub [3, 4, 5, 6, 2, 1, 0] rfl (e_X0_wed_L24 C Hh Rt bFU _ hx1 x2 x3 x4_1 x5_6 x6_8 _ _ hq10 (fun v s e => by cases e; exact hF) (fun _ _ e => by cases e))
  · refine b_sub [3, 4, 5, 6, 2, 1, 0] rfl (e_X0_wed_L24 C Hh Rt bFU _ hx1 x2 x3 x4_1 x5_6 x6_8 _ _ hq10 (fun v s e => by cases e) (fun _ _ e  => ?_))
    cases e
    refine b_iload (pc := 98) C dX0_wed_98 0 rfl ?_
    exact b_iret (pc := 100) C Rt dX0_wed_100 hF
set_option maxHeartbeats 4000000 in
set_option maxRecDepth 20000 in
theorem e_X0_wed {l : Launch} {G : bG} {ρ : Nat → Nat} {A : Nat → Prop} (d : Nat) (x1 : Nat) (hx1 : kF x1) (x2 : Int32) (x3 : Int32) (σ : bSto) (r : Int32) (σ' : bSto) (hF : f_X0_wed x1 x2 x3 σ = some (r, σ')) : bEv l G bSHf ρ A yX0_wed cX0_wed 8 (some .int) (d + 2) [.ref 63, .ref x1, .int x2, .int x3] σ (some (.int r)) σ' := b_met (d := d + 2) (by decide +kernel) (Nat.le_of_ble_eq_true rfl) rfl (fun X C Rt h1 h2 h3 => e_X0_wed_0 C ⟨fun o q h => by rw [h1]; exact h, fun i h => by rw [h2]; exact h, h3⟩ Rt _ hx1 _ _ _ hF)
/-! BenchColony$Couples.pair -/
def f_X0_pair_L14 : Nat → Nat → Int32 → Int32 → bSto → Option (Nat × Int32 × bSto)
  | 0, _, _, _, _ => none
  | n + 1, x1, x2, x3, σ => (if x2 < x3 then some (x1, x2, σ) else bbd (f_X0_pairsAmong x1 x3 σ) (fun v4 σ3 => if x3 < 0 ∨ 128 ≤ x3.toNatClampNeg then none else blet (bI σ3 64 x3.toNatClampNeg v4) (fun σ5 => blet (x3 + (1 : Int32)) (fun x3_8 => f_X0_pair_L14 n x1 x2 x3_8 σ5))))
def f_X0_pair_L51 : Nat → Nat → Int32 → Int32 → Int32 → bSto → Option (Int32 × bSto)
  | 0, _, _, _, _, _ => none
  | n + 1, x1, x2, x3, x4, σ => (if (σ.1 x1 7) ≤ x4 then some (x2, σ) else (if ((x3 >>> (x4 &&& 31)) &&& (1 : Int32)) = (1 : Int32) then bbd (f_X0_wed x1 x4 x3 σ) (fun v7 σ6 => blet (x4 + (1 : Int32)) (fun x4_8 => f_X0_pair_L51 n x1 x2 v7 x4_8 σ6)) else blet (x4 + (1 : Int32)) (fun x4_3 => f_X0_pair_L51 n x1 x2 x3 x4_3 σ)))
def f_X0_pair (x1 : Nat) (σ : bSto) : Option (Int32 × bSto) := bbd (f_X2_everybody x1 σ) (fun v3 σ2 => blet (bI σ2 64 0 (0 : Int32)) (fun σ4 => bl2 (f_X0_pair_L14 bFU x1 v3 (1 : Int32) σ4) (fun x1_6 x2_6 σ7 => bbv (f_J7_fill_53178 65 (-2 : Int32) σ7) (fun σ9 => bl1 (f_X0_pair_L51 bFU x1_6 x2_6 x2_6 (0 : Int32) σ9) (fun x2_10 σ11 => if x2_10 < 0 ∨ 128 ≤ x2_10.toNatClampNeg then none else some ((σ11.1 64 x2_10.toNatClampNeg), σ11))))))
set_option maxHeartbeats 4000000 in
set_option maxRecDepth 20000 in
theorem e_X0_pair_L14 {X : bX} {l : Launch} {G : bG} {ρ : Nat → Nat} {A : Nat → Prop} {d : Nat} {r : Int32} {σ' : bSto} (C : bCX X cX0_pair RX0 (d + 3)) (Hh : bH X l G bSHf ρ A 5) (Rt : bRX X (some .int) (some (.int r)) σ') : ∀ (n : Nat) (x1 : Nat) (hx1 : kF x1) (x2 : Int32) (x3 : Int32) (σ : bSto) (q : (Nat × Int32 × bSto)), f_X0_pair_L14 n x1 x2 x3 σ = some q → (∀ (x1 : Nat) (x2 : Int32) (s : bSto), q = (x1, x2, s) → kF x1 → bAJ X 37 [(0, .ref 63), (1, .ref x1), (2, .int x2)] [] s) → bAJ X 14 [(0, .ref 63), (1, .ref x1), (2, .int x2), (3, .int x3)] [] σ := by
  intro n
  induction n with
  | zero => intro x1 hx1 x2 x3 σ q hF; rw [f_X0_pair_L14] at hF; cases hF
  | succ n ih =>
    intro x1 hx1 x2 x3 σ q hF hx
    rw [f_X0_pair_L14] at hF
    refine b_iload_n (pc := 14) C dX0_pair_14 rfl 3 rfl ?_
    refine b_iload_n (pc := 15) C dX0_pair_15 rfl 2 rfl ?_
    refine b_icmp_gt (tgt := 37) (pc := 16) C dX0_pair_16 rfl (fun hc1 => ?_) (fun hc1 => ?_)
    · rw [if_pos hc1] at hF
      exact b_sub [0, 1, 2] rfl (hx _ _ _ (Option.some.inj hF).symm hx1)
    · rw [if_neg hc1] at hF
      refine b_aload_n (pc := 19) C dX0_pair_19 rfl 0 rfl ?_
      refine b_getS (pc := 20) C dX0_pair_20 fl_X0_9 (Hh.1 _ _ sh_63) rfl ?_
      refine b_iload_n (pc := 23) C dX0_pair_23 rfl 3 rfl ?_
      refine b_aload_n (pc := 24) C dX0_pair_24 rfl 0 rfl ?_
      refine b_aload_n (pc := 25) C dX0_pair_25 rfl 1 rfl ?_
      refine b_iload_n (pc := 26) C dX0_pair_26 rfl 3 rfl ?_
      obtain ⟨v4, σ3, hc2, hF⟩ := bbd_e hF
      refine b_cV2i (d' := (d + 2)) (pc := 27) C dX0_pair_27 mm_X0_24 (Hh.1 _ _ sh_63) rfl (Nat.le_of_ble_eq_true rfl) (by omega) (Hh.2.2 _ _ _ _ _ _ _ _ _ (lvl_eq (by omega) (e_X0_pairsAmong (d + 0) _ hx1 x3 _ _ _ hc2))) ?_
      obtain ⟨hb7, hF⟩ := bif_n hF
      obtain ⟨σ5, e6, hF⟩ := blet_e hF
      refine b_iast (pc := 30) C dX0_pair_30 (Hh.1 _ _ sh_64) hb7 e6 ?_
      obtain ⟨x3_8, e9, hF⟩ := blet_e hF
      refine b_iinc (L' := [(3, .int x3_8), (0, .ref 63), (1, .ref x1), (2, .int x2)]) (pc := 31) C dX0_pair_31 3 rfl ic_1 e9 (Hh.2.1 _ (Nat.le_of_ble_eq_true rfl)) rfl ?_
      refine b_goto (tgt := 14) (pc := 34) C dX0_pair_34 rfl ?_
      exact b_sub [1, 2, 3, 0] rfl (ih _ hx1 x2 x3_8 _ _ hF hx)
set_option maxHeartbeats 4000000 in
set_option maxRecDepth 20000 in
theorem e_X0_pair_L51 {X : bX} {l : Launch} {G : bG} {ρ : Nat → Nat} {A : Nat → Prop} {d : Nat} {r : Int32} {σ' : bSto} (C : bCX X cX0_pair RX0 (d + 3)) (Hh : bH X l G bSHf ρ A 5) (Rt : bRX X (some .int) (some (.int r)) σ') : ∀ (n : Nat) (x1 : Nat) (hx1 : kF x1) (x2 : Int32) (x3 : Int32) (x4 : Int32) (σ : bSto) (q : (Int32 × bSto)), f_X0_pair_L51 n x1 x2 x3 x4 σ = some q → (∀ (x2 : Int32) (s : bSto), q = (x2, s) → bAJ X 85 [(0, .ref 63), (2, .int x2)] [] s) → bAJ X 51 [(0, .ref 63), (1, .ref x1), (2, .int x2), (3, .int x3), (4, .int x4)] [] σ := by
  intro n
  induction n with
  | zero => intro x1 hx1 x2 x3 x4 σ q hF; rw [f_X0_pair_L51] at hF; cases hF
  | succ n ih =>
    intro x1 hx1 x2 x3 x4 σ q hF hx
    rw [f_X0_pair_L51] at hF
    refine b_iload (pc := 51) C dX0_pair_51 4 rfl ?_
    refine b_aload_n (pc := 53) C dX0_pair_53 rfl 1 rfl ?_
    refine b_getI (pc := 54) C dX0_pair_54 fl_X0_34 (Hh.1 _ _ (shF hx1)) rfl ?_
    refine b_icmp_ge (tgt := 85) (pc := 57) C dX0_pair_57 rfl (fun hc1 => ?_) (fun hc1 => ?_)
    · rw [if_pos hc1] at hF
      exact b_sub [0, 2] rfl (hx _ _ (Option.some.inj hF).symm )
    · rw [if_neg hc1] at hF
      refine b_iload_n (pc := 60) C dX0_pair_60 rfl 3 rfl ?_
      refine b_iload (pc := 61) C dX0_pair_61 4 rfl ?_
      refine b_ishr (pc := 63) C dX0_pair_63 ?_
      refine b_iconst (pc := 64) C dX0_pair_64 ic_1 ?_
      refine b_iand (pc := 65) C dX0_pair_65 ?_
      refine b_iconst (pc := 66) C dX0_pair_66 ic_1 ?_
      refine b_icmp_ne (tgt := 79) (pc := 67) C dX0_pair_67 rfl (fun hc2 => ?_) (fun hc2 => ?_)
      · rw [if_neg hc2] at hF
        obtain ⟨x4_3, e4, hF⟩ := blet_e hF
        refine b_iinc (L' := [(4, .int x4_3), (0, .ref 63), (1, .ref x1), (2, .int x2), (3, .int x3)]) (pc := 79) C dX0_pair_79 4 rfl ic_1 e4 (Hh.2.1 _ (Nat.le_of_ble_eq_true rfl)) rfl ?_
        refine b_goto (tgt := 51) (pc := 82) C dX0_pair_82 rfl ?_
        exact b_sub [1, 2, 3, 4, 0] rfl (ih _ hx1 x2 x3 x4_3 _ _ hF hx)
      · rw [if_pos hc2] at hF
        refine b_aload_n (pc := 70) C dX0_pair_70 rfl 0 rfl ?_
        refine b_aload_n (pc := 71) C dX0_pair_71 rfl 1 rfl ?_
        refine b_iload (pc := 72) C dX0_pair_72 4 rfl ?_
        refine b_iload_n (pc := 74) C dX0_pair_74 rfl 3 rfl ?_
        obtain ⟨v7, σ6, hc5, hF⟩ := bbd_e hF
        refine b_cV3i (d' := (d + 2)) (pc := 75) C dX0_pair_75 mm_X0_38 (Hh.1 _ _ sh_63) rfl (Nat.le_of_ble_eq_true rfl) (by omega) (Hh.2.2 _ _ _ _ _ _ _ _ _ (lvl_eq (by omega) (e_X0_wed (d + 0) _ hx1 x4 x3 _ _ _ hc5))) ?_
        refine b_istore_n (L' := [(3, .int v7), (0, .ref 63), (1, .ref x1), (2, .int x2), (4, .int x4)]) (pc := 78) C dX0_pair_78 rfl rfl (Hh.2.1 _ (Nat.le_of_ble_eq_true rfl)) rfl ?_
        obtain ⟨x4_8, e9, hF⟩ := blet_e hF
        refine b_iinc (L' := [(4, .int x4_8), (3, .int v7), (0, .ref 63), (1, .ref x1), (2, .int x2)]) (pc := 79) C dX0_pair_79 4 rfl ic_1 e9 (Hh.2.1 _ (Nat.le_of_ble_eq_true rfl)) rfl ?_
        refine b_goto (tgt := 51) (pc := 82) C dX0_pair_82 rfl ?_
        exact b_sub [2, 3, 4, 1, 0] rfl (ih _ hx1 x2 v7 x4_8 _ _ hF hx)
set_option maxHeartbeats 4000000 in
set_option maxRecDepth 20000 in
theorem e_X0_pair_0 {X : bX} {l : Launch} {G : bG} {ρ : Nat → Nat} {A : Nat → Prop} {d : Nat} {r : Int32} {σ' : bSto} (C : bCX X cX0_pair RX0 (d + 3)) (Hh : bH X l G bSHf ρ A 5) (Rt : bRX X (some .int) (some (.int r)) σ') (x1 : Nat) (hx1 : kF x1) (σ : bSto) (hF : f_X0_pair x1 σ = some (r, σ')) : bAJ X 0 [(0, .ref 63), (1, .ref x1)] [] σ := by
  rw [f_X0_pair] at hF
  refine b_aload_n (pc := 0) C dX0_pair_0 rfl 1 rfl ?_
  obtain ⟨v3, σ2, hc1, hF⟩ := bbd_e hF
  refine b_cV0i (d' := (d + 2)) (pc := 1) C dX0_pair_1 mm_X0_18 (Hh.1 _ _ (shF hx1)) rfl (Nat.le_of_ble_eq_true rfl) (by omega) (Hh.2.2 _ _ _ _ _ _ _ _ _ (lvl_eq (by omega) (e_X2_everybody (d + 2) _ hx1 _ _ _ hc1))) ?_
  refine b_istore_n (L' := [(2, .int v3), (0, .ref 63), (1, .ref x1)]) (pc := 4) C dX0_pair_4 rfl rfl (Hh.2.1 _ (Nat.le_of_ble_eq_true rfl)) rfl ?_
  refine b_aload_n (pc := 5) C dX0_pair_5 rfl 1 rfl ?_
  refine b_getS (pc := 6) C dX0_pair_6 fl_X0_9 (Hh.1 _ _ sh_63) rfl ?_
  refine b_iconst (pc := 9) C dX0_pair_9 ic_0 ?_
  refine b_iconst (pc := 10) C dX0_pair_10 ic_0 ?_
  obtain ⟨σ4, e5, hF⟩ := blet_e hF
  refine b_iastK (pc := 11) C dX0_pair_11 (Hh.1 _ _ sh_64) tn_0 (by decide) e5 ?_
  refine b_iconst (pc := 12) C dX0_pair_12 ic_1 ?_
  refine b_istore_n (L' := [(3, .int (1 : Int32)), (2, .int v3), (0, .ref 63), (1, .ref x1)]) (pc := 13) C dX0_pair_13 rfl rfl (Hh.2.1 _ (Nat.le_of_ble_eq_true rfl)) rfl ?_
  obtain ⟨x1_6, x2_6, σ7, hq6, hF⟩ := bl2_e hF
  refine b_sub [2, 3, 1, 0] rfl (e_X0_pair_L14 C Hh Rt bFU _ hx1 v3 (1 : Int32) _ _ hq6 (fun _ _ _ e hx1_6 => ?_))
  cases e
  refine b_aload_n (pc := 37) C dX0_pair_37 rfl 0 rfl ?_
  refine b_getS (pc := 38) C dX0_pair_38 fl_X0_15 (Hh.1 _ _ sh_63) rfl ?_
  refine b_bipush (pc := 41) C dX0_pair_41 bp_m2 ?_
  obtain ⟨σ9, hc8, hF⟩ := bbv_e hF
  refine b_cS2v (d' := (d + 2)) (pc := 43) C dX0_pair_43 mm_X0_28 (Nat.le_of_ble_eq_true rfl) (by omega) (Hh.2.2 _ _ _ _ _ _ _ _ _ (lvl_eq (by omega) (e_J7_fill_53178 (d + 2) _ (show kIA 65 from sh_65) (-2 : Int32) _ _ hc8))) ?_
  refine b_iload_n (pc := 46) C dX0_pair_46 rfl 2 rfl ?_
  refine b_istore_n (L' := [(3, .int x2_6), (0, .ref 63), (1, .ref x1_6), (2, .int x2_6)]) (pc := 47) C dX0_pair_47 rfl rfl (Hh.2.1 _ (Nat.le_of_ble_eq_true rfl)) rfl ?_
  refine b_iconst (pc := 48) C dX0_pair_48 ic_0 ?_
  refine b_istore (L' := [(4, .int (0 : Int32)), (3, .int x2_6), (0, .ref 63), (1, .ref x1_6), (2, .int x2_6)]) (pc := 49) C dX0_pair_49 rfl (Hh.2.1 _ (Nat.le_of_ble_eq_true rfl)) rfl ?_
  obtain ⟨x2_10, σ11, hq10, hF⟩ := bl1_e hF
  refine b_sub [2, 3, 4, 1, 0] rfl (e_X0_pair_L51 C Hh Rt bFU _ hx1_6 x2_6 x2_6 (0 : Int32) _ _ hq10 (fun _ _ e  => ?_))
  cases e
  refine b_aload_n (pc := 85) C dX0_pair_85 rfl 0 rfl ?_
  refine b_getS (pc := 86) C dX0_pair_86 fl_X0_9 (Hh.1 _ _ sh_63) rfl ?_
  refine b_iload_n (pc := 89) C dX0_pair_89 rfl 1 rfl ?_
  obtain ⟨hb12, hF⟩ := bif_n hF
  refine b_iald (pc := 90) C dX0_pair_90 (Hh.1 _ _ sh_64) hb12 ?_
  exact b_iret (pc := 91) C Rt dX0_pair_91 hF
set_option maxHeartbeats 4000000 in
set_option maxRecDepth 20000 in
theorem e_X0_pair {l : Launch} {G : bG} {ρ : Nat → Nat} {A : Nat → Prop} (d : Nat) (x1 : Nat) (hx1 : kF x1) (σ : bSto) (r : Int32) (σ' : bSto) (hF : f_X0_pair x1 σ = some (r, σ')) : bEv l G bSHf ρ A yX0_pair cX0_pair 5 (some .int) (d + 3) [.ref 63, .ref x1] σ (some (.int r)) σ' := b_met (d := d + 3) (by decide +kernel) (Nat.le_of_ble_eq_true rfl) rfl (fun X C Rt h1 h2 h3 => e_X0_pair_0 C ⟨fun o q h => by rw [h1]; exact h, fun i h => by rw [h2]; exact h, h3⟩ Rt _ hx1 _ hF)
/-! BenchColony$Creed.begin -/
def f_X1_begin (x1 : Nat) (σ : bSto) : Option bSto := blet (bA σ 67 (va_cpy (σ.1 (x1 + 2)) (σ.1 67) (0 : Int32).toNatClampNeg (0 : Int32).toNatClampNeg (7 : Int32).toNatClampNeg)) (fun σ2 => some σ2)
set_option maxHeartbeats 4000000 in
set_option maxRecDepth 20000 in
theorem e_X1_begin_0 {X : bX} {l : Launch} {G : bG} {ρ : Nat → Nat} {A : Nat → Prop} {d : Nat} {σ' : bSto} (C : bCX X cX1_begin RX1 (d + 0)) (Hh : bH X l G bSHf ρ A 2) (Rt : bRX X none none σ') (x1 : Nat) (hx1 : kN x1) (σ : bSto) (hF : f_X1_begin x1 σ = some σ') : bAJ X 0 [(0, .ref 66), (1, .ref x1)] [] σ := by
  rw [f_X1_begin] at hF
  refine b_aload_n (pc := 0) C dX1_begin_0 rfl 1 rfl ?_
  refine b_getS (pc := 1) C dX1_begin_1 fl_X1_18 (Hh.1 _ _ (shN hx1)) rfl ?_
  refine b_iconst (pc := 4) C dX1_begin_4 ic_0 ?_
  refine b_aload_n (pc := 5) C dX1_begin_5 rfl 0 rfl ?_
  refine b_getS (pc := 6) C dX1_begin_6 fl_X1_9 (Hh.1 _ _ sh_66) rfl ?_
  refine b_iconst (pc := 9) C dX1_begin_9 ic_0 ?_
  refine b_bipush (pc := 10) C dX1_begin_10 bp_7 ?_
  obtain ⟨σ2, e3, hF⟩ := blet_e hF
  refine b_copy (pc := 12) C dX1_begin_12 ww_X1_21 wArr (Hh.1 _ _ (sa_4_1 hx1)) (Hh.1 _ _ sh_67) (Nat.le_of_ble_eq_true rfl) (by decide) e3 ?_
  exact b_vret (pc := 15) C Rt dX1_begin_15 hF
set_option maxHeartbeats 4000000 in
set_option maxRecDepth 20000 in
theorem e_X1_begin {l : Launch} {G : bG} {ρ : Nat → Nat} {A : Nat → Prop} (d : Nat) (x1 : Nat) (hx1 : kN x1) (σ : bSto) (σ' : bSto) (hF : f_X1_begin x1 σ = some σ') : bEv l G bSHf ρ A yX1_begin cX1_begin 2 none (d + 0) [.ref 66, .ref x1] σ none σ' := b_met (d := d + 0) (by decide +kernel) (Nat.le_of_ble_eq_true rfl) rfl (fun X C Rt h1 h2 h3 => e_X1_begin_0 C ⟨fun o q h => by rw [h1]; exact h, fun i h => by rw [h2]; exact h, h3⟩ Rt _ hx1 _ hF)
/-! BenchColony$Creed.pull -/
def f_X1_pull_L10 : Nat → Nat → Int32 → bSto → Option (bSto)
  | 0, _, _, _ => none
  | n + 1, x1, x2, σ => (if (σ.1 x1 9) ≤ x2 then some σ else if x2 < 0 ∨ 9 ≤ x2.toNatClampNeg then none else if (σ.1 (x1 + 5) x2.toNatClampNeg) < 0 ∨ 7 ≤ (σ.1 (x1 + 5) x2.toNatClampNeg).toNatClampNeg then none else if x2 < 0 ∨ 9 ≤ x2.toNatClampNeg then none else if x2 < 0 ∨ 9 ≤ x2.toNatClampNeg then none else if (σ.1 (x1 + 6) x2.toNatClampNeg) < 0 ∨ 7 ≤ (σ.1 (x1 + 6) x2.toNatClampNeg).toNatClampNeg then none else if (σ.1 (x1 + 5) x2.toNatClampNeg) < 0 ∨ 7 ≤ (σ.1 (x1 + 5) x2.toNatClampNeg).toNatClampNeg then none else blet (bI σ 68 (σ.1 (x1 + 5) x2.toNatClampNeg).toNatClampNeg ((σ.1 68 (σ.1 (x1 + 5) x2.toNatClampNeg).toNatClampNeg) + ((σ.1 (x1 + 7) x2.toNatClampNeg) * (σ.1 67 (σ.1 (x1 + 6) x2.toNatClampNeg).toNatClampNeg)))) (fun σ7 => blet (x2 + (1 : Int32)) (fun x2_10 => f_X1_pull_L10 n x1 x2_10 σ7)))
def f_X1_pull (x1 : Nat) (σ : bSto) : Option bSto := bbv (f_J7_fill_53178 68 (0 : Int32) σ) (fun σ2 => bl0 (f_X1_pull_L10 bFU x1 (0 : Int32) σ2) (fun σ4 => some σ4))
set_option maxHeartbeats 4000000 in
set_option maxRecDepth 20000 in
theorem e_X1_pull_L10 {X : bX} {l : Launch} {G : bG} {ρ : Nat → Nat} {A : Nat → Prop} {d : Nat} {σ' : bSto} (C : bCX X cX1_pull RX1 (d + 1)) (Hh : bH X l G bSHf ρ A 3) (Rt : bRX X none none σ') : ∀ (n : Nat) (x1 : Nat) (hx1 : kF x1) (x2 : Int32) (σ : bSto) (q : (bSto)), f_X1_pull_L10 n x1 x2 σ = some q → (∀  (s : bSto), q = s → bAJ X 56 [] [] s) → bAJ X 10 [(0, .ref 66), (1, .ref x1), (2, .int x2)] [] σ := by
  intro n
  induction n with
  | zero => intro x1 hx1 x2 σ q hF; rw [f_X1_pull_L10] at hF; cases hF
  | succ n ih =>
    intro x1 hx1 x2 σ q hF hx
    rw [f_X1_pull_L10] at hF
    refine b_iload_n (pc := 10) C dX1_pull_10 rfl 2 rfl ?_
    refine b_aload_n (pc := 11) C dX1_pull_11 rfl 1 rfl ?_
    refine b_getI (pc := 12) C dX1_pull_12 fl_X1_33 (Hh.1 _ _ (shF hx1)) rfl ?_
    refine b_icmp_ge (tgt := 56) (pc := 15) C dX1_pull_15 rfl (fun hc1 => ?_) (fun hc1 => ?_)
    · rw [if_pos hc1] at hF
      exact b_sub [] rfl (hx  _ (Option.some.inj hF).symm )
    · rw [if_neg hc1] at hF
      refine b_aload_n (pc := 18) C dX1_pull_18 rfl 0 rfl ?_
      refine b_getS (pc := 19) C dX1_pull_19 fl_X1_15 (Hh.1 _ _ sh_66) rfl ?_
      refine b_aload_n (pc := 22) C dX1_pull_22 rfl 1 rfl ?_
      refine b_getS (pc := 23) C dX1_pull_23 fl_X1_39 (Hh.1 _ _ (shF hx1)) rfl ?_
      refine b_iload_n (pc := 26) C dX1_pull_26 rfl 2 rfl ?_
      obtain ⟨hb2, hF⟩ := bif_n hF
      refine b_iald (pc := 27) C dX1_pull_27 (Hh.1 _ _ (sa_2_4 hx1)) hb2 ?_
      refine b_dup2 (pc := 28) C dX1_pull_28 rfl rfl ?_
      obtain ⟨hb3, hF⟩ := bif_n hF
      refine b_iald (pc := 29) C dX1_pull_29 (Hh.1 _ _ sh_68) hb3 ?_
      refine b_aload_n (pc := 30) C dX1_pull_30 rfl 1 rfl ?_
      refine b_getS (pc := 31) C dX1_pull_31 fl_X1_42 (Hh.1 _ _ (shF hx1)) rfl ?_
      refine b_iload_n (pc := 34) C dX1_pull_34 rfl 2 rfl ?_
      obtain ⟨hb4, hF⟩ := bif_n hF
      refine b_iald (pc := 35) C dX1_pull_35 (Hh.1 _ _ (sa_2_6 hx1)) hb4 ?_
      refine b_aload_n (pc := 36) C dX1_pull_36 rfl 0 rfl ?_
      refine b_getS (pc := 37) C dX1_pull_37 fl_X1_9 (Hh.1 _ _ sh_66) rfl ?_
      refine b_aload_n (pc := 40) C dX1_pull_40 rfl 1 rfl ?_
      refine b_getS (pc := 41) C dX1_pull_41 fl_X1_45 (Hh.1 _ _ (shF hx1)) rfl ?_
      refine b_iload_n (pc := 44) C dX1_pull_44 rfl 2 rfl ?_
      obtain ⟨hb5, hF⟩ := bif_n hF
      refine b_iald (pc := 45) C dX1_pull_45 (Hh.1 _ _ (sa_2_5 hx1)) hb5 ?_
      obtain ⟨hb6, hF⟩ := bif_n hF
      refine b_iald (pc := 46) C dX1_pull_46 (Hh.1 _ _ sh_67) hb6 ?_
      refine b_imul (pc := 47) C dX1_pull_47 ?_
      refine b_iadd (pc := 48) C dX1_pull_48 ?_
      obtain ⟨hb9, hF⟩ := bif_n hF
      obtain ⟨σ7, e8, hF⟩ := blet_e hF
      refine b_iast (pc := 49) C dX1_pull_49 (Hh.1 _ _ sh_68) hb9 e8 ?_
      obtain ⟨x2_10, e11, hF⟩ := blet_e hF
      refine b_iinc (L' := [(2, .int x2_10), (0, .ref 66), (1, .ref x1)]) (pc := 50) C dX1_pull_50 2 rfl ic_1 e11 (Hh.2.1 _ (Nat.le_of_ble_eq_true rfl)) rfl ?_
      refine b_goto (tgt := 10) (pc := 53) C dX1_pull_53 rfl ?_
      exact b_sub [1, 2, 0] rfl (ih _ hx1 x2_10 _ _ hF hx)
set_option maxHeartbeats 4000000 in
set_option maxRecDepth 20000 in
theorem e_X1_pull_0 {X : bX} {l : Launch} {G : bG} {ρ : Nat → Nat} {A : Nat → Prop} {d : Nat} {σ' : bSto} (C : bCX X cX1_pull RX1 (d + 1)) (Hh : bH X l G bSHf ρ A 3) (Rt : bRX X none none σ') (x1 : Nat) (hx1 : kF x1) (σ : bSto) (hF : f_X1_pull x1 σ = some σ') : bAJ X 0 [(0, .ref 66), (1, .ref x1)] [] σ := by
  rw [f_X1_pull] at hF
  refine b_aload_n (pc := 0) C dX1_pull_0 rfl 0 rfl ?_
  refine b_getS (pc := 1) C dX1_pull_1 fl_X1_15 (Hh.1 _ _ sh_66) rfl ?_
  refine b_iconst (pc := 4) C dX1_pull_4 ic_0 ?_
  obtain ⟨σ2, hc1, hF⟩ := bbv_e hF
  refine b_cS2v (d' := (d + 0)) (pc := 5) C dX1_pull_5 mm_X1_27 (Nat.le_of_ble_eq_true rfl) (by omega) (Hh.2.2 _ _ _ _ _ _ _ _ _ (lvl_eq (by omega) (e_J7_fill_53178 (d + 0) _ (show kIA 68 from sh_68) (0 : Int32) _ _ hc1))) ?_
  refine b_iconst (pc := 8) C dX1_pull_8 ic_0 ?_
  refine b_istore_n (L' := [(2, .int (0 : Int32)), (0, .ref 66), (1, .ref x1)]) (pc := 9) C dX1_pull_9 rfl rfl (Hh.2.1 _ (Nat.le_of_ble_eq_true rfl)) rfl ?_
  obtain ⟨σ4, hq3, hF⟩ := bl0_e hF
  refine b_sub [1, 2, 0] rfl (e_X1_pull_L10 C Hh Rt bFU _ hx1 (0 : Int32) _ _ hq3 (fun  _ e  => ?_))
  cases e
  exact b_vret (pc := 56) C Rt dX1_pull_56 hF
set_option maxHeartbeats 4000000 in
set_option maxRecDepth 20000 in
theorem e_X1_pull {l : Launch} {G : bG} {ρ : Nat → Nat} {A : Nat → Prop} (d : Nat) (x1 : Nat) (hx1 : kF x1) (σ : bSto) (σ' : bSto) (hF : f_X1_pull x1 σ = some σ') : bEv l G bSHf ρ A yX1_pull cX1_pull 3 none (d + 1) [.ref 66, .ref x1] σ none σ' := b_met (d := d + 1) (by decide +kernel) (Nat.le_of_ble_eq_true rfl) rfl (fun X C Rt h1 h2 h3 => e_X1_pull_0 C ⟨fun o q h => by rw [h1]; exact h, fun i h => by rw [h2]; exact h, h3⟩ Rt _ hx1 _ hF)
/-! BenchColony$Creed.turnedBelief -/
def f_X1_turnedBelief_J39 (x2 : Int32) (σ : bSto) : Option (Int32 × bSto) := if x2 < 0 ∨ 7 ≤ x2.toNatClampNeg then none else some ((σ.1 67 x2.toNatClampNeg), σ)
def f_X1_turnedBelief_J46 (x2 : Int32) (σ : bSto) : Option (Int32 × bSto) := if x2 < 0 ∨ 7 ≤ x2.toNatClampNeg then none else (if (σ.1 68 x2.toNatClampNeg) ≤ 0 then some ((-1 : Int32), σ) else some ((1 : Int32), σ))
def f_X1_turnedBelief_J24 (x1 : Int32) (x2 : Int32) (σ : bSto) : Option (Int32 × bSto) := (if x1 = (1 : Int32) then if x2 < 0 ∨ 7 ≤ x2.toNatClampNeg then none else (if (σ.1 67 x2.toNatClampNeg) = (-1 : Int32) then f_X1_turnedBelief_J39 x2 σ else f_X1_turnedBelief_J46 x2 σ) else f_X1_turnedBelief_J46 x2 σ)
def f_X1_turnedBelief (x1 : Int32) (x2 : Int32) (σ : bSto) : Option (Int32 × bSto) := if x2 < 0 ∨ 7 ≤ x2.toNatClampNeg then none else (if (σ.1 68 x2.toNatClampNeg) = 0 then f_X1_turnedBelief_J39 x2 σ else (if x1 = (2 : Int32) then if x2 < 0 ∨ 7 ≤ x2.toNatClampNeg then none else (if (σ.1 67 x2.toNatClampNeg) = (1 : Int32) then f_X1_turnedBelief_J39 x2 σ else f_X1_turnedBelief_J24 x1 x2 σ) else f_X1_turnedBelief_J24 x1 x2 σ))
set_option maxHeartbeats 4000000 in
set_option maxRecDepth 20000 in
theorem e_X1_turnedBelief_J39 {X : bX} {l : Launch} {G : bG} {ρ : Nat → Nat} {A : Nat → Prop} {d : Nat} {r : Int32} {σ' : bSto} (C : bCX X cX1_turnedBelief RX1 (d + 0)) (Hh : bH X l G bSHf ρ A 3) (Rt : bRX X (some .int) (some (.int r)) σ') (x2 : Int32) (σ : bSto) (hF : f_X1_turnedBelief_J39 x2 σ = some (r, σ')) : bAJ X 39 [(0, .ref 66), (2, .int x2)] [] σ := by
  rw [f_X1_turnedBelief_J39] at hF
  refine b_aload_n (pc := 39) C dX1_turnedBelief_39 rfl 0 rfl ?_
  refine b_getS (pc := 40) C dX1_turnedBelief_40 fl_X1_9 (Hh.1 _ _ sh_66) rfl ?_
  refine b_iload_n (pc := 43) C dX1_turnedBelief_43 rfl 1 rfl ?_
  obtain ⟨hb1, hF⟩ := bif_n hF
  refine b_iald (pc := 44) C dX1_turnedBelief_44 (Hh.1 _ _ sh_67) hb1 ?_
  exact b_iret (pc := 45) C Rt dX1_turnedBelief_45 hF
set_option maxHeartbeats 4000000 in
set_option maxRecDepth 20000 in
theorem e_X1_turnedBelief_J46 {X : bX} {l : Launch} {G : bG} {ρ : Nat → Nat} {A : Nat → Prop} {d : Nat} {r : Int32} {σ' : bSto} (C : bCX X cX1_turnedBelief RX1 (d + 0)) (Hh : bH X l G bSHf ρ A 3) (Rt : bRX X (some .int) (some (.int r)) σ') (x2 : Int32) (σ : bSto) (hF : f_X1_turnedBelief_J46 x2 σ = some (r, σ')) : bAJ X 46 [(0, .ref 66), (2, .int x2)] [] σ := by
  rw [f_X1_turnedBelief_J46] at hF
  refine b_aload_n (pc := 46) C dX1_turnedBelief_46 rfl 0 rfl ?_
  refine b_getS (pc := 47) C dX1_turnedBelief_47 fl_X1_15 (Hh.1 _ _ sh_66) rfl ?_
  refine b_iload_n (pc := 50) C dX1_turnedBelief_50 rfl 1 rfl ?_
  obtain ⟨hb1, hF⟩ := bif_n hF
  refine b_iald (pc := 51) C dX1_turnedBelief_51 (Hh.1 _ _ sh_68) hb1 ?_
  refine b_if_le (tgt := 59) (pc := 52) C dX1_turnedBelief_52 rfl (fun hc2 => ?_) (fun hc2 => ?_)
  · rw [if_pos hc2] at hF
    refine b_iconst (pc := 59) C dX1_turnedBelief_59 ic_m1 ?_
    exact b_iret (pc := 60) C Rt dX1_turnedBelief_60 hF
  · rw [if_neg hc2] at hF
    refine b_iconst (pc := 55) C dX1_turnedBelief_55 ic_1 ?_
    refine b_goto (tgt := 60) (pc := 56) C dX1_turnedBelief_56 rfl ?_
    exact b_iret (pc := 60) C Rt dX1_turnedBelief_60 hF
set_option maxHeartbeats 4000000 in
set_option maxRecDepth 20000 in
theorem e_X1_turnedBelief_J24 {X : bX} {l : Launch} {G : bG} {ρ : Nat → Nat} {A : Nat → Prop} {d : Nat} {r : Int32} {σ' : bSto} (C : bCX X cX1_turnedBelief RX1 (d + 0)) (Hh : bH X l G bSHf ρ A 3) (Rt : bRX X (some .int) (some (.int r)) σ') (x1 : Int32) (x2 : Int32) (σ : bSto) (hF : f_X1_turnedBelief_J24 x1 x2 σ = some (r, σ')) : bAJ X 24 [(0, .ref 66), (1, .int x1), (2, .int x2)] [] σ := by
  rw [f_X1_turnedBelief_J24] at hF
  refine b_iload_n (pc := 24) C dX1_turnedBelief_24 rfl 1 rfl ?_
  refine b_iconst (pc := 25) C dX1_turnedBelief_25 ic_1 ?_
  refine b_icmp_ne (tgt := 46) (pc := 26) C dX1_turnedBelief_26 rfl (fun hc1 => ?_) (fun hc1 => ?_)
  · rw [if_neg hc1] at hF
    exact b_sub [0, 2] rfl (e_X1_turnedBelief_J46 C Hh Rt x2 _ hF)
  · rw [if_pos hc1] at hF
    refine b_aload_n (pc := 29) C dX1_turnedBelief_29 rfl 0 rfl ?_
    refine b_getS (pc := 30) C dX1_turnedBelief_30 fl_X1_9 (Hh.1 _ _ sh_66) rfl ?_
    refine b_iload_n (pc := 33) C dX1_turnedBelief_33 rfl 2 rfl ?_
    obtain ⟨hb2, hF⟩ := bif_n hF
    refine b_iald (pc := 34) C dX1_turnedBelief_34 (Hh.1 _ _ sh_67) hb2 ?_
    refine b_iconst (pc := 35) C dX1_turnedBelief_35 ic_m1 ?_
    refine b_icmp_ne (tgt := 46) (pc := 36) C dX1_turnedBelief_36 rfl (fun hc3 => ?_) (fun hc3 => ?_)
    · rw [if_neg hc3] at hF
      exact b_sub [0, 2] rfl (e_X1_turnedBelief_J46 C Hh Rt x2 _ hF)
    · rw [if_pos hc3] at hF
      exact b_sub [0, 2] rfl (e_X1_turnedBelief_J39 C Hh Rt x2 _ hF)
set_option maxHeartbeats 4000000 in
set_option maxRecDepth 20000 in
theorem e_X1_turnedBelief_0 {X : bX} {l : Launch} {G : bG} {ρ : Nat → Nat} {A : Nat → Prop} {d : Nat} {r : Int32} {σ' : bSto} (C : bCX X cX1_turnedBelief RX1 (d + 0)) (Hh : bH X l G bSHf ρ A 3) (Rt : bRX X (some .int) (some (.int r)) σ') (x1 : Int32) (x2 : Int32) (σ : bSto) (hF : f_X1_turnedBelief x1 x2 σ = some (r, σ')) : bAJ X 0 [(0, .ref 66), (1, .int x1), (2, .int x2)] [] σ := by
  rw [f_X1_turnedBelief] at hF
  refine b_aload_n (pc := 0) C dX1_turnedBelief_0 rfl 0 rfl ?_
  refine b_getS (pc := 1) C dX1_turnedBelief_1 fl_X1_15 (Hh.1 _ _ sh_66) rfl ?_
  refine b_iload_n (pc := 4) C dX1_turnedBelief_4 rfl 2 rfl ?_
  obtain ⟨hb1, hF⟩ := bif_n hF
  refine b_iald (pc := 5) C dX1_turnedBelief_5 (Hh.1 _ _ sh_68) hb1 ?_
  refine b_if_eq (tgt := 39) (pc := 6) C dX1_turnedBelief_6 rfl (fun hc2 => ?_) (fun hc2 => ?_)
  · rw [if_pos hc2] at hF
    exact b_sub [0, 2] rfl (e_X1_turnedBelief_J39 C Hh Rt x2 _ hF)
  · rw [if_neg hc2] at hF
    refine b_iload_n (pc := 9) C dX1_turnedBelief_9 rfl 1 rfl ?_
    refine b_iconst (pc := 10) C dX1_turnedBelief_10 ic_2 ?_
    refine b_icmp_ne (tgt := 24) (pc := 11) C dX1_turnedBelief_11 rfl (fun hc3 => ?_) (fun hc3 => ?_)
    · rw [if_neg hc3] at hF
      exact b_sub [0, 1, 2] rfl (e_X1_turnedBelief_J24 C Hh Rt x1 x2 _ hF)
    · rw [if_pos hc3] at hF
      refine b_aload_n (pc := 14) C dX1_turnedBelief_14 rfl 0 rfl ?_
      refine b_getS (pc := 15) C dX1_turnedBelief_15 fl_X1_9 (Hh.1 _ _ sh_66) rfl ?_
      refine b_iload_n (pc := 18) C dX1_turnedBelief_18 rfl 2 rfl ?_
      obtain ⟨hb4, hF⟩ := bif_n hF
      refine b_iald (pc := 19) C dX1_turnedBelief_19 (Hh.1 _ _ sh_67) hb4 ?_
      refine b_iconst (pc := 20) C dX1_turnedBelief_20 ic_1 ?_
      refine b_icmp_eq (tgt := 39) (pc := 21) C dX1_turnedBelief_21 rfl (fun hc5 => ?_) (fun hc5 => ?_)
      · rw [if_pos hc5] at hF
        exact b_sub [0, 2] rfl (e_X1_turnedBelief_J39 C Hh Rt x2 _ hF)
      · rw [if_neg hc5] at hF
        exact b_sub [0, 1, 2] rfl (e_X1_turnedBelief_J24 C Hh Rt x1 x2 _ hF)
set_option maxHeartbeats 4000000 in
set_option maxRecDepth 20000 in
theorem e_X1_turnedBelief {l : Launch} {G : bG} {ρ : Nat → Nat} {A : Nat → Prop} (d : Nat) (x1 : Int32) (x2 : Int32) (σ : bSto) (r : Int32) (σ' : bSto) (hF : f_X1_turnedBelief x1 x2 σ = some (r, σ')) : bEv l G bSHf ρ A yX1_turnedBelief cX1_turnedBelief 3 (some .int) (d + 0) [.ref 66, .int x1, .int x2] σ (some (.int r)) σ' := b_met (d := d + 0) (by decide +kernel) (Nat.le_of_ble_eq_true rfl) rfl (fun X C Rt h1 h2 h3 => e_X1_turnedBelief_0 C ⟨fun o q h => by rw [h1]; exact h, fun i h => by rw [h2]; exact h, h3⟩ Rt _ _ _ hF)
/-! BenchColony$Creed.step -/
def f_X1_step_L9 : Nat → Nat → Int32 → Int32 → bSto → Option (Int32 × bSto)
  | 0, _, _, _, _ => none
  | n + 1, x1, x2, x3, σ => (if (σ.1 x1 7) ≤ x3 then some (x2, σ) else if x3 < 0 ∨ 7 ≤ x3.toNatClampNeg then none else bbd (f_X1_turnedBelief (σ.1 (x1 + 1) x3.toNatClampNeg) x3 σ) (fun v5 σ4 => if x3 < 0 ∨ 7 ≤ x3.toNatClampNeg then none else (if v5 = (σ4.1 67 x3.toNatClampNeg) then blet (x3 + (1 : Int32)) (fun x3_8 => f_X1_step_L9 n x1 x2 x3_8 σ4) else if x3 < 0 ∨ 7 ≤ x3.toNatClampNeg then none else blet (bI σ4 67 x3.toNatClampNeg v5) (fun σ10 => blet (x2 ||| ((1 : Int32) <<< (x3 &&& 31))) (fun x2_13 => blet (x3 + (1 : Int32)) (fun x3_15 => f_X1_step_L9 n x1 x2_13 x3_15 σ10))))))
def f_X1_step (x1 : Nat) (σ : bSto) : Option (Int32 × bSto) := bbv (f_X1_pull x1 σ) (fun σ2 => bl1 (f_X1_step_L9 bFU x1 (0 : Int32) (0 : Int32) σ2) (fun x2_3 σ4 => some (x2_3, σ4)))
set_option maxHeartbeats 4000000 in
set_option maxRecDepth 20000 in
theorem e_X1_step_L9 {X : bX} {l : Launch} {G : bG} {ρ : Nat → Nat} {A : Nat → Prop} {d : Nat} {r : Int32} {σ' : bSto} (C : bCX X cX1_step RX1 (d + 2)) (Hh : bH X l G bSHf ρ A 5) (Rt : bRX X (some .int) (some (.int r)) σ') : ∀ (n : Nat) (x1 : Nat) (hx1 : kF x1) (x2 : Int32) (x3 : Int32) (σ : bSto) (q : (Int32 × bSto)), f_X1_step_L9 n x1 x2 x3 σ = some q → (∀ (x2 : Int32) (s : bSto), q = (x2, s) → bAJ X 61 [(2, .int x2)] [] s) → bAJ X 9 [(0, .ref 66), (1, .ref x1), (2, .int x2), (3, .int x3)] [] σ := by
  intro n
  induction n with
  | zero => intro x1 hx1 x2 x3 σ q hF; rw [f_X1_step_L9] at hF; cases hF
  | succ n ih =>
    intro x1 hx1 x2 x3 σ q hF hx
    rw [f_X1_step_L9] at hF
    refine b_iload_n (pc := 9) C dX1_step_9 rfl 3 rfl ?_
    refine b_aload_n (pc := 10) C dX1_step_10 rfl 1 rfl ?_
    refine b_getI (pc := 11) C dX1_step_11 fl_X1_52 (Hh.1 _ _ (shF hx1)) rfl ?_
    refine b_icmp_ge (tgt := 61) (pc := 14) C dX1_step_14 rfl (fun hc1 => ?_) (fun hc1 => ?_)
    · rw [if_pos hc1] at hF
      exact b_sub [2] rfl (hx _ _ (Option.some.inj hF).symm )
    · rw [if_neg hc1] at hF
      refine b_aload_n (pc := 17) C dX1_step_17 rfl 0 rfl ?_
      refine b_aload_n (pc := 18) C dX1_step_18 rfl 1 rfl ?_
      refine b_getS (pc := 19) C dX1_step_19 fl_X1_55 (Hh.1 _ _ (shF hx1)) rfl ?_
      refine b_iload_n (pc := 22) C dX1_step_22 rfl 3 rfl ?_
      obtain ⟨hb2, hF⟩ := bif_n hF
      refine b_iald (pc := 23) C dX1_step_23 (Hh.1 _ _ (sa_2_0 hx1)) hb2 ?_
      refine b_iload_n (pc := 24) C dX1_step_24 rfl 3 rfl ?_
      obtain ⟨v5, σ4, hc3, hF⟩ := bbd_e hF
      refine b_cV2i (d' := (d + 1)) (pc := 25) C dX1_step_25 mm_X1_58 (Hh.1 _ _ sh_66) rfl (Nat.le_of_ble_eq_true rfl) (by omega) (Hh.2.2 _ _ _ _ _ _ _ _ _ (lvl_eq (by omega) (e_X1_turnedBelief (d + 1) (σ.1 (x1 + 1) x3.toNatClampNeg) x3 _ _ _ hc3))) ?_
      refine b_istore (L' := [(4, .int v5), (0, .ref 66), (1, .ref x1), (2, .int x2), (3, .int x3)]) (pc := 28) C dX1_step_28 rfl (Hh.2.1 _ (Nat.le_of_ble_eq_true rfl)) rfl ?_
      refine b_iload (pc := 30) C dX1_step_30 0 rfl ?_
      refine b_aload_n (pc := 32) C dX1_step_32 rfl 1 rfl ?_
      refine b_getS (pc := 33) C dX1_step_33 fl_X1_9 (Hh.1 _ _ sh_66) rfl ?_
      refine b_iload_n (pc := 36) C dX1_step_36 rfl 4 rfl ?_
      obtain ⟨hb6, hF⟩ := bif_n hF
      refine b_iald (pc := 37) C dX1_step_37 (Hh.1 _ _ sh_67) hb6 ?_
      refine b_icmp_eq (tgt := 55) (pc := 38) C dX1_step_38 rfl (fun hc7 => ?_) (fun hc7 => ?_)
      · rw [if_pos hc7] at hF
        obtain ⟨x3_8, e9, hF⟩ := blet_e hF
        refine b_iinc (L' := [(3, .int x3_8), (4, .int v5), (0, .ref 66), (1, .ref x1), (2, .int x2)]) (pc := 55) C dX1_step_55 4 rfl ic_1 e9 (Hh.2.1 _ (Nat.le_of_ble_eq_true rfl)) rfl ?_
        refine b_goto (tgt := 9) (pc := 58) C dX1_step_58 rfl ?_
        exact b_sub [2, 3, 4, 0] rfl (ih _ hx1 x2 x3_8 _ _ hF hx)
      · rw [if_neg hc7] at hF
        refine b_aload_n (pc := 41) C dX1_step_41 rfl 1 rfl ?_
        refine b_getS (pc := 42) C dX1_step_42 fl_X1_9 (Hh.1 _ _ sh_66) rfl ?_
        refine b_iload_n (pc := 45) C dX1_step_45 rfl 4 rfl ?_
        refine b_iload (pc := 46) C dX1_step_46 0 rfl ?_
        obtain ⟨hb12, hF⟩ := bif_n hF
        obtain ⟨σ10, e11, hF⟩ := blet_e hF
        refine b_iast (pc := 48) C dX1_step_48 (Hh.1 _ _ sh_67) hb12 e11 ?_
        refine b_iload_n (pc := 49) C dX1_step_49 rfl 3 rfl ?_
        refine b_iconst (pc := 50) C dX1_step_50 ic_1 ?_
        refine b_iload_n (pc := 51) C dX1_step_51 rfl 4 rfl ?_
        refine b_ishl (pc := 52) C dX1_step_52 ?_
        refine b_ior (pc := 53) C dX1_step_53 ?_
        obtain ⟨x2_13, e14, hF⟩ := blet_e hF
        refine b_istore_n (L' := [(2, .int x2_13), (4, .int v5), (0, .ref 66), (1, .ref x1), (3, .int x3)]) (pc := 54) C dX1_step_54 rfl e14 (Hh.2.1 _ (Nat.le_of_ble_eq_true rfl)) rfl ?_
        obtain ⟨x3_15, e16, hF⟩ := blet_e hF
        refine b_iinc (L' := [(3, .int x3_15), (2, .int x2_13), (4, .int v5), (0, .ref 66), (1, .ref x1)]) (pc := 55) C dX1_step_55 4 rfl ic_1 e16 (Hh.2.1 _ (Nat.le_of_ble_eq_true rfl)) rfl ?_
        refine b_goto (tgt := 9) (pc := 58) C dX1_step_58 rfl ?_
        exact b_sub [3, 4, 1, 0] rfl (ih _ hx1 x2_13 x3_15 _ _ hF hx)
set_option maxHeartbeats 4000000 in
set_option maxRecDepth 20000 in
theorem e_X1_step_0 {X : bX} {l : Launch} {G : bG} {ρ : Nat → Nat} {A : Nat → Prop} {d : Nat} {r : Int32} {σ' : bSto} (C : bCX X cX1_step RX1 (d + 2)) (Hh : bH X l G bSHf ρ A 5) (Rt : bRX X (some .int) (some (.int r)) σ') (x1 : Nat) (hx1 : kF x1) (σ : bSto) (hF : f_X1_step x1 σ = some (r, σ')) : bAJ X 0 [(0, .ref 66), (1, .ref x1)] [] σ := by
  rw [f_X1_step] at hF
  refine b_aload_n (pc := 0) C dX1_step_0 rfl 0 rfl ?_
  refine b_aload_n (pc := 1) C dX1_step_1 rfl 1 rfl ?_
  obtain ⟨σ2, hc1, hF⟩ := bbv_e hF
  refine b_cV1v (d' := (d + 1)) (pc := 2) C dX1_step_2 mm_X1_48 (Hh.1 _ _ sh_66) rfl (Nat.le_of_ble_eq_true rfl) (by omega) (Hh.2.2 _ _ _ _ _ _ _ _ _ (lvl_eq (by omega) (e_X1_pull (d + 0) _ hx1 _ _ hc1))) ?_
  refine b_iconst (pc := 5) C dX1_step_5 ic_0 ?_
  refine b_istore_n (L' := [(2, .int (0 : Int32)), (0, .ref 66), (1, .ref x1)]) (pc := 6) C dX1_step_6 rfl rfl (Hh.2.1 _ (Nat.le_of_ble_eq_true rfl)) rfl ?_
  refine b_iconst (pc := 7) C dX1_step_7 ic_0 ?_
  refine b_istore_n (L' := [(3, .int (0 : Int32)), (2, .int (0 : Int32)), (0, .ref 66), (1, .ref x1)]) (pc := 8) C dX1_step_8 rfl rfl (Hh.2.1 _ (Nat.le_of_ble_eq_true rfl)) rfl ?_
  obtain ⟨x2_3, σ4, hq3, hF⟩ := bl1_e hF
  refine b_sub [2, 3, 1, 0] rfl (e_X1_step_L9 C Hh Rt bFU _ hx1 (0 : Int32) (0 : Int32) _ _ hq3 (fun _ _ e  => ?_))
  cases e
  refine b_iload_n (pc := 61) C dX1_step_61 rfl 0 rfl ?_
  exact b_iret (pc := 62) C Rt dX1_step_62 hF
set_option maxHeartbeats 4000000 in
set_option maxRecDepth 20000 in
theorem e_X1_step {l : Launch} {G : bG} {ρ : Nat → Nat} {A : Nat → Prop} (d : Nat) (x1 : Nat) (hx1 : kF x1) (σ : bSto) (r : Int32) (σ' : bSto) (hF : f_X1_step x1 σ = some (r, σ')) : bEv l G bSHf ρ A yX1_step cX1_step 5 (some .int) (d + 2) [.ref 66, .ref x1] σ (some (.int r)) σ' := b_met (d := d + 2) (by decide +kernel) (Nat.le_of_ble_eq_true rfl) rfl (fun X C Rt h1 h2 h3 => e_X1_step_0 C ⟨fun o q h => by rw [h1]; exact h, fun i h => by rw [h2]; exact h, h3⟩ Rt _ hx1 _ hF)
/-! BenchColony$Creed.go -/
def f_X1_go_L2 : Nat → Nat → Int32 → Int32 → bSto → Option ((Unit × bSto) ⊕ (bSto))
  | 0, _, _, _, _ => none
  | n + 1, x1, x2, x3, σ => (if x2 ≤ x3 then some (.inr σ) else bbd (f_X1_step x1 σ) (fun v4 σ3 => (if v4 = 0 then some (.inl ((), σ3)) else blet (x3 + (1 : Int32)) (fun x3_6 => f_X1_go_L2 n x1 x2 x3_6 σ3))))
def f_X1_go (x1 : Nat) (x2 : Int32) (σ : bSto) : Option bSto := br0 (f_X1_go_L2 bFU x1 x2 (0 : Int32) σ) (fun v s => some s) (fun σ2 => some σ2)
set_option maxHeartbeats 4000000 in
set_option maxRecDepth 20000 in
theorem e_X1_go_L2 {X : bX} {l : Launch} {G : bG} {ρ : Nat → Nat} {A : Nat → Prop} {d : Nat} {σ' : bSto} (C : bCX X cX1_go RX1 (d + 3)) (Hh : bH X l G bSHf ρ A 4) (Rt : bRX X none none σ') : ∀ (n : Nat) (x1 : Nat) (hx1 : kF x1) (x2 : Int32) (x3 : Int32) (σ : bSto) (q : ((Unit × bSto) ⊕ (bSto))), f_X1_go_L2 n x1 x2 x3 σ = some q → (∀ (v : Unit) (s : bSto), q = .inl (v, s) → some s = some σ') → (∀  (s : bSto), q = .inr s → bAJ X 22 [] [] s) → bAJ X 2 [(0, .ref 66), (1, .ref x1), (2, .int x2), (3, .int x3)] [] σ := by
  intro n
  induction n with
  | zero => intro x1 hx1 x2 x3 σ q hF; rw [f_X1_go_L2] at hF; cases hF
  | succ n ih =>
    intro x1 hx1 x2 x3 σ q hF hr hx
    rw [f_X1_go_L2] at hF
    refine b_iload_n (pc := 2) C dX1_go_2 rfl 3 rfl ?_
    refine b_iload_n (pc := 3) C dX1_go_3 rfl 2 rfl ?_
    refine b_icmp_ge (tgt := 22) (pc := 4) C dX1_go_4 rfl (fun hc1 => ?_) (fun hc1 => ?_)
    · rw [if_pos hc1] at hF
      exact b_sub [] rfl (hx  _ (Option.some.inj hF).symm )
    · rw [if_neg hc1] at hF
      refine b_aload_n (pc := 7) C dX1_go_7 rfl 0 rfl ?_
      refine b_aload_n (pc := 8) C dX1_go_8 rfl 1 rfl ?_
      obtain ⟨v4, σ3, hc2, hF⟩ := bbd_e hF
      refine b_cV1i (d' := (d + 2)) (pc := 9) C dX1_go_9 mm_X1_62 (Hh.1 _ _ sh_66) rfl (Nat.le_of_ble_eq_true rfl) (by omega) (Hh.2.2 _ _ _ _ _ _ _ _ _ (lvl_eq (by omega) (e_X1_step (d + 0) _ hx1 _ _ _ hc2))) ?_
      refine b_if_ne (tgt := 16) (pc := 12) C dX1_go_12 rfl (fun hc5 => ?_) (fun hc5 => ?_)
      · rw [if_neg hc5] at hF
        obtain ⟨x3_6, e7, hF⟩ := blet_e hF
        refine b_iinc (L' := [(3, .int x3_6), (0, .ref 66), (1, .ref x1), (2, .int x2)]) (pc := 16) C dX1_go_16 3 rfl ic_1 e7 (Hh.2.1 _ (Nat.le_of_ble_eq_true rfl)) rfl ?_
        refine b_goto (tgt := 2) (pc := 19) C dX1_go_19 rfl ?_
        exact b_sub [1, 2, 3, 0] rfl (ih _ hx1 x2 x3_6 _ _ hF hr hx)
      · rw [if_pos hc5] at hF
        exact b_vret (pc := 15) C Rt dX1_go_15 (hr _ _ (Option.some.inj hF).symm)
set_option maxHeartbeats 4000000 in
set_option maxRecDepth 20000 in
theorem e_X1_go_0 {X : bX} {l : Launch} {G : bG} {ρ : Nat → Nat} {A : Nat → Prop} {d : Nat} {σ' : bSto} (C : bCX X cX1_go RX1 (d + 3)) (Hh : bH X l G bSHf ρ A 4) (Rt : bRX X none none σ') (x1 : Nat) (hx1 : kF x1) (x2 : Int32) (σ : bSto) (hF : f_X1_go x1 x2 σ = some σ') : bAJ X 0 [(0, .ref 66), (1, .ref x1), (2, .int x2)] [] σ := by
  rw [f_X1_go] at hF
  refine b_iconst (pc := 0) C dX1_go_0 ic_0 ?_
  refine b_istore_n (L' := [(3, .int (0 : Int32)), (0, .ref 66), (1, .ref x1), (2, .int x2)]) (pc := 1) C dX1_go_1 rfl rfl (Hh.2.1 _ (Nat.le_of_ble_eq_true rfl)) rfl ?_
  rcases br0_e hF with ⟨v, s, hq1, hF⟩ | ⟨σ2, hq1, hF⟩
  · exact b_sub [1, 2, 3, 0] rfl (e_X1_go_L2 C Hh Rt bFU _ hx1 x2 (0 : Int32) _ _ hq1 (fun v s e => by cases e; exact hF) (fun  _ e => by cases e))
  · refine b_sub [1, 2, 3, 0] rfl (e_X1_go_L2 C Hh Rt bFU _ hx1 x2 (0 : Int32) _ _ hq1 (fun v s e => by cases e) (fun  _ e  => ?_))
    cases e
    exact b_vret (pc := 22) C Rt dX1_go_22 hF
set_option maxHeartbeats 4000000 in
set_option maxRecDepth 20000 in
theorem e_X1_go {l : Launch} {G : bG} {ρ : Nat → Nat} {A : Nat → Prop} (d : Nat) (x1 : Nat) (hx1 : kF x1) (x2 : Int32) (σ : bSto) (σ' : bSto) (hF : f_X1_go x1 x2 σ = some σ') : bEv l G bSHf ρ A yX1_go cX1_go 4 none (d + 3) [.ref 66, .ref x1, .int x2] σ none σ' := b_met (d := d + 3) (by decide +kernel) (Nat.le_of_ble_eq_true rfl) rfl (fun X C Rt h1 h2 h3 => e_X1_go_0 C ⟨fun o q h => by rw [h1]; exact h, fun i h => by rw [h2]; exact h, h3⟩ Rt _ hx1 _ _ hF)
/-! BenchColony$Creed.believing -/
def f_X1_believing_L4 : Nat → Nat → Int32 → Int32 → bSto → Option (Int32 × bSto)
  | 0, _, _, _, _ => none
  | n + 1, x1, x2, x3, σ => (if (σ.1 x1 7) ≤ x3 then some (x2, σ) else if x3 < 0 ∨ 7 ≤ x3.toNatClampNeg then none else (if (σ.1 67 x3.toNatClampNeg) = (1 : Int32) then blet (x2 ||| ((1 : Int32) <<< (x3 &&& 31))) (fun x2_6 => blet (x3 + (1 : Int32)) (fun x3_8 => f_X1_believing_L4 n x1 x2_6 x3_8 σ)) else blet (x3 + (1 : Int32)) (fun x3_4 => f_X1_believing_L4 n x1 x2 x3_4 σ)))
def f_X1_believing (x1 : Nat) (σ : bSto) : Option (Int32 × bSto) := bl1 (f_X1_believing_L4 bFU x1 (0 : Int32) (0 : Int32) σ) (fun x2_1 σ2 => some (x2_1, σ2))
set_option maxHeartbeats 4000000 in
set_option maxRecDepth 20000 in
theorem e_X1_believing_L4 {X : bX} {l : Launch} {G : bG} {ρ : Nat → Nat} {A : Nat → Prop} {d : Nat} {r : Int32} {σ' : bSto} (C : bCX X cX1_believing RX1 (d + 0)) (Hh : bH X l G bSHf ρ A 4) (Rt : bRX X (some .int) (some (.int r)) σ') : ∀ (n : Nat) (x1 : Nat) (hx1 : kF x1) (x2 : Int32) (x3 : Int32) (σ : bSto) (q : (Int32 × bSto)), f_X1_believing_L4 n x1 x2 x3 σ = some q → (∀ (x2 : Int32) (s : bSto), q = (x2, s) → bAJ X 34 [(2, .int x2)] [] s) → bAJ X 4 [(0, .ref 66), (1, .ref x1), (2, .int x2), (3, .int x3)] [] σ := by
  intro n
  induction n with
  | zero => intro x1 hx1 x2 x3 σ q hF; rw [f_X1_believing_L4] at hF; cases hF
  | succ n ih =>
    intro x1 hx1 x2 x3 σ q hF hx
    rw [f_X1_believing_L4] at hF
    refine b_iload_n (pc := 4) C dX1_believing_4 rfl 3 rfl ?_
    refine b_aload_n (pc := 5) C dX1_believing_5 rfl 1 rfl ?_
    refine b_getI (pc := 6) C dX1_believing_6 fl_X1_52 (Hh.1 _ _ (shF hx1)) rfl ?_
    refine b_icmp_ge (tgt := 34) (pc := 9) C dX1_believing_9 rfl (fun hc1 => ?_) (fun hc1 => ?_)
    · rw [if_pos hc1] at hF
      exact b_sub [2] rfl (hx _ _ (Option.some.inj hF).symm )
    · rw [if_neg hc1] at hF
      refine b_aload_n (pc := 12) C dX1_believing_12 rfl 0 rfl ?_
      refine b_getS (pc := 13) C dX1_believing_13 fl_X1_9 (Hh.1 _ _ sh_66) rfl ?_
      refine b_iload_n (pc := 16) C dX1_believing_16 rfl 3 rfl ?_
      obtain ⟨hb2, hF⟩ := bif_n hF
      refine b_iald (pc := 17) C dX1_believing_17 (Hh.1 _ _ sh_67) hb2 ?_
      refine b_iconst (pc := 18) C dX1_believing_18 ic_1 ?_
      refine b_icmp_ne (tgt := 28) (pc := 19) C dX1_believing_19 rfl (fun hc3 => ?_) (fun hc3 => ?_)
      · rw [if_neg hc3] at hF
        obtain ⟨x3_4, e5, hF⟩ := blet_e hF
        refine b_iinc (L' := [(3, .int x3_4), (0, .ref 66), (1, .ref x1), (2, .int x2)]) (pc := 28) C dX1_believing_28 3 rfl ic_1 e5 (Hh.2.1 _ (Nat.le_of_ble_eq_true rfl)) rfl ?_
        refine b_goto (tgt := 4) (pc := 31) C dX1_believing_31 rfl ?_
        exact b_sub [1, 2, 3, 0] rfl (ih _ hx1 x2 x3_4 _ _ hF hx)
      · rw [if_pos hc3] at hF
        refine b_iload_n (pc := 22) C dX1_believing_22 rfl 2 rfl ?_
        refine b_iconst (pc := 23) C dX1_believing_23 ic_1 ?_
        refine b_iload_n (pc := 24) C dX1_believing_24 rfl 3 rfl ?_
        refine b_ishl (pc := 25) C dX1_believing_25 ?_
        refine b_ior (pc := 26) C dX1_believing_26 ?_
        obtain ⟨x2_6, e7, hF⟩ := blet_e hF
        refine b_istore_n (L' := [(2, .int x2_6), (0, .ref 66), (1, .ref x1), (3, .int x3)]) (pc := 27) C dX1_believing_27 rfl e7 (Hh.2.1 _ (Nat.le_of_ble_eq_true rfl)) rfl ?_
        obtain ⟨x3_8, e9, hF⟩ := blet_e hF
        refine b_iinc (L' := [(3, .int x3_8), (2, .int x2_6), (0, .ref 66), (1, .ref x1)]) (pc := 28) C dX1_believing_28 3 rfl ic_1 e9 (Hh.2.1 _ (Nat.le_of_ble_eq_true rfl)) rfl ?_
        refine b_goto (tgt := 4) (pc := 31) C dX1_believing_31 rfl ?_
        exact b_sub [2, 3, 1, 0] rfl (ih _ hx1 x2_6 x3_8 _ _ hF hx)
set_option maxHeartbeats 4000000 in
set_option maxRecDepth 20000 in
theorem e_X1_believing_0 {X : bX} {l : Launch} {G : bG} {ρ : Nat → Nat} {A : Nat → Prop} {d : Nat} {r : Int32} {σ' : bSto} (C : bCX X cX1_believing RX1 (d + 0)) (Hh : bH X l G bSHf ρ A 4) (Rt : bRX X (some .int) (some (.int r)) σ') (x1 : Nat) (hx1 : kF x1) (σ : bSto) (hF : f_X1_believing x1 σ = some (r, σ')) : bAJ X 0 [(0, .ref 66), (1, .ref x1)] [] σ := by
  rw [f_X1_believing] at hF
  refine b_iconst (pc := 0) C dX1_believing_0 ic_0 ?_
  refine b_istore_n (L' := [(2, .int (0 : Int32)), (0, .ref 66), (1, .ref x1)]) (pc := 1) C dX1_believing_1 rfl rfl (Hh.2.1 _ (Nat.le_of_ble_eq_true rfl)) rfl ?_
  refine b_iconst (pc := 2) C dX1_believing_2 ic_0 ?_
  refine b_istore_n (L' := [(3, .int (0 : Int32)), (2, .int (0 : Int32)), (0, .ref 66), (1, .ref x1)]) (pc := 3) C dX1_believing_3 rfl rfl (Hh.2.1 _ (Nat.le_of_ble_eq_true rfl)) rfl ?_
  obtain ⟨x2_1, σ2, hq1, hF⟩ := bl1_e hF
  refine b_sub [2, 3, 1, 0] rfl (e_X1_believing_L4 C Hh Rt bFU _ hx1 (0 : Int32) (0 : Int32) _ _ hq1 (fun _ _ e  => ?_))
  cases e
  refine b_iload_n (pc := 34) C dX1_believing_34 rfl 0 rfl ?_
  exact b_iret (pc := 35) C Rt dX1_believing_35 hF
set_option maxHeartbeats 4000000 in
set_option maxRecDepth 20000 in
theorem e_X1_believing {l : Launch} {G : bG} {ρ : Nat → Nat} {A : Nat → Prop} (d : Nat) (x1 : Nat) (hx1 : kF x1) (σ : bSto) (r : Int32) (σ' : bSto) (hF : f_X1_believing x1 σ = some (r, σ')) : bEv l G bSHf ρ A yX1_believing cX1_believing 4 (some .int) (d + 0) [.ref 66, .ref x1] σ (some (.int r)) σ' := b_met (d := d + 0) (by decide +kernel) (Nat.le_of_ble_eq_true rfl) rfl (fun X C Rt h1 h2 h3 => e_X1_believing_0 C ⟨fun o q h => by rw [h1]; exact h, fun i h => by rw [h2]; exact h, h3⟩ Rt _ hx1 _ hF)
/-! BenchColony$Creed.roundsToRest -/
def f_X1_roundsToRest_L2 : Nat → Nat → Int32 → bSto → Option ((Int32 × bSto) ⊕ (bSto))
  | 0, _, _, _ => none
  | n + 1, x1, x2, σ => (if (20 : Int32) < x2 then some (.inr σ) else bbd (f_X1_step x1 σ) (fun v4 σ3 => (if v4 = 0 then some (.inl (x2, σ3)) else blet (x2 + (1 : Int32)) (fun x2_6 => f_X1_roundsToRest_L2 n x1 x2_6 σ3))))
def f_X1_roundsToRest (x1 : Nat) (σ : bSto) : Option (Int32 × bSto) := br0 (f_X1_roundsToRest_L2 bFU x1 (0 : Int32) σ) (fun v s => some (v, s)) (fun σ2 => some ((-2 : Int32), σ2))
set_option maxHeartbeats 4000000 in
set_option maxRecDepth 20000 in
theorem e_X1_roundsToRest_L2 {X : bX} {l : Launch} {G : bG} {ρ : Nat → Nat} {A : Nat → Prop} {d : Nat} {r : Int32} {σ' : bSto} (C : bCX X cX1_roundsToRest RX1 (d + 3)) (Hh : bH X l G bSHf ρ A 3) (Rt : bRX X (some .int) (some (.int r)) σ') : ∀ (n : Nat) (x1 : Nat) (hx1 : kF x1) (x2 : Int32) (σ : bSto) (q : ((Int32 × bSto) ⊕ (bSto))), f_X1_roundsToRest_L2 n x1 x2 σ = some q → (∀ (v : Int32) (s : bSto), q = .inl (v, s) → some (v, s) = some (r, σ')) → (∀  (s : bSto), q = .inr s → bAJ X 24 [] [] s) → bAJ X 2 [(0, .ref 66), (1, .ref x1), (2, .int x2)] [] σ := by
  intro n
  induction n with
  | zero => intro x1 hx1 x2 σ q hF; rw [f_X1_roundsToRest_L2] at hF; cases hF
  | succ n ih =>
    intro x1 hx1 x2 σ q hF hr hx
    rw [f_X1_roundsToRest_L2] at hF
    refine b_iload_n (pc := 2) C dX1_roundsToRest_2 rfl 2 rfl ?_
    refine b_bipush (pc := 3) C dX1_roundsToRest_3 bp_20 ?_
    refine b_icmp_gt (tgt := 24) (pc := 5) C dX1_roundsToRest_5 rfl (fun hc1 => ?_) (fun hc1 => ?_)
    · rw [if_pos hc1] at hF
      exact b_sub [] rfl (hx  _ (Option.some.inj hF).symm )
    · rw [if_neg hc1] at hF
      refine b_aload_n (pc := 8) C dX1_roundsToRest_8 rfl 0 rfl ?_
      refine b_aload_n (pc := 9) C dX1_roundsToRest_9 rfl 1 rfl ?_
      obtain ⟨v4, σ3, hc2, hF⟩ := bbd_e hF
      refine b_cV1i (d' := (d + 2)) (pc := 10) C dX1_roundsToRest_10 mm_X1_62 (Hh.1 _ _ sh_66) rfl (Nat.le_of_ble_eq_true rfl) (by omega) (Hh.2.2 _ _ _ _ _ _ _ _ _ (lvl_eq (by omega) (e_X1_step (d + 0) _ hx1 _ _ _ hc2))) ?_
      refine b_if_ne (tgt := 18) (pc := 13) C dX1_roundsToRest_13 rfl (fun hc5 => ?_) (fun hc5 => ?_)
      · rw [if_neg hc5] at hF
        obtain ⟨x2_6, e7, hF⟩ := blet_e hF
        refine b_iinc (L' := [(2, .int x2_6), (0, .ref 66), (1, .ref x1)]) (pc := 18) C dX1_roundsToRest_18 2 rfl ic_1 e7 (Hh.2.1 _ (Nat.le_of_ble_eq_true rfl)) rfl ?_
        refine b_goto (tgt := 2) (pc := 21) C dX1_roundsToRest_21 rfl ?_
        exact b_sub [1, 2, 0] rfl (ih _ hx1 x2_6 _ _ hF hr hx)
      · rw [if_pos hc5] at hF
        refine b_iload_n (pc := 16) C dX1_roundsToRest_16 rfl 2 rfl ?_
        exact b_iret (pc := 17) C Rt dX1_roundsToRest_17 (hr _ _ (Option.some.inj hF).symm)
set_option maxHeartbeats 4000000 in
set_option maxRecDepth 20000 in
theorem e_X1_roundsToRest_0 {X : bX} {l : Launch} {G : bG} {ρ : Nat → Nat} {A : Nat → Prop} {d : Nat} {r : Int32} {σ' : bSto} (C : bCX X cX1_roundsToRest RX1 (d + 3)) (Hh : bH X l G bSHf ρ A 3) (Rt : bRX X (some .int) (some (.int r)) σ') (x1 : Nat) (hx1 : kF x1) (σ : bSto) (hF : f_X1_roundsToRest x1 σ = some (r, σ')) : bAJ X 0 [(0, .ref 66), (1, .ref x1)] [] σ := by
  rw [f_X1_roundsToRest] at hF
  refine b_iconst (pc := 0) C dX1_roundsToRest_0 ic_0 ?_
  refine b_istore_n (L' := [(2, .int (0 : Int32)), (0, .ref 66), (1, .ref x1)]) (pc := 1) C dX1_roundsToRest_1 rfl rfl (Hh.2.1 _ (Nat.le_of_ble_eq_true rfl)) rfl ?_
  rcases br0_e hF with ⟨v, s, hq1, hF⟩ | ⟨σ2, hq1, hF⟩
  · exact b_sub [1, 2, 0] rfl (e_X1_roundsToRest_L2 C Hh Rt bFU _ hx1 (0 : Int32) _ _ hq1 (fun v s e => by cases e; exact hF) (fun  _ e => by cases e))
  · refine b_sub [1, 2, 0] rfl (e_X1_roundsToRest_L2 C Hh Rt bFU _ hx1 (0 : Int32) _ _ hq1 (fun v s e => by cases e) (fun  _ e  => ?_))
    cases e
    refine b_bipush (pc := 24) C dX1_roundsToRest_24 bp_m2 ?_
    exact b_iret (pc := 26) C Rt dX1_roundsToRest_26 hF
set_option maxHeartbeats 4000000 in
set_option maxRecDepth 20000 in
theorem e_X1_roundsToRest {l : Launch} {G : bG} {ρ : Nat → Nat} {A : Nat → Prop} (d : Nat) (x1 : Nat) (hx1 : kF x1) (σ : bSto) (r : Int32) (σ' : bSto) (hF : f_X1_roundsToRest x1 σ = some (r, σ')) : bEv l G bSHf ρ A yX1_roundsToRest cX1_roundsToRest 3 (some .int) (d + 3) [.ref 66, .ref x1] σ (some (.int r)) σ' := b_met (d := d + 3) (by decide +kernel) (Nat.le_of_ble_eq_true rfl) rfl (fun X C Rt h1 h2 h3 => e_X1_roundsToRest_0 C ⟨fun o q h => by rw [h1]; exact h, fun i h => by rw [h2]; exact h, h3⟩ Rt _ hx1 _ hF)
/-! BenchColony$Creed.believingIfWon -/
def f_X1_believingIfWon_L8 : Nat → Nat → Int32 → Int32 → bSto → Option (Nat × bSto)
  | 0, _, _, _, _ => none
  | n + 1, x1, x3, x4, σ => (if (σ.1 x1 7) ≤ x4 then some (x1, σ) else (if ((x3 >>> (x4 &&& 31)) &&& (1 : Int32)) = (1 : Int32) then if x4 < 0 ∨ 7 ≤ x4.toNatClampNeg then none else blet (bI σ 67 x4.toNatClampNeg (1 : Int32)) (fun σ5 => blet (x4 + (1 : Int32)) (fun x4_8 => f_X1_believingIfWon_L8 n x1 x3 x4_8 σ5)) else blet (x4 + (1 : Int32)) (fun x4_3 => f_X1_believingIfWon_L8 n x1 x3 x4_3 σ)))
def f_X1_believingIfWon (x1 : Nat) (x2 : Nat) (x3 : Int32) (σ : bSto) : Option (Int32 × bSto) := bbv (f_X1_begin x2 σ) (fun σ2 => bl1 (f_X1_believingIfWon_L8 bFU x1 x3 (0 : Int32) σ2) (fun x1_3 σ4 => bbv (f_X1_go x1_3 (20 : Int32) σ4) (fun σ6 => bbd (f_X1_believing x1_3 σ6) (fun v9 σ8 => some (v9, σ8)))))
set_option maxHeartbeats 4000000 in
set_option maxRecDepth 20000 in
theorem e_X1_believingIfWon_L8 {X : bX} {l : Launch} {G : bG} {ρ : Nat → Nat} {A : Nat → Prop} {d : Nat} {r : Int32} {σ' : bSto} (C : bCX X cX1_believingIfWon RX1 (d + 4)) (Hh : bH X l G bSHf ρ A 5) (Rt : bRX X (some .int) (some (.int r)) σ') : ∀ (n : Nat) (x1 : Nat) (hx1 : kF x1) (x3 : Int32) (x4 : Int32) (σ : bSto) (q : (Nat × bSto)), f_X1_believingIfWon_L8 n x1 x3 x4 σ = some q → (∀ (x1 : Nat) (s : bSto), q = (x1, s) → kF x1 → bAJ X 41 [(0, .ref 66), (1, .ref x1)] [] s) → bAJ X 8 [(0, .ref 66), (1, .ref x1), (3, .int x3), (4, .int x4)] [] σ := by
  intro n
  induction n with
  | zero => intro x1 hx1 x3 x4 σ q hF; rw [f_X1_believingIfWon_L8] at hF; cases hF
  | succ n ih =>
    intro x1 hx1 x3 x4 σ q hF hx
    rw [f_X1_believingIfWon_L8] at hF
    refine b_iload (pc := 8) C dX1_believingIfWon_8 3 rfl ?_
    refine b_aload_n (pc := 10) C dX1_believingIfWon_10 rfl 1 rfl ?_
    refine b_getI (pc := 11) C dX1_believingIfWon_11 fl_X1_52 (Hh.1 _ _ (shF hx1)) rfl ?_
    refine b_icmp_ge (tgt := 41) (pc := 14) C dX1_believingIfWon_14 rfl (fun hc1 => ?_) (fun hc1 => ?_)
    · rw [if_pos hc1] at hF
      exact b_sub [0, 1] rfl (hx _ _ (Option.some.inj hF).symm hx1)
    · rw [if_neg hc1] at hF
      refine b_iload_n (pc := 17) C dX1_believingIfWon_17 rfl 2 rfl ?_
      refine b_iload (pc := 18) C dX1_believingIfWon_18 3 rfl ?_
      refine b_ishr (pc := 20) C dX1_believingIfWon_20 ?_
      refine b_iconst (pc := 21) C dX1_believingIfWon_21 ic_1 ?_
      refine b_iand (pc := 22) C dX1_believingIfWon_22 ?_
      refine b_iconst (pc := 23) C dX1_believingIfWon_23 ic_1 ?_
      refine b_icmp_ne (tgt := 35) (pc := 24) C dX1_believingIfWon_24 rfl (fun hc2 => ?_) (fun hc2 => ?_)
      · rw [if_neg hc2] at hF
        obtain ⟨x4_3, e4, hF⟩ := blet_e hF
        refine b_iinc (L' := [(4, .int x4_3), (0, .ref 66), (1, .ref x1), (3, .int x3)]) (pc := 35) C dX1_believingIfWon_35 3 rfl ic_1 e4 (Hh.2.1 _ (Nat.le_of_ble_eq_true rfl)) rfl ?_
        refine b_goto (tgt := 8) (pc := 38) C dX1_believingIfWon_38 rfl ?_
        exact b_sub [1, 2, 3, 0] rfl (ih _ hx1 x3 x4_3 _ _ hF hx)
      · rw [if_pos hc2] at hF
        refine b_aload_n (pc := 27) C dX1_believingIfWon_27 rfl 0 rfl ?_
        refine b_getS (pc := 28) C dX1_believingIfWon_28 fl_X1_9 (Hh.1 _ _ sh_66) rfl ?_
        refine b_iload (pc := 31) C dX1_believingIfWon_31 3 rfl ?_
        refine b_iconst (pc := 33) C dX1_believingIfWon_33 ic_1 ?_
        obtain ⟨hb7, hF⟩ := bif_n hF
        obtain ⟨σ5, e6, hF⟩ := blet_e hF
        refine b_iast (pc := 34) C dX1_believingIfWon_34 (Hh.1 _ _ sh_67) hb7 e6 ?_
        obtain ⟨x4_8, e9, hF⟩ := blet_e hF
        refine b_iinc (L' := [(4, .int x4_8), (0, .ref 66), (1, .ref x1), (3, .int x3)]) (pc := 35) C dX1_believingIfWon_35 3 rfl ic_1 e9 (Hh.2.1 _ (Nat.le_of_ble_eq_true rfl)) rfl ?_
        refine b_goto (tgt := 8) (pc := 38) C dX1_believingIfWon_38 rfl ?_
        exact b_sub [1, 2, 3, 0] rfl (ih _ hx1 x3 x4_8 _ _ hF hx)
set_option maxHeartbeats 4000000 in
set_option maxRecDepth 20000 in
theorem e_X1_believingIfWon_0 {X : bX} {l : Launch} {G : bG} {ρ : Nat → Nat} {A : Nat → Prop} {d : Nat} {r : Int32} {σ' : bSto} (C : bCX X cX1_believingIfWon RX1 (d + 4)) (Hh : bH X l G bSHf ρ A 5) (Rt : bRX X (some .int) (some (.int r)) σ') (x1 : Nat) (hx1 : kF x1) (x2 : Nat) (hx2 : kN x2) (x3 : Int32) (σ : bSto) (hF : f_X1_believingIfWon x1 x2 x3 σ = some (r, σ')) : bAJ X 0 [(0, .ref 66), (1, .ref x1), (2, .ref x2), (3, .int x3)] [] σ := by
  rw [f_X1_believingIfWon] at hF
  refine b_aload_n (pc := 0) C dX1_believingIfWon_0 rfl 0 rfl ?_
  refine b_aload_n (pc := 1) C dX1_believingIfWon_1 rfl 2 rfl ?_
  obtain ⟨σ2, hc1, hF⟩ := bbv_e hF
  refine b_cV1v (d' := (d + 3)) (pc := 2) C dX1_believingIfWon_2 mm_X1_66 (Hh.1 _ _ sh_66) rfl (Nat.le_of_ble_eq_true rfl) (by omega) (Hh.2.2 _ _ _ _ _ _ _ _ _ (lvl_eq (by omega) (e_X1_begin (d + 3) _ hx2 _ _ hc1))) ?_
  refine b_iconst (pc := 5) C dX1_believingIfWon_5 ic_0 ?_
  refine b_istore (L' := [(4, .int (0 : Int32)), (0, .ref 66), (1, .ref x1), (2, .ref x2), (3, .int x3)]) (pc := 6) C dX1_believingIfWon_6 rfl (Hh.2.1 _ (Nat.le_of_ble_eq_true rfl)) rfl ?_
  obtain ⟨x1_3, σ4, hq3, hF⟩ := bl1_e hF
  refine b_sub [1, 2, 4, 0] rfl (e_X1_believingIfWon_L8 C Hh Rt bFU _ hx1 x3 (0 : Int32) _ _ hq3 (fun _ _ e hx1_3 => ?_))
  cases e
  refine b_aload_n (pc := 41) C dX1_believingIfWon_41 rfl 0 rfl ?_
  refine b_aload_n (pc := 42) C dX1_believingIfWon_42 rfl 1 rfl ?_
  refine b_bipush (pc := 43) C dX1_believingIfWon_43 bp_20 ?_
  obtain ⟨σ6, hc5, hF⟩ := bbv_e hF
  refine b_cV2v (d' := (d + 3)) (pc := 45) C dX1_believingIfWon_45 mm_X1_70 (Hh.1 _ _ sh_66) rfl (Nat.le_of_ble_eq_true rfl) (by omega) (Hh.2.2 _ _ _ _ _ _ _ _ _ (lvl_eq (by omega) (e_X1_go (d + 0) _ hx1_3 (20 : Int32) _ _ hc5))) ?_
  refine b_aload_n (pc := 48) C dX1_believingIfWon_48 rfl 0 rfl ?_
  refine b_aload_n (pc := 49) C dX1_believingIfWon_49 rfl 1 rfl ?_
  obtain ⟨v9, σ8, hc7, hF⟩ := bbd_e hF
  refine b_cV1i (d' := (d + 3)) (pc := 50) C dX1_believingIfWon_50 mm_X1_74 (Hh.1 _ _ sh_66) rfl (Nat.le_of_ble_eq_true rfl) (by omega) (Hh.2.2 _ _ _ _ _ _ _ _ _ (lvl_eq (by omega) (e_X1_believing (d + 3) _ hx1_3 _ _ _ hc7))) ?_
  exact b_iret (pc := 53) C Rt dX1_believingIfWon_53 hF
set_option maxHeartbeats 4000000 in
set_option maxRecDepth 20000 in
theorem e_X1_believingIfWon {l : Launch} {G : bG} {ρ : Nat → Nat} {A : Nat → Prop} (d : Nat) (x1 : Nat) (hx1 : kF x1) (x2 : Nat) (hx2 : kN x2) (x3 : Int32) (σ : bSto) (r : Int32) (σ' : bSto) (hF : f_X1_believingIfWon x1 x2 x3 σ = some (r, σ')) : bEv l G bSHf ρ A yX1_believingIfWon cX1_believingIfWon 5 (some .int) (d + 4) [.ref 66, .ref x1, .ref x2, .int x3] σ (some (.int r)) σ' := b_met (d := d + 4) (by decide +kernel) (Nat.le_of_ble_eq_true rfl) rfl (fun X C Rt h1 h2 h3 => e_X1_believingIfWon_0 C ⟨fun o q h => by rw [h1]; exact h, fun i h => by rw [h2]; exact h, h3⟩ Rt _ hx1 _ hx2 _ _ hF)
/-! BenchColony$Creed.fewestToWin -/
def f_X1_fewestToWin_L16 : Nat → Nat → Nat → Int32 → Int32 → Int32 → Int32 → bSto → Option (Int32 × bSto)
  | 0, _, _, _, _, _, _, _ => none
  | n + 1, x1, x2, x3, x4, x5, x6, σ => (if x3 < x6 then some (x4, σ) else bbd (f_J6_bitCount_0f7a4 x6 σ) (fun v4 σ3 => (if x5 ≤ v4 then blet (x6 + (1 : Int32)) (fun x6_6 => f_X1_fewestToWin_L16 n x1 x2 x3 x4 x5 x6_6 σ3) else bbd (f_X1_believingIfWon x1 x2 x6 σ3) (fun v10 σ9 => (if v10 = x3 then bbd (f_J6_bitCount_0f7a4 x6 σ9) (fun v16 σ15 => blet (x6 + (1 : Int32)) (fun x6_17 => f_X1_fewestToWin_L16 n x1 x2 x3 x6 v16 x6_17 σ15)) else blet (x6 + (1 : Int32)) (fun x6_12 => f_X1_fewestToWin_L16 n x1 x2 x3 x4 x5 x6_12 σ9))))))
def f_X1_fewestToWin (x1 : Nat) (x2 : Nat) (σ : bSto) : Option (Int32 × bSto) := bbd (f_X2_everybody x1 σ) (fun v3 σ2 => bl1 (f_X1_fewestToWin_L16 bFU x1 x2 v3 (-2 : Int32) (8 : Int32) (0 : Int32) σ2) (fun x4_4 σ5 => some (x4_4, σ5)))
set_option maxHeartbeats 4000000 in
set_option maxRecDepth 20000 in
theorem e_X1_fewestToWin_L16 {X : bX} {l : Launch} {G : bG} {ρ : Nat → Nat} {A : Nat → Prop} {d : Nat} {r : Int32} {σ' : bSto} (C : bCX X cX1_fewestToWin RX1 (d + 5)) (Hh : bH X l G bSHf ρ A 7) (Rt : bRX X (some .int) (some (.int r)) σ') : ∀ (n : Nat) (x1 : Nat) (hx1 : kF x1) (x2 : Nat) (hx2 : kN x2) (x3 : Int32) (x4 : Int32) (x5 : Int32) (x6 : Int32) (σ : bSto) (q : (Int32 × bSto)), f_X1_fewestToWin_L16 n x1 x2 x3 x4 x5 x6 σ = some q → (∀ (x4 : Int32) (s : bSto), q = (x4, s) → bAJ X 61 [(4, .int x4)] [] s) → bAJ X 16 [(0, .ref 66), (1, .ref x1), (2, .ref x2), (3, .int x3), (4, .int x4), (5, .int x5), (6, .int x6)] [] σ := by
  intro n
  induction n with
  | zero => intro x1 hx1 x2 hx2 x3 x4 x5 x6 σ q hF; rw [f_X1_fewestToWin_L16] at hF; cases hF
  | succ n ih =>
    intro x1 hx1 x2 hx2 x3 x4 x5 x6 σ q hF hx
    rw [f_X1_fewestToWin_L16] at hF
    refine b_iload (pc := 16) C dX1_fewestToWin_16 6 rfl ?_
    refine b_iload_n (pc := 18) C dX1_fewestToWin_18 rfl 3 rfl ?_
    refine b_icmp_gt (tgt := 61) (pc := 19) C dX1_fewestToWin_19 rfl (fun hc1 => ?_) (fun hc1 => ?_)
    · rw [if_pos hc1] at hF
      exact b_sub [4] rfl (hx _ _ (Option.some.inj hF).symm )
    · rw [if_neg hc1] at hF
      refine b_iload (pc := 22) C dX1_fewestToWin_22 6 rfl ?_
      obtain ⟨v4, σ3, hc2, hF⟩ := bbd_e hF
      refine b_cS1i (d' := (d + 4)) (pc := 24) C dX1_fewestToWin_24 mm_X1_81 (Nat.le_of_ble_eq_true rfl) (by omega) (Hh.2.2 _ _ _ _ _ _ _ _ _ (lvl_eq (by omega) (e_J6_bitCount_0f7a4 (d + 4) x6 _ _ _ hc2))) ?_
      refine b_iload (pc := 27) C dX1_fewestToWin_27 5 rfl ?_
      refine b_icmp_ge (tgt := 55) (pc := 29) C dX1_fewestToWin_29 rfl (fun hc5 => ?_) (fun hc5 => ?_)
      · rw [if_pos hc5] at hF
        obtain ⟨x6_6, e7, hF⟩ := blet_e hF
        refine b_iinc (L' := [(6, .int x6_6), (0, .ref 66), (1, .ref x1), (2, .ref x2), (3, .int x3), (4, .int x4), (5, .int x5)]) (pc := 55) C dX1_fewestToWin_55 6 rfl ic_1 e7 (Hh.2.1 _ (Nat.le_of_ble_eq_true rfl)) rfl ?_
        refine b_goto (tgt := 16) (pc := 58) C dX1_fewestToWin_58 rfl ?_
        exact b_sub [1, 2, 3, 4, 5, 6, 0] rfl (ih _ hx1 _ hx2 x3 x4 x5 x6_6 _ _ hF hx)
      · rw [if_neg hc5] at hF
        refine b_aload_n (pc := 32) C dX1_fewestToWin_32 rfl 0 rfl ?_
        refine b_aload_n (pc := 33) C dX1_fewestToWin_33 rfl 1 rfl ?_
        refine b_aload_n (pc := 34) C dX1_fewestToWin_34 rfl 2 rfl ?_
        refine b_iload (pc := 35) C dX1_fewestToWin_35 6 rfl ?_
        obtain ⟨v10, σ9, hc8, hF⟩ := bbd_e hF
        refine b_cV3i (d' := (d + 4)) (pc := 37) C dX1_fewestToWin_37 mm_X1_87 (Hh.1 _ _ sh_66) rfl (Nat.le_of_ble_eq_true rfl) (by omega) (Hh.2.2 _ _ _ _ _ _ _ _ _ (lvl_eq (by omega) (e_X1_believingIfWon (d + 0) _ hx1 _ hx2 x6 _ _ _ hc8))) ?_
        refine b_iload_n (pc := 40) C dX1_fewestToWin_40 rfl 3 rfl ?_
        refine b_icmp_ne (tgt := 55) (pc := 41) C dX1_fewestToWin_41 rfl (fun hc11 => ?_) (fun hc11 => ?_)
        · rw [if_neg hc11] at hF
          obtain ⟨x6_12, e13, hF⟩ := blet_e hF
          refine b_iinc (L' := [(6, .int x6_12), (0, .ref 66), (1, .ref x1), (2, .ref x2), (3, .int x3), (4, .int x4), (5, .int x5)]) (pc := 55) C dX1_fewestToWin_55 6 rfl ic_1 e13 (Hh.2.1 _ (Nat.le_of_ble_eq_true rfl)) rfl ?_
          refine b_goto (tgt := 16) (pc := 58) C dX1_fewestToWin_58 rfl ?_
          exact b_sub [1, 2, 3, 4, 5, 6, 0] rfl (ih _ hx1 _ hx2 x3 x4 x5 x6_12 _ _ hF hx)
        · rw [if_pos hc11] at hF
          refine b_iload (pc := 44) C dX1_fewestToWin_44 6 rfl ?_
          refine b_istore (L' := [(4, .int x6), (0, .ref 66), (1, .ref x1), (2, .ref x2), (3, .int x3), (5, .int x5), (6, .int x6)]) (pc := 46) C dX1_fewestToWin_46 rfl (Hh.2.1 _ (Nat.le_of_ble_eq_true rfl)) rfl ?_
          refine b_iload (pc := 48) C dX1_fewestToWin_48 6 rfl ?_
          obtain ⟨v16, σ15, hc14, hF⟩ := bbd_e hF
          refine b_cS1i (d' := (d + 4)) (pc := 50) C dX1_fewestToWin_50 mm_X1_81 (Nat.le_of_ble_eq_true rfl) (by omega) (Hh.2.2 _ _ _ _ _ _ _ _ _ (lvl_eq (by omega) (e_J6_bitCount_0f7a4 (d + 4) x6 _ _ _ hc14))) ?_
          refine b_istore (L' := [(5, .int v16), (4, .int x6), (0, .ref 66), (1, .ref x1), (2, .ref x2), (3, .int x3), (6, .int x6)]) (pc := 53) C dX1_fewestToWin_53 rfl (Hh.2.1 _ (Nat.le_of_ble_eq_true rfl)) rfl ?_
          obtain ⟨x6_17, e18, hF⟩ := blet_e hF
          refine b_iinc (L' := [(6, .int x6_17), (5, .int v16), (4, .int x6), (0, .ref 66), (1, .ref x1), (2, .ref x2), (3, .int x3)]) (pc := 55) C dX1_fewestToWin_55 6 rfl ic_1 e18 (Hh.2.1 _ (Nat.le_of_ble_eq_true rfl)) rfl ?_
          refine b_goto (tgt := 16) (pc := 58) C dX1_fewestToWin_58 rfl ?_
          exact b_sub [3, 4, 5, 6, 2, 1, 0] rfl (ih _ hx1 _ hx2 x3 x6 v16 x6_17 _ _ hF hx)
set_option maxHeartbeats 4000000 in
set_option maxRecDepth 20000 in
theorem e_X1_fewestToWin_0 {X : bX} {l : Launch} {G : bG} {ρ : Nat → Nat} {A : Nat → Prop} {d : Nat} {r : Int32} {σ' : bSto} (C : bCX X cX1_fewestToWin RX1 (d + 5)) (Hh : bH X l G bSHf ρ A 7) (Rt : bRX X (some .int) (some (.int r)) σ') (x1 : Nat) (hx1 : kF x1) (x2 : Nat) (hx2 : kN x2) (σ : bSto) (hF : f_X1_fewestToWin x1 x2 σ = some (r, σ')) : bAJ X 0 [(0, .ref 66), (1, .ref x1), (2, .ref x2)] [] σ := by
  rw [f_X1_fewestToWin] at hF
  refine b_aload_n (pc := 0) C dX1_fewestToWin_0 rfl 1 rfl ?_
  obtain ⟨v3, σ2, hc1, hF⟩ := bbd_e hF
  refine b_cV0i (d' := (d + 4)) (pc := 1) C dX1_fewestToWin_1 mm_X1_77 (Hh.1 _ _ (shF hx1)) rfl (Nat.le_of_ble_eq_true rfl) (by omega) (Hh.2.2 _ _ _ _ _ _ _ _ _ (lvl_eq (by omega) (e_X2_everybody (d + 4) _ hx1 _ _ _ hc1))) ?_
  refine b_istore_n (L' := [(3, .int v3), (0, .ref 66), (1, .ref x1), (2, .ref x2)]) (pc := 4) C dX1_fewestToWin_4 rfl rfl (Hh.2.1 _ (Nat.le_of_ble_eq_true rfl)) rfl ?_
  refine b_bipush (pc := 5) C dX1_fewestToWin_5 bp_m2 ?_
  refine b_istore (L' := [(4, .int (-2 : Int32)), (3, .int v3), (0, .ref 66), (1, .ref x1), (2, .ref x2)]) (pc := 7) C dX1_fewestToWin_7 rfl (Hh.2.1 _ (Nat.le_of_ble_eq_true rfl)) rfl ?_
  refine b_bipush (pc := 9) C dX1_fewestToWin_9 bp_8 ?_
  refine b_istore (L' := [(5, .int (8 : Int32)), (4, .int (-2 : Int32)), (3, .int v3), (0, .ref 66), (1, .ref x1), (2, .ref x2)]) (pc := 11) C dX1_fewestToWin_11 rfl (Hh.2.1 _ (Nat.le_of_ble_eq_true rfl)) rfl ?_
  refine b_iconst (pc := 13) C dX1_fewestToWin_13 ic_0 ?_
  refine b_istore (L' := [(6, .int (0 : Int32)), (5, .int (8 : Int32)), (4, .int (-2 : Int32)), (3, .int v3), (0, .ref 66), (1, .ref x1), (2, .ref x2)]) (pc := 14) C dX1_fewestToWin_14 rfl (Hh.2.1 _ (Nat.le_of_ble_eq_true rfl)) rfl ?_
  obtain ⟨x4_4, σ5, hq4, hF⟩ := bl1_e hF
  refine b_sub [4, 5, 6, 3, 2, 1, 0] rfl (e_X1_fewestToWin_L16 C Hh Rt bFU _ hx1 _ hx2 v3 (-2 : Int32) (8 : Int32) (0 : Int32) _ _ hq4 (fun _ _ e  => ?_))
  cases e
  refine b_iload (pc := 61) C dX1_fewestToWin_61 0 rfl ?_
  exact b_iret (pc := 63) C Rt dX1_fewestToWin_63 hF
set_option maxHeartbeats 4000000 in
set_option maxRecDepth 20000 in
theorem e_X1_fewestToWin {l : Launch} {G : bG} {ρ : Nat → Nat} {A : Nat → Prop} (d : Nat) (x1 : Nat) (hx1 : kF x1) (x2 : Nat) (hx2 : kN x2) (σ : bSto) (r : Int32) (σ' : bSto) (hF : f_X1_fewestToWin x1 x2 σ = some (r, σ')) : bEv l G bSHf ρ A yX1_fewestToWin cX1_fewestToWin 7 (some .int) (d + 5) [.ref 66, .ref x1, .ref x2] σ (some (.int r)) σ' := b_met (d := d + 5) (by decide +kernel) (Nat.le_of_ble_eq_true rfl) rfl (fun X C Rt h1 h2 h3 => e_X1_fewestToWin_0 C ⟨fun o q h => by rw [h1]; exact h, fun i h => by rw [h2]; exact h, h3⟩ Rt _ hx1 _ hx2 _ hF)
/-! BenchColony$Creed.bestPreacher -/
def f_X1_bestPreacher_L9 : Nat → Nat → Nat → Int32 → Int32 → Int32 → bSto → Option (Int32 × bSto)
  | 0, _, _, _, _, _, _ => none
  | n + 1, x1, x2, x3, x4, x5, σ => (if (σ.1 x1 7) ≤ x5 then some (x3, σ) else bbd (f_X1_believingIfWon x1 x2 ((1 : Int32) <<< (x5 &&& 31)) σ) (fun v4 σ3 => bbd (f_J6_bitCount_0f7a4 v4 σ3) (fun v7 σ6 => (if v7 ≤ x4 then blet (x5 + (1 : Int32)) (fun x5_9 => f_X1_bestPreacher_L9 n x1 x2 x3 x4 x5_9 σ6) else blet (x5 + (1 : Int32)) (fun x5_11 => f_X1_bestPreacher_L9 n x1 x2 x5 v7 x5_11 σ6)))))
def f_X1_bestPreacher (x1 : Nat) (x2 : Nat) (σ : bSto) : Option (Int32 × bSto) := bl1 (f_X1_bestPreacher_L9 bFU x1 x2 (-2 : Int32) (-1 : Int32) (0 : Int32) σ) (fun x3_1 σ2 => some (x3_1, σ2))
set_option maxHeartbeats 4000000 in
set_option maxRecDepth 20000 in
theorem e_X1_bestPreacher_L9 {X : bX} {l : Launch} {G : bG} {ρ : Nat → Nat} {A : Nat → Prop} {d : Nat} {r : Int32} {σ' : bSto} (C : bCX X cX1_bestPreacher RX1 (d + 5)) (Hh : bH X l G bSHf ρ A 7) (Rt : bRX X (some .int) (some (.int r)) σ') : ∀ (n : Nat) (x1 : Nat) (hx1 : kF x1) (x2 : Nat) (hx2 : kN x2) (x3 : Int32) (x4 : Int32) (x5 : Int32) (σ : bSto) (q : (Int32 × bSto)), f_X1_bestPreacher_L9 n x1 x2 x3 x4 x5 σ = some q → (∀ (x3 : Int32) (s : bSto), q = (x3, s) → bAJ X 53 [(3, .int x3)] [] s) → bAJ X 9 [(0, .ref 66), (1, .ref x1), (2, .ref x2), (3, .int x3), (4, .int x4), (5, .int x5)] [] σ := by
  intro n
  induction n with
  | zero => intro x1 hx1 x2 hx2 x3 x4 x5 σ q hF; rw [f_X1_bestPreacher_L9] at hF; cases hF
  | succ n ih =>
    intro x1 hx1 x2 hx2 x3 x4 x5 σ q hF hx
    rw [f_X1_bestPreacher_L9] at hF
    refine b_iload (pc := 9) C dX1_bestPreacher_9 5 rfl ?_
    refine b_aload_n (pc := 11) C dX1_bestPreacher_11 rfl 1 rfl ?_
    refine b_getI (pc := 12) C dX1_bestPreacher_12 fl_X1_52 (Hh.1 _ _ (shF hx1)) rfl ?_
    refine b_icmp_ge (tgt := 53) (pc := 15) C dX1_bestPreacher_15 rfl (fun hc1 => ?_) (fun hc1 => ?_)
    · rw [if_pos hc1] at hF
      exact b_sub [3] rfl (hx _ _ (Option.some.inj hF).symm )
    · rw [if_neg hc1] at hF
      refine b_aload_n (pc := 18) C dX1_bestPreacher_18 rfl 0 rfl ?_
      refine b_aload_n (pc := 19) C dX1_bestPreacher_19 rfl 1 rfl ?_
      refine b_aload_n (pc := 20) C dX1_bestPreacher_20 rfl 2 rfl ?_
      refine b_iconst (pc := 21) C dX1_bestPreacher_21 ic_1 ?_
      refine b_iload (pc := 22) C dX1_bestPreacher_22 5 rfl ?_
      refine b_ishl (pc := 24) C dX1_bestPreacher_24 ?_
      obtain ⟨v4, σ3, hc2, hF⟩ := bbd_e hF
      refine b_cV3i (d' := (d + 4)) (pc := 25) C dX1_bestPreacher_25 mm_X1_87 (Hh.1 _ _ sh_66) rfl (Nat.le_of_ble_eq_true rfl) (by omega) (Hh.2.2 _ _ _ _ _ _ _ _ _ (lvl_eq (by omega) (e_X1_believingIfWon (d + 0) _ hx1 _ hx2 ((1 : Int32) <<< (x5 &&& 31)) _ _ _ hc2))) ?_
      obtain ⟨v7, σ6, hc5, hF⟩ := bbd_e hF
      refine b_cS1i (d' := (d + 4)) (pc := 28) C dX1_bestPreacher_28 mm_X1_81 (Nat.le_of_ble_eq_true rfl) (by omega) (Hh.2.2 _ _ _ _ _ _ _ _ _ (lvl_eq (by omega) (e_J6_bitCount_0f7a4 (d + 4) v4 _ _ _ hc5))) ?_
      refine b_istore (L' := [(6, .int v7), (0, .ref 66), (1, .ref x1), (2, .ref x2), (3, .int x3), (4, .int x4), (5, .int x5)]) (pc := 31) C dX1_bestPreacher_31 rfl (Hh.2.1 _ (Nat.le_of_ble_eq_true rfl)) rfl ?_
      refine b_iload (pc := 33) C dX1_bestPreacher_33 0 rfl ?_
      refine b_iload (pc := 35) C dX1_bestPreacher_35 5 rfl ?_
      refine b_icmp_le (tgt := 47) (pc := 37) C dX1_bestPreacher_37 rfl (fun hc8 => ?_) (fun hc8 => ?_)
      · rw [if_pos hc8] at hF
        obtain ⟨x5_9, e10, hF⟩ := blet_e hF
        refine b_iinc (L' := [(5, .int x5_9), (6, .int v7), (0, .ref 66), (1, .ref x1), (2, .ref x2), (3, .int x3), (4, .int x4)]) (pc := 47) C dX1_bestPreacher_47 6 rfl ic_1 e10 (Hh.2.1 _ (Nat.le_of_ble_eq_true rfl)) rfl ?_
        refine b_goto (tgt := 9) (pc := 50) C dX1_bestPreacher_50 rfl ?_
        exact b_sub [2, 3, 4, 5, 6, 0] rfl (ih _ hx1 _ hx2 x3 x4 x5_9 _ _ hF hx)
      · rw [if_neg hc8] at hF
        refine b_iload (pc := 40) C dX1_bestPreacher_40 6 rfl ?_
        refine b_istore_n (L' := [(3, .int x5), (6, .int v7), (0, .ref 66), (1, .ref x1), (2, .ref x2), (4, .int x4), (5, .int x5)]) (pc := 42) C dX1_bestPreacher_42 rfl rfl (Hh.2.1 _ (Nat.le_of_ble_eq_true rfl)) rfl ?_
        refine b_iload (pc := 43) C dX1_bestPreacher_43 1 rfl ?_
        refine b_istore (L' := [(4, .int v7), (3, .int x5), (6, .int v7), (0, .ref 66), (1, .ref x1), (2, .ref x2), (5, .int x5)]) (pc := 45) C dX1_bestPreacher_45 rfl (Hh.2.1 _ (Nat.le_of_ble_eq_true rfl)) rfl ?_
        obtain ⟨x5_11, e12, hF⟩ := blet_e hF
        refine b_iinc (L' := [(5, .int x5_11), (4, .int v7), (3, .int x5), (6, .int v7), (0, .ref 66), (1, .ref x1), (2, .ref x2)]) (pc := 47) C dX1_bestPreacher_47 6 rfl ic_1 e12 (Hh.2.1 _ (Nat.le_of_ble_eq_true rfl)) rfl ?_
        refine b_goto (tgt := 9) (pc := 50) C dX1_bestPreacher_50 rfl ?_
        exact b_sub [4, 5, 6, 2, 1, 0] rfl (ih _ hx1 _ hx2 x5 v7 x5_11 _ _ hF hx)
set_option maxHeartbeats 4000000 in
set_option maxRecDepth 20000 in
theorem e_X1_bestPreacher_0 {X : bX} {l : Launch} {G : bG} {ρ : Nat → Nat} {A : Nat → Prop} {d : Nat} {r : Int32} {σ' : bSto} (C : bCX X cX1_bestPreacher RX1 (d + 5)) (Hh : bH X l G bSHf ρ A 7) (Rt : bRX X (some .int) (some (.int r)) σ') (x1 : Nat) (hx1 : kF x1) (x2 : Nat) (hx2 : kN x2) (σ : bSto) (hF : f_X1_bestPreacher x1 x2 σ = some (r, σ')) : bAJ X 0 [(0, .ref 66), (1, .ref x1), (2, .ref x2)] [] σ := by
  rw [f_X1_bestPreacher] at hF
  refine b_bipush (pc := 0) C dX1_bestPreacher_0 bp_m2 ?_
  refine b_istore_n (L' := [(3, .int (-2 : Int32)), (0, .ref 66), (1, .ref x1), (2, .ref x2)]) (pc := 2) C dX1_bestPreacher_2 rfl rfl (Hh.2.1 _ (Nat.le_of_ble_eq_true rfl)) rfl ?_
  refine b_iconst (pc := 3) C dX1_bestPreacher_3 ic_m1 ?_
  refine b_istore (L' := [(4, .int (-1 : Int32)), (3, .int (-2 : Int32)), (0, .ref 66), (1, .ref x1), (2, .ref x2)]) (pc := 4) C dX1_bestPreacher_4 rfl (Hh.2.1 _ (Nat.le_of_ble_eq_true rfl)) rfl ?_
  refine b_iconst (pc := 6) C dX1_bestPreacher_6 ic_0 ?_
  refine b_istore (L' := [(5, .int (0 : Int32)), (4, .int (-1 : Int32)), (3, .int (-2 : Int32)), (0, .ref 66), (1, .ref x1), (2, .ref x2)]) (pc := 7) C dX1_bestPreacher_7 rfl (Hh.2.1 _ (Nat.le_of_ble_eq_true rfl)) rfl ?_
  obtain ⟨x3_1, σ2, hq1, hF⟩ := bl1_e hF
  refine b_sub [3, 4, 5, 2, 1, 0] rfl (e_X1_bestPreacher_L9 C Hh Rt bFU _ hx1 _ hx2 (-2 : Int32) (-1 : Int32) (0 : Int32) _ _ hq1 (fun _ _ e  => ?_))
  cases e
  refine b_iload_n (pc := 53) C dX1_bestPreacher_53 rfl 0 rfl ?_
  exact b_iret (pc := 54) C Rt dX1_bestPreacher_54 hF
set_option maxHeartbeats 4000000 in
set_option maxRecDepth 20000 in
theorem e_X1_bestPreacher {l : Launch} {G : bG} {ρ : Nat → Nat} {A : Nat → Prop} (d : Nat) (x1 : Nat) (hx1 : kF x1) (x2 : Nat) (hx2 : kN x2) (σ : bSto) (r : Int32) (σ' : bSto) (hF : f_X1_bestPreacher x1 x2 σ = some (r, σ')) : bEv l G bSHf ρ A yX1_bestPreacher cX1_bestPreacher 7 (some .int) (d + 5) [.ref 66, .ref x1, .ref x2] σ (some (.int r)) σ' := b_met (d := d + 5) (by decide +kernel) (Nat.le_of_ble_eq_true rfl) rfl (fun X C Rt h1 h2 h3 => e_X1_bestPreacher_0 C ⟨fun o q h => by rw [h1]; exact h, fun i h => by rw [h2]; exact h, h3⟩ Rt _ hx1 _ hx2 _ hF)
/-! BenchColony$Creed.tellTo -/
def f_X1_tellTo (x1 : Nat) (σ : bSto) : Option bSto := blet (bA σ (x1 + 2) (va_cpy (σ.1 67) (σ.1 (x1 + 2)) (0 : Int32).toNatClampNeg (0 : Int32).toNatClampNeg (7 : Int32).toNatClampNeg)) (fun σ2 => some σ2)
set_option maxHeartbeats 4000000 in
set_option maxRecDepth 20000 in
theorem e_X1_tellTo_0 {X : bX} {l : Launch} {G : bG} {ρ : Nat → Nat} {A : Nat → Prop} {d : Nat} {σ' : bSto} (C : bCX X cX1_tellTo RX1 (d + 0)) (Hh : bH X l G bSHf ρ A 2) (Rt : bRX X none none σ') (x1 : Nat) (hx1 : kN x1) (σ : bSto) (hF : f_X1_tellTo x1 σ = some σ') : bAJ X 0 [(0, .ref 66), (1, .ref x1)] [] σ := by
  rw [f_X1_tellTo] at hF
  refine b_aload_n (pc := 0) C dX1_tellTo_0 rfl 0 rfl ?_
  refine b_getS (pc := 1) C dX1_tellTo_1 fl_X1_9 (Hh.1 _ _ sh_66) rfl ?_
  refine b_iconst (pc := 4) C dX1_tellTo_4 ic_0 ?_
  refine b_aload_n (pc := 5) C dX1_tellTo_5 rfl 1 rfl ?_
  refine b_getS (pc := 6) C dX1_tellTo_6 fl_X1_18 (Hh.1 _ _ (shN hx1)) rfl ?_
  refine b_iconst (pc := 9) C dX1_tellTo_9 ic_0 ?_
  refine b_bipush (pc := 10) C dX1_tellTo_10 bp_7 ?_
  obtain ⟨σ2, e3, hF⟩ := blet_e hF
  refine b_copy (pc := 12) C dX1_tellTo_12 ww_X1_21 wArr (Hh.1 _ _ sh_67) (Hh.1 _ _ (sa_4_1 hx1)) (Nat.le_of_ble_eq_true rfl) (by decide) e3 ?_
  exact b_vret (pc := 15) C Rt dX1_tellTo_15 hF
set_option maxHeartbeats 4000000 in
set_option maxRecDepth 20000 in
theorem e_X1_tellTo {l : Launch} {G : bG} {ρ : Nat → Nat} {A : Nat → Prop} (d : Nat) (x1 : Nat) (hx1 : kN x1) (σ : bSto) (σ' : bSto) (hF : f_X1_tellTo x1 σ = some σ') : bEv l G bSHf ρ A yX1_tellTo cX1_tellTo 2 none (d + 0) [.ref 66, .ref x1] σ none σ' := b_met (d := d + 0) (by decide +kernel) (Nat.le_of_ble_eq_true rfl) rfl (fun X C Rt h1 h2 h3 => e_X1_tellTo_0 C ⟨fun o q h => by rw [h1]; exact h, fun i h => by rw [h2]; exact h, h3⟩ Rt _ hx1 _ hF)
