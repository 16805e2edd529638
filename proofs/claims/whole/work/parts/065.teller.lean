/-! BenchColony$Teller.indexOf -/
def f_X9_indexOf_L3 : Nat → Nat → Int32 → Int64 → Int32 → bSto → Option ((Int32 × bSto) ⊕ (bSto))
  | 0, _, _, _, _, _ => none
  | n + 1, x0, x1, x2, x4, σ => (if x1 ≤ x4 then some (.inr σ) else (if (Int32.ofNat (blnJ x0)) ≤ x4 then some (.inr σ) else if x4 < 0 ∨ (blnJ x0) ≤ x4.toNatClampNeg then none else (if (lg_cmp (σ.2.1 x0 x4.toNatClampNeg) x2) = 0 then some (.inl (x4, σ)) else blet (x4 + (1 : Int32)) (fun x4_5 => f_X9_indexOf_L3 n x0 x1 x2 x4_5 σ))))
def f_X9_indexOf (x0 : Nat) (x1 : Int32) (x2 : Int64) (σ : bSto) : Option (Int32 × bSto) := br0 (f_X9_indexOf_L3 bFU x0 x1 x2 (0 : Int32) σ) (fun v s => some (v, s)) (fun σ2 => some ((-1 : Int32), σ2))
set_option maxHeartbeats 4000000 in
set_option maxRecDepth 20000 in
theorem e_X9_indexOf_L3 {X : bX} {l : Launch} {G : bG} {ρ : Nat → Nat} {A : Nat → Prop} {d : Nat} {r : Int32} {σ' : bSto} (C : bCX X cX9_indexOf RX9 (d + 0)) (Hh : bH X l G bSHf ρ A 5) (Rt : bRX X (some .int) (some (.int r)) σ') : ∀ (n : Nat) (x0 : Nat) (hx0 : kJA x0) (x1 : Int32) (x2 : Int64) (x4 : Int32) (σ : bSto) (q : ((Int32 × bSto) ⊕ (bSto))), f_X9_indexOf_L3 n x0 x1 x2 x4 σ = some q → (∀ (v : Int32) (s : bSto), q = .inl (v, s) → some (v, s) = some (r, σ')) → (∀  (s : bSto), q = .inr s → bAJ X 34 [] [] s) → bAJ X 3 [(0, .ref x0), (1, .int x1), (2, .long x2), (4, .int x4)] [] σ := by
  intro n
  induction n with
  | zero => intro x0 hx0 x1 x2 x4 σ q hF; rw [f_X9_indexOf_L3] at hF; cases hF
  | succ n ih =>
    intro x0 hx0 x1 x2 x4 σ q hF hr hx
    rw [f_X9_indexOf_L3] at hF
    refine b_iload (pc := 3) C dX9_indexOf_3 3 rfl ?_
    refine b_iload_n (pc := 5) C dX9_indexOf_5 rfl 1 rfl ?_
    refine b_icmp_ge (tgt := 34) (pc := 6) C dX9_indexOf_6 rfl (fun hc1 => ?_) (fun hc1 => ?_)
    · rw [if_pos hc1] at hF
      exact b_sub [] rfl (hx  _ (Option.some.inj hF).symm )
    · rw [if_neg hc1] at hF
      refine b_iload (pc := 9) C dX9_indexOf_9 3 rfl ?_
      refine b_aload_n (pc := 11) C dX9_indexOf_11 rfl 0 rfl ?_
      refine b_alen 3 (by decide) (pc := 12) C dX9_indexOf_12 (Hh.1 _ _ hx0) rfl ?_
      refine b_icmp_ge (tgt := 34) (pc := 13) C dX9_indexOf_13 rfl (fun hc2 => ?_) (fun hc2 => ?_)
      · rw [if_pos hc2] at hF
        exact b_sub [] rfl (hx  _ (Option.some.inj hF).symm )
      · rw [if_neg hc2] at hF
        refine b_aload_n (pc := 16) C dX9_indexOf_16 rfl 0 rfl ?_
        refine b_iload (pc := 17) C dX9_indexOf_17 3 rfl ?_
        obtain ⟨hb3, hF⟩ := bif_n hF
        refine b_lald (pc := 19) C dX9_indexOf_19 (Hh.1 _ _ hx0) hb3 ?_
        refine b_lload_n (pc := 20) C dX9_indexOf_20 rfl 2 rfl ?_
        refine b_lcmp (pc := 21) C dX9_indexOf_21 ?_
        refine b_if_ne (tgt := 28) (pc := 22) C dX9_indexOf_22 rfl (fun hc4 => ?_) (fun hc4 => ?_)
        · rw [if_neg hc4] at hF
          obtain ⟨x4_5, e6, hF⟩ := blet_e hF
          refine b_iinc (L' := [(4, .int x4_5), (0, .ref x0), (1, .int x1), (2, .long x2)]) (pc := 28) C dX9_indexOf_28 3 rfl ic_1 e6 (Hh.2.1 _ (Nat.le_of_ble_eq_true rfl)) rfl ?_
          refine b_goto (tgt := 3) (pc := 31) C dX9_indexOf_31 rfl ?_
          exact b_sub [1, 2, 3, 0] rfl (ih _ hx0 x1 x2 x4_5 _ _ hF hr hx)
        · rw [if_pos hc4] at hF
          refine b_iload (pc := 25) C dX9_indexOf_25 3 rfl ?_
          exact b_iret (pc := 27) C Rt dX9_indexOf_27 (hr _ _ (Option.some.inj hF).symm)
set_option maxHeartbeats 4000000 in
set_option maxRecDepth 20000 in
theorem e_X9_indexOf_0 {X : bX} {l : Launch} {G : bG} {ρ : Nat → Nat} {A : Nat → Prop} {d : Nat} {r : Int32} {σ' : bSto} (C : bCX X cX9_indexOf RX9 (d + 0)) (Hh : bH X l G bSHf ρ A 5) (Rt : bRX X (some .int) (some (.int r)) σ') (x0 : Nat) (hx0 : kJA x0) (x1 : Int32) (x2 : Int64) (σ : bSto) (hF : f_X9_indexOf x0 x1 x2 σ = some (r, σ')) : bAJ X 0 [(0, .ref x0), (1, .int x1), (2, .long x2)] [] σ := by
  rw [f_X9_indexOf] at hF
  refine b_iconst (pc := 0) C dX9_indexOf_0 ic_0 ?_
  refine b_istore (L' := [(4, .int (0 : Int32)), (0, .ref x0), (1, .int x1), (2, .long x2)]) (pc := 1) C dX9_indexOf_1 rfl (Hh.2.1 _ (Nat.le_of_ble_eq_true rfl)) rfl ?_
  rcases br0_e hF with ⟨v, s, hq1, hF⟩ | ⟨σ2, hq1, hF⟩
  · exact b_sub [1, 2, 3, 0] rfl (e_X9_indexOf_L3 C Hh Rt bFU _ hx0 x1 x2 (0 : Int32) _ _ hq1 (fun v s e => by cases e; exact hF) (fun  _ e => by cases e))
  · refine b_sub [1, 2, 3, 0] rfl (e_X9_indexOf_L3 C Hh Rt bFU _ hx0 x1 x2 (0 : Int32) _ _ hq1 (fun v s e => by cases e) (fun  _ e  => ?_))
    cases e
    refine b_iconst (pc := 34) C dX9_indexOf_34 ic_m1 ?_
    exact b_iret (pc := 35) C Rt dX9_indexOf_35 hF
set_option maxHeartbeats 4000000 in
set_option maxRecDepth 20000 in
theorem e_X9_indexOf {l : Launch} {G : bG} {ρ : Nat → Nat} {A : Nat → Prop} (d : Nat) (x0 : Nat) (hx0 : kJA x0) (x1 : Int32) (x2 : Int64) (σ : bSto) (r : Int32) (σ' : bSto) (hF : f_X9_indexOf x0 x1 x2 σ = some (r, σ')) : bEv l G bSHf ρ A yX9_indexOf cX9_indexOf 5 (some .int) (d + 0) [.ref x0, .int x1, .long x2] σ (some (.int r)) σ' := b_met (d := d + 0) (by decide +kernel) (Nat.le_of_ble_eq_true rfl) rfl (fun X C Rt h1 h2 h3 => e_X9_indexOf_0 C ⟨fun o q h => by rw [h1]; exact h, fun i h => by rw [h2]; exact h, h3⟩ Rt _ hx0 _ _ _ hF)
/-! BenchColony$Teller.keptWord -/
def f_X9_keptWord  (σ : bSto) : Option (Int32 × bSto) := (if (σ.1 2 4) = (1 : Int32) then bbd (f_X9_indexOf 4 (10 : Int32) (σ.2.1 2 7) σ) (fun v4 σ3 => some (v4, σ3)) else some ((-1 : Int32), σ))
set_option maxHeartbeats 4000000 in
set_option maxRecDepth 20000 in
theorem e_X9_keptWord_0 {X : bX} {l : Launch} {G : bG} {ρ : Nat → Nat} {A : Nat → Prop} {d : Nat} {r : Int32} {σ' : bSto} (C : bCX X cX9_keptWord RX9 (d + 1)) (Hh : bH X l G bSHf ρ A 1) (Rt : bRX X (some .int) (some (.int r)) σ')  (σ : bSto) (hF : f_X9_keptWord  σ = some (r, σ')) : bAJ X 0 [(0, .ref 1)] [] σ := by
  rw [f_X9_keptWord] at hF
  refine b_aload_n (pc := 0) C dX9_keptWord_0 rfl 0 rfl ?_
  refine b_getS (pc := 1) C dX9_keptWord_1 fl_X9_12 (Hh.1 _ _ sh_1) rfl ?_
  refine b_getI (pc := 4) C dX9_keptWord_4 fl_X9_77 (Hh.1 _ _ sh_2) rfl ?_
  refine b_iconst (pc := 7) C dX9_keptWord_7 ic_1 ?_
  refine b_icmp_ne (tgt := 30) (pc := 8) C dX9_keptWord_8 rfl (fun hc1 => ?_) (fun hc1 => ?_)
  · rw [if_neg hc1] at hF
    refine b_iconst (pc := 30) C dX9_keptWord_30 ic_m1 ?_
    exact b_iret (pc := 31) C Rt dX9_keptWord_31 hF
  · rw [if_pos hc1] at hF
    refine b_aload_n (pc := 11) C dX9_keptWord_11 rfl 0 rfl ?_
    refine b_getS (pc := 12) C dX9_keptWord_12 fl_X9_18 (Hh.1 _ _ sh_1) rfl ?_
    refine b_bipush (pc := 15) C dX9_keptWord_15 bp_10 ?_
    refine b_aload_n (pc := 17) C dX9_keptWord_17 rfl 0 rfl ?_
    refine b_getS (pc := 18) C dX9_keptWord_18 fl_X9_12 (Hh.1 _ _ sh_1) rfl ?_
    refine b_getJ (pc := 21) C dX9_keptWord_21 fl_X9_196 (Hh.1 _ _ sh_2) rfl ?_
    obtain ⟨v4, σ3, hc2, hF⟩ := bbd_e hF
    refine b_cS3i (d' := (d + 0)) (pc := 24) C dX9_keptWord_24 mm_X9_264 (Nat.le_of_ble_eq_true rfl) (by omega) (Hh.2.2 _ _ _ _ _ _ _ _ _ (lvl_eq (by omega) (e_X9_indexOf (d + 0) _ (show kJA 4 from sh_4) (10 : Int32) (σ.2.1 2 7) _ _ _ hc2))) ?_
    refine b_goto (tgt := 31) (pc := 27) C dX9_keptWord_27 rfl ?_
    exact b_iret (pc := 31) C Rt dX9_keptWord_31 hF
set_option maxHeartbeats 4000000 in
set_option maxRecDepth 20000 in
theorem e_X9_keptWord {l : Launch} {G : bG} {ρ : Nat → Nat} {A : Nat → Prop} (d : Nat)  (σ : bSto) (r : Int32) (σ' : bSto) (hF : f_X9_keptWord  σ = some (r, σ')) : bEv l G bSHf ρ A yX9_keptWord cX9_keptWord 1 (some .int) (d + 1) [.ref 1] σ (some (.int r)) σ' := b_met (d := d + 1) (by decide +kernel) (Nat.le_of_ble_eq_true rfl) rfl (fun X C Rt h1 h2 h3 => e_X9_keptWord_0 C ⟨fun o q h => by rw [h1]; exact h, fun i h => by rw [h2]; exact h, h3⟩ Rt  _ hF)
/-! BenchColony$Teller.blame -/
def f_X9_blame (x1 : Int32) (σ : bSto) : Option (Int32 × bSto) := blet (bI σ 1 5 x1) (fun σ1 => blet (bI σ1 1 6 (σ1.1 2 5)) (fun σ3 => some ((0 : Int32), σ3)))
set_option maxHeartbeats 4000000 in
set_option maxRecDepth 20000 in
theorem e_X9_blame_0 {X : bX} {l : Launch} {G : bG} {ρ : Nat → Nat} {A : Nat → Prop} {d : Nat} {r : Int32} {σ' : bSto} (C : bCX X cX9_blame RX9 (d + 0)) (Hh : bH X l G bSHf ρ A 2) (Rt : bRX X (some .boolean) (some (.int r)) σ') (x1 : Int32) (σ : bSto) (hF : f_X9_blame x1 σ = some (r, σ')) : bAJ X 0 [(0, .ref 1), (1, .int x1)] [] σ := by
  rw [f_X9_blame] at hF
  refine b_aload_n (pc := 0) C dX9_blame_0 rfl 0 rfl ?_
  refine b_iload_n (pc := 1) C dX9_blame_1 rfl 1 rfl ?_
  obtain ⟨σ1, e2, hF⟩ := blet_e hF
  refine b_putI (pc := 2) C dX9_blame_2 fp_X9_62 (Hh.1 _ _ sh_1) rfl rfl rfl e2 ?_
  refine b_aload_n (pc := 5) C dX9_blame_5 rfl 0 rfl ?_
  refine b_aload_n (pc := 6) C dX9_blame_6 rfl 0 rfl ?_
  refine b_getS (pc := 7) C dX9_blame_7 fl_X9_12 (Hh.1 _ _ sh_1) rfl ?_
  refine b_getI (pc := 10) C dX9_blame_10 fl_X9_96 (Hh.1 _ _ sh_2) rfl ?_
  obtain ⟨σ3, e4, hF⟩ := blet_e hF
  refine b_putI (pc := 13) C dX9_blame_13 fp_X9_66 (Hh.1 _ _ sh_1) rfl rfl rfl e4 ?_
  refine b_iconst (pc := 16) C dX9_blame_16 ic_0 ?_
  exact b_zret (pc := 17) C Rt dX9_blame_17 rfl hF
set_option maxHeartbeats 4000000 in
set_option maxRecDepth 20000 in
theorem e_X9_blame {l : Launch} {G : bG} {ρ : Nat → Nat} {A : Nat → Prop} (d : Nat) (x1 : Int32) (σ : bSto) (r : Int32) (σ' : bSto) (hF : f_X9_blame x1 σ = some (r, σ')) : bEv l G bSHf ρ A yX9_blame cX9_blame 2 (some .boolean) (d + 0) [.ref 1, .int x1] σ (some (.int r)) σ' := b_met (d := d + 0) (by decide +kernel) (Nat.le_of_ble_eq_true rfl) rfl (fun X C Rt h1 h2 h3 => e_X9_blame_0 C ⟨fun o q h => by rw [h1]; exact h, fun i h => by rw [h2]; exact h, h3⟩ Rt _ _ hF)
/-! BenchColony$Teller.isFull -/
def f_X9_isFull_J132  (σ : bSto) : Option (Int32 × bSto) := if kR (σ.2.2 1 4) then (if (σ.1 ((σ.2.2 1 4) + 15) 4) < (8 : Int32) then some ((0 : Int32), σ) else some ((1 : Int32), σ)) else none
def f_X9_isFull (x1 : Int32) (σ : bSto) : Option (Int32 × bSto) := (if x1 = (1 : Int32) then if kR (σ.2.2 1 4) then (if (σ.1 ((σ.2.2 1 4) + 1) 5) < (6 : Int32) then some ((0 : Int32), σ) else some ((1 : Int32), σ)) else none else (if x1 = (2 : Int32) then if kR (σ.2.2 1 4) then (if (σ.1 ((σ.2.2 1 4) + 7) 7) < (7 : Int32) then some ((0 : Int32), σ) else some ((1 : Int32), σ)) else none else (if x1 = (3 : Int32) then if kR (σ.2.2 1 4) then (if (σ.1 ((σ.2.2 1 4) + 7) 8) < (6 : Int32) then some ((0 : Int32), σ) else some ((1 : Int32), σ)) else none else (if x1 = (4 : Int32) then if kR (σ.2.2 1 4) then (if (σ.1 ((σ.2.2 1 4) + 7) 9) < (9 : Int32) then some ((0 : Int32), σ) else some ((1 : Int32), σ)) else none else (if x1 = (5 : Int32) then some ((0 : Int32), σ) else (if x1 = (6 : Int32) then some ((0 : Int32), σ) else (if x1 = (7 : Int32) then f_X9_isFull_J132  σ else (if x1 = (8 : Int32) then f_X9_isFull_J132  σ else some ((0 : Int32), σ)))))))))
set_option maxHeartbeats 4000000 in
set_option maxRecDepth 20000 in
theorem e_X9_isFull_J132 {X : bX} {l : Launch} {G : bG} {ρ : Nat → Nat} {A : Nat → Prop} {d : Nat} {r : Int32} {σ' : bSto} (C : bCX X cX9_isFull RX9 (d + 0)) (Hh : bH X l G bSHf ρ A 2) (Rt : bRX X (some .boolean) (some (.int r)) σ')  (σ : bSto) (hF : f_X9_isFull_J132  σ = some (r, σ')) : bAJ X 132 [(0, .ref 1)] [] σ := by
  rw [f_X9_isFull_J132] at hF
  refine b_aload_n (pc := 132) C dX9_isFull_132 rfl 0 rfl ?_
  obtain ⟨hk1, hF⟩ := bif_y hF
  refine b_getR (pc := 133) C dX9_isFull_133 fl_X9_31 (Hh.1 _ _ sh_1) rfl ?_
  refine b_getS (pc := 136) C dX9_isFull_136 fl_X9_145 (Hh.1 _ _ (shR hk1)) rfl ?_
  refine b_getI (pc := 139) C dX9_isFull_139 fl_X9_149 (Hh.1 _ _ (shT (kk_7_2 hk1))) rfl ?_
  refine b_bipush (pc := 142) C dX9_isFull_142 bp_8 ?_
  refine b_icmp_lt (tgt := 151) (pc := 144) C dX9_isFull_144 rfl (fun hc2 => ?_) (fun hc2 => ?_)
  · rw [if_pos hc2] at hF
    refine b_iconst (pc := 151) C dX9_isFull_151 ic_0 ?_
    exact b_zret (pc := 152) C Rt dX9_isFull_152 rfl hF
  · rw [if_neg hc2] at hF
    refine b_iconst (pc := 147) C dX9_isFull_147 ic_1 ?_
    refine b_goto (tgt := 152) (pc := 148) C dX9_isFull_148 rfl ?_
    exact b_zret (pc := 152) C Rt dX9_isFull_152 rfl hF
set_option maxHeartbeats 4000000 in
set_option maxRecDepth 20000 in
theorem e_X9_isFull_0 {X : bX} {l : Launch} {G : bG} {ρ : Nat → Nat} {A : Nat → Prop} {d : Nat} {r : Int32} {σ' : bSto} (C : bCX X cX9_isFull RX9 (d + 0)) (Hh : bH X l G bSHf ρ A 2) (Rt : bRX X (some .boolean) (some (.int r)) σ') (x1 : Int32) (σ : bSto) (hF : f_X9_isFull x1 σ = some (r, σ')) : bAJ X 0 [(0, .ref 1), (1, .int x1)] [] σ := by
  rw [f_X9_isFull] at hF
  refine b_iload_n (pc := 0) C dX9_isFull_0 rfl 1 rfl ?_
  by_cases hc1 : x1 = (1 : Int32)
  · rw [if_pos hc1] at hF
    refine b_tabIn (tgt := 48) (pc := 1) C dX9_isFull_1 hc1 (kI := 1) (by decide) (by decide) (by decide) rfl rfl ?_
    refine b_aload_n (pc := 48) C dX9_isFull_48 rfl 0 rfl ?_
    obtain ⟨hk2, hF⟩ := bif_y hF
    refine b_getR (pc := 49) C dX9_isFull_49 fl_X9_31 (Hh.1 _ _ sh_1) rfl ?_
    refine b_getS (pc := 52) C dX9_isFull_52 fl_X9_87 (Hh.1 _ _ (shR hk2)) rfl ?_
    refine b_getI (pc := 55) C dX9_isFull_55 fl_X9_91 (Hh.1 _ _ (shH (kk_7_0 hk2))) rfl ?_
    refine b_bipush (pc := 58) C dX9_isFull_58 bp_6 ?_
    refine b_icmp_lt (tgt := 67) (pc := 60) C dX9_isFull_60 rfl (fun hc3 => ?_) (fun hc3 => ?_)
    · rw [if_pos hc3] at hF
      refine b_iconst (pc := 67) C dX9_isFull_67 ic_0 ?_
      exact b_zret (pc := 68) C Rt dX9_isFull_68 rfl hF
    · rw [if_neg hc3] at hF
      refine b_iconst (pc := 63) C dX9_isFull_63 ic_1 ?_
      refine b_goto (tgt := 68) (pc := 64) C dX9_isFull_64 rfl ?_
      exact b_zret (pc := 68) C Rt dX9_isFull_68 rfl hF
  rw [if_neg hc1] at hF
  by_cases hc4 : x1 = (2 : Int32)
  · rw [if_pos hc4] at hF
    refine b_tabIn (tgt := 69) (pc := 1) C dX9_isFull_1 hc4 (kI := 2) (by decide) (by decide) (by decide) rfl rfl ?_
    refine b_aload_n (pc := 69) C dX9_isFull_69 rfl 0 rfl ?_
    obtain ⟨hk5, hF⟩ := bif_y hF
    refine b_getR (pc := 70) C dX9_isFull_70 fl_X9_31 (Hh.1 _ _ sh_1) rfl ?_
    refine b_getS (pc := 73) C dX9_isFull_73 fl_X9_132 (Hh.1 _ _ (shR hk5)) rfl ?_
    refine b_getI (pc := 76) C dX9_isFull_76 fl_X9_136 (Hh.1 _ _ (shF (kk_7_1 hk5))) rfl ?_
    refine b_bipush (pc := 79) C dX9_isFull_79 bp_7 ?_
    refine b_icmp_lt (tgt := 88) (pc := 81) C dX9_isFull_81 rfl (fun hc6 => ?_) (fun hc6 => ?_)
    · rw [if_pos hc6] at hF
      refine b_iconst (pc := 88) C dX9_isFull_88 ic_0 ?_
      exact b_zret (pc := 89) C Rt dX9_isFull_89 rfl hF
    · rw [if_neg hc6] at hF
      refine b_iconst (pc := 84) C dX9_isFull_84 ic_1 ?_
      refine b_goto (tgt := 89) (pc := 85) C dX9_isFull_85 rfl ?_
      exact b_zret (pc := 89) C Rt dX9_isFull_89 rfl hF
  rw [if_neg hc4] at hF
  by_cases hc7 : x1 = (3 : Int32)
  · rw [if_pos hc7] at hF
    refine b_tabIn (tgt := 90) (pc := 1) C dX9_isFull_1 hc7 (kI := 3) (by decide) (by decide) (by decide) rfl rfl ?_
    refine b_aload_n (pc := 90) C dX9_isFull_90 rfl 0 rfl ?_
    obtain ⟨hk8, hF⟩ := bif_y hF
    refine b_getR (pc := 91) C dX9_isFull_91 fl_X9_31 (Hh.1 _ _ sh_1) rfl ?_
    refine b_getS (pc := 94) C dX9_isFull_94 fl_X9_132 (Hh.1 _ _ (shR hk8)) rfl ?_
    refine b_getI (pc := 97) C dX9_isFull_97 fl_X9_139 (Hh.1 _ _ (shF (kk_7_1 hk8))) rfl ?_
    refine b_bipush (pc := 100) C dX9_isFull_100 bp_6 ?_
    refine b_icmp_lt (tgt := 109) (pc := 102) C dX9_isFull_102 rfl (fun hc9 => ?_) (fun hc9 => ?_)
    · rw [if_pos hc9] at hF
      refine b_iconst (pc := 109) C dX9_isFull_109 ic_0 ?_
      exact b_zret (pc := 110) C Rt dX9_isFull_110 rfl hF
    · rw [if_neg hc9] at hF
      refine b_iconst (pc := 105) C dX9_isFull_105 ic_1 ?_
      refine b_goto (tgt := 110) (pc := 106) C dX9_isFull_106 rfl ?_
      exact b_zret (pc := 110) C Rt dX9_isFull_110 rfl hF
  rw [if_neg hc7] at hF
  by_cases hc10 : x1 = (4 : Int32)
  · rw [if_pos hc10] at hF
    refine b_tabIn (tgt := 111) (pc := 1) C dX9_isFull_1 hc10 (kI := 4) (by decide) (by decide) (by decide) rfl rfl ?_
    refine b_aload_n (pc := 111) C dX9_isFull_111 rfl 0 rfl ?_
    obtain ⟨hk11, hF⟩ := bif_y hF
    refine b_getR (pc := 112) C dX9_isFull_112 fl_X9_31 (Hh.1 _ _ sh_1) rfl ?_
    refine b_getS (pc := 115) C dX9_isFull_115 fl_X9_132 (Hh.1 _ _ (shR hk11)) rfl ?_
    refine b_getI (pc := 118) C dX9_isFull_118 fl_X9_142 (Hh.1 _ _ (shF (kk_7_1 hk11))) rfl ?_
    refine b_bipush (pc := 121) C dX9_isFull_121 bp_9 ?_
    refine b_icmp_lt (tgt := 130) (pc := 123) C dX9_isFull_123 rfl (fun hc12 => ?_) (fun hc12 => ?_)
    · rw [if_pos hc12] at hF
      refine b_iconst (pc := 130) C dX9_isFull_130 ic_0 ?_
      exact b_zret (pc := 131) C Rt dX9_isFull_131 rfl hF
    · rw [if_neg hc12] at hF
      refine b_iconst (pc := 126) C dX9_isFull_126 ic_1 ?_
      refine b_goto (tgt := 131) (pc := 127) C dX9_isFull_127 rfl ?_
      exact b_zret (pc := 131) C Rt dX9_isFull_131 rfl hF
  rw [if_neg hc10] at hF
  by_cases hc13 : x1 = (5 : Int32)
  · rw [if_pos hc13] at hF
    refine b_tabIn (tgt := 153) (pc := 1) C dX9_isFull_1 hc13 (kI := 5) (by decide) (by decide) (by decide) rfl rfl ?_
    refine b_iconst (pc := 153) C dX9_isFull_153 ic_0 ?_
    exact b_zret (pc := 154) C Rt dX9_isFull_154 rfl hF
  rw [if_neg hc13] at hF
  by_cases hc14 : x1 = (6 : Int32)
  · rw [if_pos hc14] at hF
    refine b_tabIn (tgt := 153) (pc := 1) C dX9_isFull_1 hc14 (kI := 6) (by decide) (by decide) (by decide) rfl rfl ?_
    refine b_iconst (pc := 153) C dX9_isFull_153 ic_0 ?_
    exact b_zret (pc := 154) C Rt dX9_isFull_154 rfl hF
  rw [if_neg hc14] at hF
  by_cases hc15 : x1 = (7 : Int32)
  · rw [if_pos hc15] at hF
    refine b_tabIn (tgt := 132) (pc := 1) C dX9_isFull_1 hc15 (kI := 7) (by decide) (by decide) (by decide) rfl rfl ?_
    exact b_sub [0] rfl (e_X9_isFull_J132 C Hh Rt  _ hF)
  rw [if_neg hc15] at hF
  by_cases hc16 : x1 = (8 : Int32)
  · rw [if_pos hc16] at hF
    refine b_tabIn (tgt := 132) (pc := 1) C dX9_isFull_1 hc16 (kI := 8) (by decide) (by decide) (by decide) rfl rfl ?_
    exact b_sub [0] rfl (e_X9_isFull_J132 C Hh Rt  _ hF)
  rw [if_neg hc16] at hF
  have hn17_0 := lv_neT hc1 (show ((1 : Int32)).toInt = 1 from by decide)
  have hn17_1 := lv_neT hc4 (show ((2 : Int32)).toInt = 2 from by decide)
  have hn17_2 := lv_neT hc7 (show ((3 : Int32)).toInt = 3 from by decide)
  have hn17_3 := lv_neT hc10 (show ((4 : Int32)).toInt = 4 from by decide)
  have hn17_4 := lv_neT hc13 (show ((5 : Int32)).toInt = 5 from by decide)
  have hn17_5 := lv_neT hc14 (show ((6 : Int32)).toInt = 6 from by decide)
  have hn17_6 := lv_neT hc15 (show ((7 : Int32)).toInt = 7 from by decide)
  have hn17_7 := lv_neT hc16 (show ((8 : Int32)).toInt = 8 from by decide)
  refine b_tabOut (tgt := 153) (pc := 1) C dX9_isFull_1 (by omega) rfl ?_
  refine b_iconst (pc := 153) C dX9_isFull_153 ic_0 ?_
  exact b_zret (pc := 154) C Rt dX9_isFull_154 rfl hF
set_option maxHeartbeats 4000000 in
set_option maxRecDepth 20000 in
theorem e_X9_isFull {l : Launch} {G : bG} {ρ : Nat → Nat} {A : Nat → Prop} (d : Nat) (x1 : Int32) (σ : bSto) (r : Int32) (σ' : bSto) (hF : f_X9_isFull x1 σ = some (r, σ')) : bEv l G bSHf ρ A yX9_isFull cX9_isFull 2 (some .boolean) (d + 0) [.ref 1, .int x1] σ (some (.int r)) σ' := b_met (d := d + 0) (by decide +kernel) (Nat.le_of_ble_eq_true rfl) rfl (fun X C Rt h1 h2 h3 => e_X9_isFull_0 C ⟨fun o q h => by rw [h1]; exact h, fun i h => by rw [h2]; exact h, h3⟩ Rt _ _ hF)
/-! BenchColony$Teller.readWord -/
def f_X9_readWord (x1 : Nat) (σ : bSto) : Option (Int32 × bSto) := bbd (f_X8_is x1 σ) (fun v3 σ2 => (if v3 = 0 then bbd (f_X9_blame (1 : Int32) σ2) (fun v9 σ8 => if v9 = 0 ∨ v9 = 1 then some (v9, σ8) else none) else bbv (f_X8_step  σ2) (fun σ6 => some ((1 : Int32), σ6))))
set_option maxHeartbeats 4000000 in
set_option maxRecDepth 20000 in
theorem e_X9_readWord_0 {X : bX} {l : Launch} {G : bG} {ρ : Nat → Nat} {A : Nat → Prop} {d : Nat} {r : Int32} {σ' : bSto} (C : bCX X cX9_readWord RX9 (d + 6)) (Hh : bH X l G bSHf ρ A 2) (Rt : bRX X (some .boolean) (some (.int r)) σ') (x1 : Nat) (hx1 : x1 < bnS) (σ : bSto) (hF : f_X9_readWord x1 σ = some (r, σ')) : bAJ X 0 [(0, .ref 1), (1, .ref (1000 + x1))] [] σ := by
  rw [f_X9_readWord] at hF
  refine b_aload_n (pc := 0) C dX9_readWord_0 rfl 0 rfl ?_
  refine b_getS (pc := 1) C dX9_readWord_1 fl_X9_12 (Hh.1 _ _ sh_1) rfl ?_
  refine b_aload_n (pc := 4) C dX9_readWord_4 rfl 1 rfl ?_
  obtain ⟨v3, σ2, hc1, hF⟩ := bbd_e hF
  refine b_cV1i (d' := (d + 5)) (pc := 5) C dX9_readWord_5 mm_X9_252 (Hh.1 _ _ sh_2) rfl (Nat.le_of_ble_eq_true rfl) (by omega) (Hh.2.2 _ _ _ _ _ _ _ _ _ (lvl_eq (by omega) (e_X8_is (d + 0) _ hx1 _ _ _ hc1))) ?_
  refine b_if_ne (tgt := 17) (pc := 8) C dX9_readWord_8 rfl (fun hc4 => ?_) (fun hc4 => ?_)
  · rw [if_neg hc4] at hF
    refine b_aload_n (pc := 17) C dX9_readWord_17 rfl 0 rfl ?_
    refine b_getS (pc := 18) C dX9_readWord_18 fl_X9_12 (Hh.1 _ _ sh_1) rfl ?_
    obtain ⟨σ6, hc5, hF⟩ := bbv_e hF
    refine b_cV0v (d' := (d + 5)) (pc := 21) C dX9_readWord_21 mm_X9_80 (Hh.1 _ _ sh_2) rfl (Nat.le_of_ble_eq_true rfl) (by omega) (Hh.2.2 _ _ _ _ _ _ _ _ _ (lvl_eq (by omega) (e_X8_step (d + 4)  _ _ hc5))) ?_
    refine b_iconst (pc := 24) C dX9_readWord_24 ic_1 ?_
    exact b_zret (pc := 25) C Rt dX9_readWord_25 rfl hF
  · rw [if_pos hc4] at hF
    refine b_aload_n (pc := 11) C dX9_readWord_11 rfl 0 rfl ?_
    refine b_iconst (pc := 12) C dX9_readWord_12 ic_1 ?_
    obtain ⟨v9, σ8, hc7, hF⟩ := bbd_e hF
    refine b_cV1i (d' := (d + 5)) (pc := 13) C dX9_readWord_13 mm_X9_83 (Hh.1 _ _ sh_1) rfl (Nat.le_of_ble_eq_true rfl) (by omega) (Hh.2.2 _ _ _ _ _ _ _ _ _ (lvl_eq (by omega) (e_X9_blame (d + 5) (1 : Int32) _ _ _ hc7))) ?_
    obtain ⟨hz10, hF⟩ := bif_y hF
    exact b_zret (pc := 16) C Rt dX9_readWord_16 (bz_n hz10) hF
set_option maxHeartbeats 4000000 in
set_option maxRecDepth 20000 in
theorem e_X9_readWord {l : Launch} {G : bG} {ρ : Nat → Nat} {A : Nat → Prop} (d : Nat) (x1 : Nat) (hx1 : x1 < bnS) (σ : bSto) (r : Int32) (σ' : bSto) (hF : f_X9_readWord x1 σ = some (r, σ')) : bEv l G bSHf ρ A yX9_readWord cX9_readWord 2 (some .boolean) (d + 6) [.ref 1, .ref (1000 + x1)] σ (some (.int r)) σ' := b_met (d := d + 6) (by decide +kernel) (Nat.le_of_ble_eq_true rfl) rfl (fun X C Rt h1 h2 h3 => e_X9_readWord_0 C ⟨fun o q h => by rw [h1]; exact h, fun i h => by rw [h2]; exact h, h3⟩ Rt _ hx1 _ hF)
/-! BenchColony$Teller.readWhole -/
def f_X9_readWhole_J39  (σ : bSto) : Option (Int32 × bSto) := bbd (f_X9_blame (4 : Int32) σ) (fun v3 σ2 => if v3 = 0 ∨ v3 = 1 then some (v3, σ2) else none)
def f_X9_readWhole (x1 : Int32) (x2 : Int32) (σ : bSto) : Option (Int32 × bSto) := (if (σ.1 2 4) = (2 : Int32) then (if (σ.1 2 6) < x1 then f_X9_readWhole_J39  σ else (if (σ.1 2 6) ≤ x2 then blet (bI σ 1 7 (σ.1 2 6)) (fun σ4 => bbv (f_X8_step  σ4) (fun σ7 => some ((1 : Int32), σ7))) else f_X9_readWhole_J39  σ)) else bbd (f_X9_blame (1 : Int32) σ) (fun v10 σ9 => if v10 = 0 ∨ v10 = 1 then some (v10, σ9) else none))
set_option maxHeartbeats 4000000 in
set_option maxRecDepth 20000 in
theorem e_X9_readWhole_J39 {X : bX} {l : Launch} {G : bG} {ρ : Nat → Nat} {A : Nat → Prop} {d : Nat} {r : Int32} {σ' : bSto} (C : bCX X cX9_readWhole RX9 (d + 2)) (Hh : bH X l G bSHf ρ A 3) (Rt : bRX X (some .boolean) (some (.int r)) σ')  (σ : bSto) (hF : f_X9_readWhole_J39  σ = some (r, σ')) : bAJ X 39 [(0, .ref 1)] [] σ := by
  rw [f_X9_readWhole_J39] at hF
  refine b_aload_n (pc := 39) C dX9_readWhole_39 rfl 0 rfl ?_
  refine b_iconst (pc := 40) C dX9_readWhole_40 ic_4 ?_
  obtain ⟨v3, σ2, hc1, hF⟩ := bbd_e hF
  refine b_cV1i (d' := (d + 1)) (pc := 41) C dX9_readWhole_41 mm_X9_83 (Hh.1 _ _ sh_1) rfl (Nat.le_of_ble_eq_true rfl) (by omega) (Hh.2.2 _ _ _ _ _ _ _ _ _ (lvl_eq (by omega) (e_X9_blame (d + 1) (4 : Int32) _ _ _ hc1))) ?_
  obtain ⟨hz4, hF⟩ := bif_y hF
  exact b_zret (pc := 44) C Rt dX9_readWhole_44 (bz_n hz4) hF
set_option maxHeartbeats 4000000 in
set_option maxRecDepth 20000 in
theorem e_X9_readWhole_0 {X : bX} {l : Launch} {G : bG} {ρ : Nat → Nat} {A : Nat → Prop} {d : Nat} {r : Int32} {σ' : bSto} (C : bCX X cX9_readWhole RX9 (d + 2)) (Hh : bH X l G bSHf ρ A 3) (Rt : bRX X (some .boolean) (some (.int r)) σ') (x1 : Int32) (x2 : Int32) (σ : bSto) (hF : f_X9_readWhole x1 x2 σ = some (r, σ')) : bAJ X 0 [(0, .ref 1), (1, .int x1), (2, .int x2)] [] σ := by
  rw [f_X9_readWhole] at hF
  refine b_aload_n (pc := 0) C dX9_readWhole_0 rfl 0 rfl ?_
  refine b_getS (pc := 1) C dX9_readWhole_1 fl_X9_12 (Hh.1 _ _ sh_1) rfl ?_
  refine b_getI (pc := 4) C dX9_readWhole_4 fl_X9_77 (Hh.1 _ _ sh_2) rfl ?_
  refine b_iconst (pc := 7) C dX9_readWhole_7 ic_2 ?_
  refine b_icmp_eq (tgt := 17) (pc := 8) C dX9_readWhole_8 rfl (fun hc1 => ?_) (fun hc1 => ?_)
  · rw [if_pos hc1] at hF
    refine b_aload_n (pc := 17) C dX9_readWhole_17 rfl 0 rfl ?_
    refine b_getS (pc := 18) C dX9_readWhole_18 fl_X9_12 (Hh.1 _ _ sh_1) rfl ?_
    refine b_getI (pc := 21) C dX9_readWhole_21 fl_X9_230 (Hh.1 _ _ sh_2) rfl ?_
    refine b_iload_n (pc := 24) C dX9_readWhole_24 rfl 1 rfl ?_
    refine b_icmp_lt (tgt := 39) (pc := 25) C dX9_readWhole_25 rfl (fun hc2 => ?_) (fun hc2 => ?_)
    · rw [if_pos hc2] at hF
      exact b_sub [0] rfl (e_X9_readWhole_J39 C Hh Rt  _ hF)
    · rw [if_neg hc2] at hF
      refine b_aload_n (pc := 28) C dX9_readWhole_28 rfl 0 rfl ?_
      refine b_getS (pc := 29) C dX9_readWhole_29 fl_X9_12 (Hh.1 _ _ sh_1) rfl ?_
      refine b_getI (pc := 32) C dX9_readWhole_32 fl_X9_230 (Hh.1 _ _ sh_2) rfl ?_
      refine b_iload_n (pc := 35) C dX9_readWhole_35 rfl 2 rfl ?_
      refine b_icmp_le (tgt := 45) (pc := 36) C dX9_readWhole_36 rfl (fun hc3 => ?_) (fun hc3 => ?_)
      · rw [if_pos hc3] at hF
        refine b_aload_n (pc := 45) C dX9_readWhole_45 rfl 0 rfl ?_
        refine b_aload_n (pc := 46) C dX9_readWhole_46 rfl 0 rfl ?_
        refine b_getS (pc := 47) C dX9_readWhole_47 fl_X9_12 (Hh.1 _ _ sh_1) rfl ?_
        refine b_getI (pc := 50) C dX9_readWhole_50 fl_X9_230 (Hh.1 _ _ sh_2) rfl ?_
        obtain ⟨σ4, e5, hF⟩ := blet_e hF
        refine b_putI (pc := 53) C dX9_readWhole_53 fp_X9_164 (Hh.1 _ _ sh_1) rfl rfl rfl e5 ?_
        refine b_aload_n (pc := 56) C dX9_readWhole_56 rfl 0 rfl ?_
        refine b_getS (pc := 57) C dX9_readWhole_57 fl_X9_12 (Hh.1 _ _ sh_1) rfl ?_
        obtain ⟨σ7, hc6, hF⟩ := bbv_e hF
        refine b_cV0v (d' := (d + 1)) (pc := 60) C dX9_readWhole_60 mm_X9_80 (Hh.1 _ _ sh_2) rfl (Nat.le_of_ble_eq_true rfl) (by omega) (Hh.2.2 _ _ _ _ _ _ _ _ _ (lvl_eq (by omega) (e_X8_step (d + 0)  _ _ hc6))) ?_
        refine b_iconst (pc := 63) C dX9_readWhole_63 ic_1 ?_
        exact b_zret (pc := 64) C Rt dX9_readWhole_64 rfl hF
      · rw [if_neg hc3] at hF
        exact b_sub [0] rfl (e_X9_readWhole_J39 C Hh Rt  _ hF)
  · rw [if_neg hc1] at hF
    refine b_aload_n (pc := 11) C dX9_readWhole_11 rfl 0 rfl ?_
    refine b_iconst (pc := 12) C dX9_readWhole_12 ic_1 ?_
    obtain ⟨v10, σ9, hc8, hF⟩ := bbd_e hF
    refine b_cV1i (d' := (d + 1)) (pc := 13) C dX9_readWhole_13 mm_X9_83 (Hh.1 _ _ sh_1) rfl (Nat.le_of_ble_eq_true rfl) (by omega) (Hh.2.2 _ _ _ _ _ _ _ _ _ (lvl_eq (by omega) (e_X9_blame (d + 1) (1 : Int32) _ _ _ hc8))) ?_
    obtain ⟨hz11, hF⟩ := bif_y hF
    exact b_zret (pc := 16) C Rt dX9_readWhole_16 (bz_n hz11) hF
set_option maxHeartbeats 4000000 in
set_option maxRecDepth 20000 in
theorem e_X9_readWhole {l : Launch} {G : bG} {ρ : Nat → Nat} {A : Nat → Prop} (d : Nat) (x1 : Int32) (x2 : Int32) (σ : bSto) (r : Int32) (σ' : bSto) (hF : f_X9_readWhole x1 x2 σ = some (r, σ')) : bEv l G bSHf ρ A yX9_readWhole cX9_readWhole 3 (some .boolean) (d + 2) [.ref 1, .int x1, .int x2] σ (some (.int r)) σ' := b_met (d := d + 2) (by decide +kernel) (Nat.le_of_ble_eq_true rfl) rfl (fun X C Rt h1 h2 h3 => e_X9_readWhole_0 C ⟨fun o q h => by rw [h1]; exact h, fun i h => by rw [h2]; exact h, h3⟩ Rt _ _ _ hF)
/-! BenchColony$Teller.readRoom -/
def f_X9_readRoom  (σ : bSto) : Option (Int32 × bSto) := if kR (σ.2.2 1 4) then bbd (f_X9_readWord 28 σ) (fun v4 σ3 => (if v4 = 0 then some ((0 : Int32), σ3) else bbd (f_X9_readWhole (1 : Int32) (9 : Int32) σ3) (fun v8 σ7 => (if v8 = 0 then some ((0 : Int32), σ7) else blet (bI σ7 ((σ.2.2 1 4) + 1) 6 (σ7.1 1 7)) (fun σ10 => bbd (f_X9_readWord 24 σ10) (fun v14 σ13 => (if v14 = 0 then some ((0 : Int32), σ13) else bbd (f_X9_readWhole (1 : Int32) (9 : Int32) σ13) (fun v18 σ17 => (if v18 = 0 then some ((0 : Int32), σ17) else blet (bI σ17 ((σ.2.2 1 4) + 1) 7 (σ17.1 1 7)) (fun σ20 => bbd (f_X9_readWord 23 σ20) (fun v24 σ23 => (if v24 = 0 then some ((0 : Int32), σ23) else bbd (f_X9_readWhole (0 : Int32) ((σ23.1 ((σ.2.2 1 4) + 1) 6) - (1 : Int32)) σ23) (fun v28 σ27 => (if v28 = 0 then some ((0 : Int32), σ27) else blet (bI σ27 ((σ.2.2 1 4) + 1) 8 (σ27.1 1 7)) (fun σ30 => bbd (f_X9_readWhole (0 : Int32) ((σ30.1 ((σ.2.2 1 4) + 1) 7) - (1 : Int32)) σ30) (fun v34 σ33 => (if v34 = 0 then some ((0 : Int32), σ33) else blet (bI σ33 ((σ.2.2 1 4) + 1) 9 (σ33.1 1 7)) (fun σ36 => bbd (f_X9_readWord 9 σ36) (fun v40 σ39 => (if v40 = 0 then some ((0 : Int32), σ39) else bbd (f_X9_readWhole (1 : Int32) (60 : Int32) σ39) (fun v44 σ43 => (if v44 = 0 then some ((0 : Int32), σ43) else blet (bI σ43 ((σ.2.2 1 4) + 1) 10 (σ43.1 1 7)) (fun σ46 => bbd (f_X9_readWord 22 σ46) (fun v50 σ49 => (if v50 = 0 then some ((0 : Int32), σ49) else bbd (f_X9_readWhole (0 : Int32) (200 : Int32) σ49) (fun v54 σ53 => (if v54 = 0 then some ((0 : Int32), σ53) else if kR (σ53.2.2 1 4) then blet (bI σ53 ((σ53.2.2 1 4) + 20) 2 (σ53.1 1 7)) (fun σ57 => if kR (σ57.2.2 1 4) then blet (bI σ57 (σ57.2.2 1 4) 4 (1 : Int32)) (fun σ60 => some ((1 : Int32), σ60)) else none) else none))))))))))))))))))))))))))) else none
set_option maxHeartbeats 4000000 in
set_option maxRecDepth 20000 in
theorem e_X9_readRoom_0 {X : bX} {l : Launch} {G : bG} {ρ : Nat → Nat} {A : Nat → Prop} {d : Nat} {r : Int32} {σ' : bSto} (C : bCX X cX9_readRoom RX9 (d + 7)) (Hh : bH X l G bSHf ρ A 2) (Rt : bRX X (some .boolean) (some (.int r)) σ')  (σ : bSto) (hF : f_X9_readRoom  σ = some (r, σ')) : bAJ X 0 [(0, .ref 1)] [] σ := by
  rw [f_X9_readRoom] at hF
  refine b_aload_n (pc := 0) C dX9_readRoom_0 rfl 0 rfl ?_
  obtain ⟨hk1, hF⟩ := bif_y hF
  refine b_getR (pc := 1) C dX9_readRoom_1 fl_X9_31 (Hh.1 _ _ sh_1) rfl ?_
  refine b_getS (pc := 4) C dX9_readRoom_4 fl_X9_87 (Hh.1 _ _ (shR hk1)) rfl ?_
  refine b_astore_n (L' := [(1, .ref ((σ.2.2 1 4) + 1)), (0, .ref 1)]) (pc := 7) C dX9_readRoom_7 rfl rfl (Hh.2.1 _ (Nat.le_of_ble_eq_true rfl)) rfl ?_
  refine b_aload_n (pc := 8) C dX9_readRoom_8 rfl 1 rfl ?_
  refine b_ldcS (pc := 9) C dX9_readRoom_9 "wide" 0 rfl ?_
  obtain ⟨v4, σ3, hc2, hF⟩ := bbd_e hF
  refine b_cV1i (d' := (d + 6)) (pc := 11) C dX9_readRoom_11 mm_X9_156 (Hh.1 _ _ sh_1) rfl (Nat.le_of_ble_eq_true rfl) (by omega) (Hh.2.2 _ _ _ _ _ _ _ _ _ (lvl_eq (by omega) (e_X9_readWord (d + 0) _ (by decide) _ _ _ hc2))) ?_
  refine b_if_eq (tgt := 27) (pc := 14) C dX9_readRoom_14 rfl (fun hc5 => ?_) (fun hc5 => ?_)
  · rw [if_pos hc5] at hF
    refine b_iconst (pc := 27) C dX9_readRoom_27 ic_0 ?_
    exact b_zret (pc := 28) C Rt dX9_readRoom_28 rfl hF
  · rw [if_neg hc5] at hF
    refine b_aload_n (pc := 17) C dX9_readRoom_17 rfl 1 rfl ?_
    refine b_iconst (pc := 18) C dX9_readRoom_18 ic_1 ?_
    refine b_bipush (pc := 19) C dX9_readRoom_19 bp_9 ?_
    obtain ⟨v8, σ7, hc6, hF⟩ := bbd_e hF
    refine b_cV2i (d' := (d + 6)) (pc := 21) C dX9_readRoom_21 mm_X9_160 (Hh.1 _ _ sh_1) rfl (Nat.le_of_ble_eq_true rfl) (by omega) (Hh.2.2 _ _ _ _ _ _ _ _ _ (lvl_eq (by omega) (e_X9_readWhole (d + 4) (1 : Int32) (9 : Int32) _ _ _ hc6))) ?_
    refine b_if_ne (tgt := 29) (pc := 24) C dX9_readRoom_24 rfl (fun hc9 => ?_) (fun hc9 => ?_)
    · rw [if_neg hc9] at hF
      refine b_aload_n (pc := 29) C dX9_readRoom_29 rfl 0 rfl ?_
      refine b_aload_n (pc := 30) C dX9_readRoom_30 rfl 1 rfl ?_
      refine b_getI (pc := 31) C dX9_readRoom_31 fl_X9_164 (Hh.1 _ _ sh_1) rfl ?_
      obtain ⟨σ10, e11, hF⟩ := blet_e hF
      refine b_putI (pc := 34) C dX9_readRoom_34 fp_X9_167 (Hh.1 _ _ (shH (kk_7_0 hk1))) rfl rfl rfl e11 ?_
      refine b_aload_n (pc := 37) C dX9_readRoom_37 rfl 1 rfl ?_
      refine b_ldcS (pc := 38) C dX9_readRoom_38 "tall" 1 rfl ?_
      obtain ⟨v14, σ13, hc12, hF⟩ := bbd_e hF
      refine b_cV1i (d' := (d + 6)) (pc := 40) C dX9_readRoom_40 mm_X9_156 (Hh.1 _ _ sh_1) rfl (Nat.le_of_ble_eq_true rfl) (by omega) (Hh.2.2 _ _ _ _ _ _ _ _ _ (lvl_eq (by omega) (e_X9_readWord (d + 0) _ (by decide) _ _ _ hc12))) ?_
      refine b_if_eq (tgt := 56) (pc := 43) C dX9_readRoom_43 rfl (fun hc15 => ?_) (fun hc15 => ?_)
      · rw [if_pos hc15] at hF
        refine b_iconst (pc := 56) C dX9_readRoom_56 ic_0 ?_
        exact b_zret (pc := 57) C Rt dX9_readRoom_57 rfl hF
      · rw [if_neg hc15] at hF
        refine b_aload_n (pc := 46) C dX9_readRoom_46 rfl 1 rfl ?_
        refine b_iconst (pc := 47) C dX9_readRoom_47 ic_1 ?_
        refine b_bipush (pc := 48) C dX9_readRoom_48 bp_9 ?_
        obtain ⟨v18, σ17, hc16, hF⟩ := bbd_e hF
        refine b_cV2i (d' := (d + 6)) (pc := 50) C dX9_readRoom_50 mm_X9_160 (Hh.1 _ _ sh_1) rfl (Nat.le_of_ble_eq_true rfl) (by omega) (Hh.2.2 _ _ _ _ _ _ _ _ _ (lvl_eq (by omega) (e_X9_readWhole (d + 4) (1 : Int32) (9 : Int32) _ _ _ hc16))) ?_
        refine b_if_ne (tgt := 58) (pc := 53) C dX9_readRoom_53 rfl (fun hc19 => ?_) (fun hc19 => ?_)
        · rw [if_neg hc19] at hF
          refine b_aload_n (pc := 58) C dX9_readRoom_58 rfl 0 rfl ?_
          refine b_aload_n (pc := 59) C dX9_readRoom_59 rfl 1 rfl ?_
          refine b_getI (pc := 60) C dX9_readRoom_60 fl_X9_164 (Hh.1 _ _ sh_1) rfl ?_
          obtain ⟨σ20, e21, hF⟩ := blet_e hF
          refine b_putI (pc := 63) C dX9_readRoom_63 fp_X9_171 (Hh.1 _ _ (shH (kk_7_0 hk1))) rfl rfl rfl e21 ?_
          refine b_aload_n (pc := 66) C dX9_readRoom_66 rfl 1 rfl ?_
          refine b_ldcS (pc := 67) C dX9_readRoom_67 "stove" 2 rfl ?_
          obtain ⟨v24, σ23, hc22, hF⟩ := bbd_e hF
          refine b_cV1i (d' := (d + 6)) (pc := 69) C dX9_readRoom_69 mm_X9_156 (Hh.1 _ _ sh_1) rfl (Nat.le_of_ble_eq_true rfl) (by omega) (Hh.2.2 _ _ _ _ _ _ _ _ _ (lvl_eq (by omega) (e_X9_readWord (d + 0) _ (by decide) _ _ _ hc22))) ?_
          refine b_if_eq (tgt := 89) (pc := 72) C dX9_readRoom_72 rfl (fun hc25 => ?_) (fun hc25 => ?_)
          · rw [if_pos hc25] at hF
            refine b_iconst (pc := 89) C dX9_readRoom_89 ic_0 ?_
            exact b_zret (pc := 90) C Rt dX9_readRoom_90 rfl hF
          · rw [if_neg hc25] at hF
            refine b_aload_n (pc := 75) C dX9_readRoom_75 rfl 1 rfl ?_
            refine b_iconst (pc := 76) C dX9_readRoom_76 ic_0 ?_
            refine b_aload_n (pc := 77) C dX9_readRoom_77 rfl 0 rfl ?_
            refine b_getI (pc := 78) C dX9_readRoom_78 fl_X9_167 (Hh.1 _ _ (shH (kk_7_0 hk1))) rfl ?_
            refine b_iconst (pc := 81) C dX9_readRoom_81 ic_1 ?_
            refine b_isub (pc := 82) C dX9_readRoom_82 ?_
            obtain ⟨v28, σ27, hc26, hF⟩ := bbd_e hF
            refine b_cV2i (d' := (d + 6)) (pc := 83) C dX9_readRoom_83 mm_X9_160 (Hh.1 _ _ sh_1) rfl (Nat.le_of_ble_eq_true rfl) (by omega) (Hh.2.2 _ _ _ _ _ _ _ _ _ (lvl_eq (by omega) (e_X9_readWhole (d + 4) (0 : Int32) ((σ23.1 ((σ.2.2 1 4) + 1) 6) - (1 : Int32)) _ _ _ hc26))) ?_
            refine b_if_ne (tgt := 91) (pc := 86) C dX9_readRoom_86 rfl (fun hc29 => ?_) (fun hc29 => ?_)
            · rw [if_neg hc29] at hF
              refine b_aload_n (pc := 91) C dX9_readRoom_91 rfl 0 rfl ?_
              refine b_aload_n (pc := 92) C dX9_readRoom_92 rfl 1 rfl ?_
              refine b_getI (pc := 93) C dX9_readRoom_93 fl_X9_164 (Hh.1 _ _ sh_1) rfl ?_
              obtain ⟨σ30, e31, hF⟩ := blet_e hF
              refine b_putI (pc := 96) C dX9_readRoom_96 fp_X9_175 (Hh.1 _ _ (shH (kk_7_0 hk1))) rfl rfl rfl e31 ?_
              refine b_aload_n (pc := 99) C dX9_readRoom_99 rfl 1 rfl ?_
              refine b_iconst (pc := 100) C dX9_readRoom_100 ic_0 ?_
              refine b_aload_n (pc := 101) C dX9_readRoom_101 rfl 0 rfl ?_
              refine b_getI (pc := 102) C dX9_readRoom_102 fl_X9_171 (Hh.1 _ _ (shH (kk_7_0 hk1))) rfl ?_
              refine b_iconst (pc := 105) C dX9_readRoom_105 ic_1 ?_
              refine b_isub (pc := 106) C dX9_readRoom_106 ?_
              obtain ⟨v34, σ33, hc32, hF⟩ := bbd_e hF
              refine b_cV2i (d' := (d + 6)) (pc := 107) C dX9_readRoom_107 mm_X9_160 (Hh.1 _ _ sh_1) rfl (Nat.le_of_ble_eq_true rfl) (by omega) (Hh.2.2 _ _ _ _ _ _ _ _ _ (lvl_eq (by omega) (e_X9_readWhole (d + 4) (0 : Int32) ((σ30.1 ((σ.2.2 1 4) + 1) 7) - (1 : Int32)) _ _ _ hc32))) ?_
              refine b_if_ne (tgt := 115) (pc := 110) C dX9_readRoom_110 rfl (fun hc35 => ?_) (fun hc35 => ?_)
              · rw [if_neg hc35] at hF
                refine b_aload_n (pc := 115) C dX9_readRoom_115 rfl 0 rfl ?_
                refine b_aload_n (pc := 116) C dX9_readRoom_116 rfl 1 rfl ?_
                refine b_getI (pc := 117) C dX9_readRoom_117 fl_X9_164 (Hh.1 _ _ sh_1) rfl ?_
                obtain ⟨σ36, e37, hF⟩ := blet_e hF
                refine b_putI (pc := 120) C dX9_readRoom_120 fp_X9_178 (Hh.1 _ _ (shH (kk_7_0 hk1))) rfl rfl rfl e37 ?_
                refine b_aload_n (pc := 123) C dX9_readRoom_123 rfl 1 rfl ?_
                refine b_ldcS (pc := 124) C dX9_readRoom_124 "heat" 3 rfl ?_
                obtain ⟨v40, σ39, hc38, hF⟩ := bbd_e hF
                refine b_cV1i (d' := (d + 6)) (pc := 126) C dX9_readRoom_126 mm_X9_156 (Hh.1 _ _ sh_1) rfl (Nat.le_of_ble_eq_true rfl) (by omega) (Hh.2.2 _ _ _ _ _ _ _ _ _ (lvl_eq (by omega) (e_X9_readWord (d + 0) _ (by decide) _ _ _ hc38))) ?_
                refine b_if_eq (tgt := 142) (pc := 129) C dX9_readRoom_129 rfl (fun hc41 => ?_) (fun hc41 => ?_)
                · rw [if_pos hc41] at hF
                  refine b_iconst (pc := 142) C dX9_readRoom_142 ic_0 ?_
                  exact b_zret (pc := 143) C Rt dX9_readRoom_143 rfl hF
                · rw [if_neg hc41] at hF
                  refine b_aload_n (pc := 132) C dX9_readRoom_132 rfl 1 rfl ?_
                  refine b_iconst (pc := 133) C dX9_readRoom_133 ic_1 ?_
                  refine b_bipush (pc := 134) C dX9_readRoom_134 bp_60 ?_
                  obtain ⟨v44, σ43, hc42, hF⟩ := bbd_e hF
                  refine b_cV2i (d' := (d + 6)) (pc := 136) C dX9_readRoom_136 mm_X9_160 (Hh.1 _ _ sh_1) rfl (Nat.le_of_ble_eq_true rfl) (by omega) (Hh.2.2 _ _ _ _ _ _ _ _ _ (lvl_eq (by omega) (e_X9_readWhole (d + 4) (1 : Int32) (60 : Int32) _ _ _ hc42))) ?_
                  refine b_if_ne (tgt := 144) (pc := 139) C dX9_readRoom_139 rfl (fun hc45 => ?_) (fun hc45 => ?_)
                  · rw [if_neg hc45] at hF
                    refine b_aload_n (pc := 144) C dX9_readRoom_144 rfl 0 rfl ?_
                    refine b_aload_n (pc := 145) C dX9_readRoom_145 rfl 1 rfl ?_
                    refine b_getI (pc := 146) C dX9_readRoom_146 fl_X9_164 (Hh.1 _ _ sh_1) rfl ?_
                    obtain ⟨σ46, e47, hF⟩ := blet_e hF
                    refine b_putI (pc := 149) C dX9_readRoom_149 fp_X9_183 (Hh.1 _ _ (shH (kk_7_0 hk1))) rfl rfl rfl e47 ?_
                    refine b_aload_n (pc := 152) C dX9_readRoom_152 rfl 1 rfl ?_
                    refine b_ldcS (pc := 153) C dX9_readRoom_153 "stock" 4 rfl ?_
                    obtain ⟨v50, σ49, hc48, hF⟩ := bbd_e hF
                    refine b_cV1i (d' := (d + 6)) (pc := 155) C dX9_readRoom_155 mm_X9_156 (Hh.1 _ _ sh_1) rfl (Nat.le_of_ble_eq_true rfl) (by omega) (Hh.2.2 _ _ _ _ _ _ _ _ _ (lvl_eq (by omega) (e_X9_readWord (d + 0) _ (by decide) _ _ _ hc48))) ?_
                    refine b_if_eq (tgt := 172) (pc := 158) C dX9_readRoom_158 rfl (fun hc51 => ?_) (fun hc51 => ?_)
                    · rw [if_pos hc51] at hF
                      refine b_iconst (pc := 172) C dX9_readRoom_172 ic_0 ?_
                      exact b_zret (pc := 173) C Rt dX9_readRoom_173 rfl hF
                    · rw [if_neg hc51] at hF
                      refine b_aload_n (pc := 161) C dX9_readRoom_161 rfl 1 rfl ?_
                      refine b_iconst (pc := 162) C dX9_readRoom_162 ic_0 ?_
                      refine b_sipush (pc := 163) C dX9_readRoom_163 sp_200 ?_
                      obtain ⟨v54, σ53, hc52, hF⟩ := bbd_e hF
                      refine b_cV2i (d' := (d + 6)) (pc := 166) C dX9_readRoom_166 mm_X9_160 (Hh.1 _ _ sh_1) rfl (Nat.le_of_ble_eq_true rfl) (by omega) (Hh.2.2 _ _ _ _ _ _ _ _ _ (lvl_eq (by omega) (e_X9_readWhole (d + 4) (0 : Int32) (200 : Int32) _ _ _ hc52))) ?_
                      refine b_if_ne (tgt := 174) (pc := 169) C dX9_readRoom_169 rfl (fun hc55 => ?_) (fun hc55 => ?_)
                      · rw [if_neg hc55] at hF
                        refine b_aload_n (pc := 174) C dX9_readRoom_174 rfl 1 rfl ?_
                        obtain ⟨hk56, hF⟩ := bif_y hF
                        refine b_getR (pc := 175) C dX9_readRoom_175 fl_X9_31 (Hh.1 _ _ sh_1) rfl ?_
                        refine b_getS (pc := 178) C dX9_readRoom_178 fl_X9_187 (Hh.1 _ _ (shR hk56)) rfl ?_
                        refine b_aload_n (pc := 181) C dX9_readRoom_181 rfl 1 rfl ?_
                        refine b_getI (pc := 182) C dX9_readRoom_182 fl_X9_164 (Hh.1 _ _ sh_1) rfl ?_
                        obtain ⟨σ57, e58, hF⟩ := blet_e hF
                        refine b_putI (pc := 185) C dX9_readRoom_185 fp_X9_191 (Hh.1 _ _ (shN (kk_7_3 hk56))) rfl rfl rfl e58 ?_
                        refine b_aload_n (pc := 188) C dX9_readRoom_188 rfl 1 rfl ?_
                        obtain ⟨hk59, hF⟩ := bif_y hF
                        refine b_getR (pc := 189) C dX9_readRoom_189 fl_X9_31 (Hh.1 _ _ sh_1) rfl ?_
                        refine b_iconst (pc := 192) C dX9_readRoom_192 ic_1 ?_
                        obtain ⟨σ60, e61, hF⟩ := blet_e hF
                        refine b_putI (pc := 193) C dX9_readRoom_193 fp_X9_103 (Hh.1 _ _ (shR hk59)) rfl rfl rfl e61 ?_
                        refine b_iconst (pc := 196) C dX9_readRoom_196 ic_1 ?_
                        exact b_zret (pc := 197) C Rt dX9_readRoom_197 rfl hF
                      · rw [if_pos hc55] at hF
                        refine b_iconst (pc := 172) C dX9_readRoom_172 ic_0 ?_
                        exact b_zret (pc := 173) C Rt dX9_readRoom_173 rfl hF
                  · rw [if_pos hc45] at hF
                    refine b_iconst (pc := 142) C dX9_readRoom_142 ic_0 ?_
                    exact b_zret (pc := 143) C Rt dX9_readRoom_143 rfl hF
              · rw [if_pos hc35] at hF
                refine b_iconst (pc := 113) C dX9_readRoom_113 ic_0 ?_
                exact b_zret (pc := 114) C Rt dX9_readRoom_114 rfl hF
            · rw [if_pos hc29] at hF
              refine b_iconst (pc := 89) C dX9_readRoom_89 ic_0 ?_
              exact b_zret (pc := 90) C Rt dX9_readRoom_90 rfl hF
        · rw [if_pos hc19] at hF
          refine b_iconst (pc := 56) C dX9_readRoom_56 ic_0 ?_
          exact b_zret (pc := 57) C Rt dX9_readRoom_57 rfl hF
    · rw [if_pos hc9] at hF
      refine b_iconst (pc := 27) C dX9_readRoom_27 ic_0 ?_
      exact b_zret (pc := 28) C Rt dX9_readRoom_28 rfl hF
set_option maxHeartbeats 4000000 in
set_option maxRecDepth 20000 in
theorem e_X9_readRoom {l : Launch} {G : bG} {ρ : Nat → Nat} {A : Nat → Prop} (d : Nat)  (σ : bSto) (r : Int32) (σ' : bSto) (hF : f_X9_readRoom  σ = some (r, σ')) : bEv l G bSHf ρ A yX9_readRoom cX9_readRoom 2 (some .boolean) (d + 7) [.ref 1] σ (some (.int r)) σ' := b_met (d := d + 7) (by decide +kernel) (Nat.le_of_ble_eq_true rfl) rfl (fun X C Rt h1 h2 h3 => e_X9_readRoom_0 C ⟨fun o q h => by rw [h1]; exact h, fun i h => by rw [h2]; exact h, h3⟩ Rt  _ hF)
/-! BenchColony$Teller.isName -/
def f_X9_isName_J23  (σ : bSto) : Option (Int32 × bSto) := some ((0 : Int32), σ)
def f_X9_isName  (σ : bSto) : Option (Int32 × bSto) := (if (σ.1 2 4) = (1 : Int32) then bbd (f_X9_keptWord  σ) (fun v4 σ3 => (if v4 = (-1 : Int32) then some ((1 : Int32), σ3) else f_X9_isName_J23  σ3)) else f_X9_isName_J23  σ)
set_option maxHeartbeats 4000000 in
set_option maxRecDepth 20000 in
theorem e_X9_isName_J23 {X : bX} {l : Launch} {G : bG} {ρ : Nat → Nat} {A : Nat → Prop} {d : Nat} {r : Int32} {σ' : bSto} (C : bCX X cX9_isName RX9 (d + 2)) (Hh : bH X l G bSHf ρ A 1) (Rt : bRX X (some .boolean) (some (.int r)) σ')  (σ : bSto) (hF : f_X9_isName_J23  σ = some (r, σ')) : bAJ X 23 [] [] σ := by
  rw [f_X9_isName_J23] at hF
  refine b_iconst (pc := 23) C dX9_isName_23 ic_0 ?_
  exact b_zret (pc := 24) C Rt dX9_isName_24 rfl hF
set_option maxHeartbeats 4000000 in
set_option maxRecDepth 20000 in
theorem e_X9_isName_0 {X : bX} {l : Launch} {G : bG} {ρ : Nat → Nat} {A : Nat → Prop} {d : Nat} {r : Int32} {σ' : bSto} (C : bCX X cX9_isName RX9 (d + 2)) (Hh : bH X l G bSHf ρ A 1) (Rt : bRX X (some .boolean) (some (.int r)) σ')  (σ : bSto) (hF : f_X9_isName  σ = some (r, σ')) : bAJ X 0 [(0, .ref 1)] [] σ := by
  rw [f_X9_isName] at hF
  refine b_aload_n (pc := 0) C dX9_isName_0 rfl 0 rfl ?_
  refine b_getS (pc := 1) C dX9_isName_1 fl_X9_12 (Hh.1 _ _ sh_1) rfl ?_
  refine b_getI (pc := 4) C dX9_isName_4 fl_X9_77 (Hh.1 _ _ sh_2) rfl ?_
  refine b_iconst (pc := 7) C dX9_isName_7 ic_1 ?_
  refine b_icmp_ne (tgt := 23) (pc := 8) C dX9_isName_8 rfl (fun hc1 => ?_) (fun hc1 => ?_)
  · rw [if_neg hc1] at hF
    exact b_sub [] rfl (e_X9_isName_J23 C Hh Rt  _ hF)
  · rw [if_pos hc1] at hF
    refine b_aload_n (pc := 11) C dX9_isName_11 rfl 0 rfl ?_
    obtain ⟨v4, σ3, hc2, hF⟩ := bbd_e hF
    refine b_cV0i (d' := (d + 1)) (pc := 12) C dX9_isName_12 mm_X9_99 (Hh.1 _ _ sh_1) rfl (Nat.le_of_ble_eq_true rfl) (by omega) (Hh.2.2 _ _ _ _ _ _ _ _ _ (lvl_eq (by omega) (e_X9_keptWord (d + 0)  _ _ _ hc2))) ?_
    refine b_iconst (pc := 15) C dX9_isName_15 ic_m1 ?_
    refine b_icmp_ne (tgt := 23) (pc := 16) C dX9_isName_16 rfl (fun hc5 => ?_) (fun hc5 => ?_)
    · rw [if_neg hc5] at hF
      exact b_sub [] rfl (e_X9_isName_J23 C Hh Rt  _ hF)
    · rw [if_pos hc5] at hF
      refine b_iconst (pc := 19) C dX9_isName_19 ic_1 ?_
      refine b_goto (tgt := 24) (pc := 20) C dX9_isName_20 rfl ?_
      exact b_zret (pc := 24) C Rt dX9_isName_24 rfl hF
set_option maxHeartbeats 4000000 in
set_option maxRecDepth 20000 in
theorem e_X9_isName {l : Launch} {G : bG} {ρ : Nat → Nat} {A : Nat → Prop} (d : Nat)  (σ : bSto) (r : Int32) (σ' : bSto) (hF : f_X9_isName  σ = some (r, σ')) : bEv l G bSHf ρ A yX9_isName cX9_isName 1 (some .boolean) (d + 2) [.ref 1] σ (some (.int r)) σ' := b_met (d := d + 2) (by decide +kernel) (Nat.le_of_ble_eq_true rfl) rfl (fun X C Rt h1 h2 h3 => e_X9_isName_0 C ⟨fun o q h => by rw [h1]; exact h, fun i h => by rw [h2]; exact h, h3⟩ Rt  _ hF)
/-! BenchColony$Teller.readNewName -/
def f_X9_readNewName_J69  (σ : bSto) : Option (Int32 × bSto) := bbd (f_X9_blame (3 : Int32) σ) (fun v3 σ2 => if v3 = 0 ∨ v3 = 1 then some (v3, σ2) else none)
def f_X9_readNewName  (σ : bSto) : Option (Int32 × bSto) := bbd (f_X9_isName  σ) (fun v3 σ2 => (if v3 = 0 then bbd (f_X9_blame (1 : Int32) σ2) (fun v19 σ18 => if v19 = 0 ∨ v19 = 1 then some (v19, σ18) else none) else if kR (σ2.2.2 1 4) then bbd (f_X9_indexOf 5 (σ2.1 ((σ2.2.2 1 4) + 1) 5) (σ2.2.1 2 7) σ2) (fun v8 σ7 => (if v8 = (-1 : Int32) then if kR (σ7.2.2 1 4) then bbd (f_X9_indexOf 6 (σ7.1 ((σ7.2.2 1 4) + 7) 7) (σ7.2.1 2 7) σ7) (fun v13 σ12 => (if v13 = (-1 : Int32) then bbv (f_X8_step  σ12) (fun σ16 => some ((1 : Int32), σ16)) else f_X9_readNewName_J69  σ12)) else none else f_X9_readNewName_J69  σ7)) else none))
set_option maxHeartbeats 4000000 in
set_option maxRecDepth 20000 in
theorem e_X9_readNewName_J69 {X : bX} {l : Launch} {G : bG} {ρ : Nat → Nat} {A : Nat → Prop} {d : Nat} {r : Int32} {σ' : bSto} (C : bCX X cX9_readNewName RX9 (d + 3)) (Hh : bH X l G bSHf ρ A 1) (Rt : bRX X (some .boolean) (some (.int r)) σ')  (σ : bSto) (hF : f_X9_readNewName_J69  σ = some (r, σ')) : bAJ X 69 [(0, .ref 1)] [] σ := by
  rw [f_X9_readNewName_J69] at hF
  refine b_aload_n (pc := 69) C dX9_readNewName_69 rfl 0 rfl ?_
  refine b_iconst (pc := 70) C dX9_readNewName_70 ic_3 ?_
  obtain ⟨v3, σ2, hc1, hF⟩ := bbd_e hF
  refine b_cV1i (d' := (d + 2)) (pc := 71) C dX9_readNewName_71 mm_X9_83 (Hh.1 _ _ sh_1) rfl (Nat.le_of_ble_eq_true rfl) (by omega) (Hh.2.2 _ _ _ _ _ _ _ _ _ (lvl_eq (by omega) (e_X9_blame (d + 2) (3 : Int32) _ _ _ hc1))) ?_
  obtain ⟨hz4, hF⟩ := bif_y hF
  exact b_zret (pc := 74) C Rt dX9_readNewName_74 (bz_n hz4) hF
set_option maxHeartbeats 4000000 in
set_option maxRecDepth 20000 in
theorem e_X9_readNewName_0 {X : bX} {l : Launch} {G : bG} {ρ : Nat → Nat} {A : Nat → Prop} {d : Nat} {r : Int32} {σ' : bSto} (C : bCX X cX9_readNewName RX9 (d + 3)) (Hh : bH X l G bSHf ρ A 1) (Rt : bRX X (some .boolean) (some (.int r)) σ')  (σ : bSto) (hF : f_X9_readNewName  σ = some (r, σ')) : bAJ X 0 [(0, .ref 1)] [] σ := by
  rw [f_X9_readNewName] at hF
  refine b_aload_n (pc := 0) C dX9_readNewName_0 rfl 0 rfl ?_
  obtain ⟨v3, σ2, hc1, hF⟩ := bbd_e hF
  refine b_cV0i (d' := (d + 2)) (pc := 1) C dX9_readNewName_1 mm_X9_261 (Hh.1 _ _ sh_1) rfl (Nat.le_of_ble_eq_true rfl) (by omega) (Hh.2.2 _ _ _ _ _ _ _ _ _ (lvl_eq (by omega) (e_X9_isName (d + 0)  _ _ _ hc1))) ?_
  refine b_if_ne (tgt := 13) (pc := 4) C dX9_readNewName_4 rfl (fun hc4 => ?_) (fun hc4 => ?_)
  · rw [if_neg hc4] at hF
    refine b_aload_n (pc := 13) C dX9_readNewName_13 rfl 0 rfl ?_
    refine b_getS (pc := 14) C dX9_readNewName_14 fl_X9_22 (Hh.1 _ _ sh_1) rfl ?_
    refine b_aload_n (pc := 17) C dX9_readNewName_17 rfl 0 rfl ?_
    obtain ⟨hk5, hF⟩ := bif_y hF
    refine b_getR (pc := 18) C dX9_readNewName_18 fl_X9_31 (Hh.1 _ _ sh_1) rfl ?_
    refine b_getS (pc := 21) C dX9_readNewName_21 fl_X9_87 (Hh.1 _ _ (shR hk5)) rfl ?_
    refine b_getI (pc := 24) C dX9_readNewName_24 fl_X9_91 (Hh.1 _ _ (shH (kk_7_0 hk5))) rfl ?_
    refine b_aload_n (pc := 27) C dX9_readNewName_27 rfl 0 rfl ?_
    refine b_getS (pc := 28) C dX9_readNewName_28 fl_X9_12 (Hh.1 _ _ sh_1) rfl ?_
    refine b_getJ (pc := 31) C dX9_readNewName_31 fl_X9_196 (Hh.1 _ _ sh_2) rfl ?_
    obtain ⟨v8, σ7, hc6, hF⟩ := bbd_e hF
    refine b_cS3i (d' := (d + 2)) (pc := 34) C dX9_readNewName_34 mm_X9_264 (Nat.le_of_ble_eq_true rfl) (by omega) (Hh.2.2 _ _ _ _ _ _ _ _ _ (lvl_eq (by omega) (e_X9_indexOf (d + 2) _ (show kJA 5 from sh_5) (σ2.1 ((σ2.2.2 1 4) + 1) 5) (σ2.2.1 2 7) _ _ _ hc6))) ?_
    refine b_iconst (pc := 37) C dX9_readNewName_37 ic_m1 ?_
    refine b_icmp_ne (tgt := 69) (pc := 38) C dX9_readNewName_38 rfl (fun hc9 => ?_) (fun hc9 => ?_)
    · rw [if_neg hc9] at hF
      exact b_sub [0] rfl (e_X9_readNewName_J69 C Hh Rt  _ hF)
    · rw [if_pos hc9] at hF
      refine b_aload_n (pc := 41) C dX9_readNewName_41 rfl 0 rfl ?_
      refine b_getS (pc := 42) C dX9_readNewName_42 fl_X9_25 (Hh.1 _ _ sh_1) rfl ?_
      refine b_aload_n (pc := 45) C dX9_readNewName_45 rfl 0 rfl ?_
      obtain ⟨hk10, hF⟩ := bif_y hF
      refine b_getR (pc := 46) C dX9_readNewName_46 fl_X9_31 (Hh.1 _ _ sh_1) rfl ?_
      refine b_getS (pc := 49) C dX9_readNewName_49 fl_X9_132 (Hh.1 _ _ (shR hk10)) rfl ?_
      refine b_getI (pc := 52) C dX9_readNewName_52 fl_X9_136 (Hh.1 _ _ (shF (kk_7_1 hk10))) rfl ?_
      refine b_aload_n (pc := 55) C dX9_readNewName_55 rfl 0 rfl ?_
      refine b_getS (pc := 56) C dX9_readNewName_56 fl_X9_12 (Hh.1 _ _ sh_1) rfl ?_
      refine b_getJ (pc := 59) C dX9_readNewName_59 fl_X9_196 (Hh.1 _ _ sh_2) rfl ?_
      obtain ⟨v13, σ12, hc11, hF⟩ := bbd_e hF
      refine b_cS3i (d' := (d + 2)) (pc := 62) C dX9_readNewName_62 mm_X9_264 (Nat.le_of_ble_eq_true rfl) (by omega) (Hh.2.2 _ _ _ _ _ _ _ _ _ (lvl_eq (by omega) (e_X9_indexOf (d + 2) _ (show kJA 6 from sh_6) (σ7.1 ((σ7.2.2 1 4) + 7) 7) (σ7.2.1 2 7) _ _ _ hc11))) ?_
      refine b_iconst (pc := 65) C dX9_readNewName_65 ic_m1 ?_
      refine b_icmp_eq (tgt := 75) (pc := 66) C dX9_readNewName_66 rfl (fun hc14 => ?_) (fun hc14 => ?_)
      · rw [if_pos hc14] at hF
        refine b_aload_n (pc := 75) C dX9_readNewName_75 rfl 0 rfl ?_
        refine b_getS (pc := 76) C dX9_readNewName_76 fl_X9_12 (Hh.1 _ _ sh_1) rfl ?_
        obtain ⟨σ16, hc15, hF⟩ := bbv_e hF
        refine b_cV0v (d' := (d + 2)) (pc := 79) C dX9_readNewName_79 mm_X9_80 (Hh.1 _ _ sh_2) rfl (Nat.le_of_ble_eq_true rfl) (by omega) (Hh.2.2 _ _ _ _ _ _ _ _ _ (lvl_eq (by omega) (e_X8_step (d + 1)  _ _ hc15))) ?_
        refine b_iconst (pc := 82) C dX9_readNewName_82 ic_1 ?_
        exact b_zret (pc := 83) C Rt dX9_readNewName_83 rfl hF
      · rw [if_neg hc14] at hF
        exact b_sub [0] rfl (e_X9_readNewName_J69 C Hh Rt  _ hF)
  · rw [if_pos hc4] at hF
    refine b_aload_n (pc := 7) C dX9_readNewName_7 rfl 0 rfl ?_
    refine b_iconst (pc := 8) C dX9_readNewName_8 ic_1 ?_
    obtain ⟨v19, σ18, hc17, hF⟩ := bbd_e hF
    refine b_cV1i (d' := (d + 2)) (pc := 9) C dX9_readNewName_9 mm_X9_83 (Hh.1 _ _ sh_1) rfl (Nat.le_of_ble_eq_true rfl) (by omega) (Hh.2.2 _ _ _ _ _ _ _ _ _ (lvl_eq (by omega) (e_X9_blame (d + 2) (1 : Int32) _ _ _ hc17))) ?_
    obtain ⟨hz20, hF⟩ := bif_y hF
    exact b_zret (pc := 12) C Rt dX9_readNewName_12 (bz_n hz20) hF
set_option maxHeartbeats 4000000 in
set_option maxRecDepth 20000 in
theorem e_X9_readNewName {l : Launch} {G : bG} {ρ : Nat → Nat} {A : Nat → Prop} (d : Nat)  (σ : bSto) (r : Int32) (σ' : bSto) (hF : f_X9_readNewName  σ = some (r, σ')) : bEv l G bSHf ρ A yX9_readNewName cX9_readNewName 1 (some .boolean) (d + 3) [.ref 1] σ (some (.int r)) σ' := b_met (d := d + 3) (by decide +kernel) (Nat.le_of_ble_eq_true rfl) rfl (fun X C Rt h1 h2 h3 => e_X9_readNewName_0 C ⟨fun o q h => by rw [h1]; exact h, fun i h => by rw [h2]; exact h, h3⟩ Rt  _ hF)
/-! BenchColony$Teller.readSort -/
def f_X9_readSort_J69  (σ : bSto) : Option (Int32 × bSto) := bbv (f_X8_step  σ) (fun σ2 => some ((1 : Int32), σ2))
def f_X9_readSort  (σ : bSto) : Option (Int32 × bSto) := bbd (f_X8_is 15 σ) (fun v3 σ2 => (if v3 = 0 then bbd (f_X8_is 26 σ2) (fun v7 σ6 => (if v7 = 0 then bbd (f_X8_is 11 σ6) (fun v11 σ10 => (if v11 = 0 then bbd (f_X9_blame (1 : Int32) σ10) (fun v15 σ14 => if v15 = 0 ∨ v15 = 1 then some (v15, σ14) else none) else blet (bI σ10 1 7 (2 : Int32)) (fun σ17 => f_X9_readSort_J69  σ17))) else blet (bI σ6 1 7 (1 : Int32)) (fun σ19 => f_X9_readSort_J69  σ19))) else blet (bI σ2 1 7 (0 : Int32)) (fun σ21 => f_X9_readSort_J69  σ21)))
set_option maxHeartbeats 4000000 in
set_option maxRecDepth 20000 in
theorem e_X9_readSort_J69 {X : bX} {l : Launch} {G : bG} {ρ : Nat → Nat} {A : Nat → Prop} {d : Nat} {r : Int32} {σ' : bSto} (C : bCX X cX9_readSort RX9 (d + 6)) (Hh : bH X l G bSHf ρ A 1) (Rt : bRX X (some .boolean) (some (.int r)) σ')  (σ : bSto) (hF : f_X9_readSort_J69  σ = some (r, σ')) : bAJ X 69 [(0, .ref 1)] [] σ := by
  rw [f_X9_readSort_J69] at hF
  refine b_aload_n (pc := 69) C dX9_readSort_69 rfl 0 rfl ?_
  refine b_getS (pc := 70) C dX9_readSort_70 fl_X9_12 (Hh.1 _ _ sh_1) rfl ?_
  obtain ⟨σ2, hc1, hF⟩ := bbv_e hF
  refine b_cV0v (d' := (d + 5)) (pc := 73) C dX9_readSort_73 mm_X9_80 (Hh.1 _ _ sh_2) rfl (Nat.le_of_ble_eq_true rfl) (by omega) (Hh.2.2 _ _ _ _ _ _ _ _ _ (lvl_eq (by omega) (e_X8_step (d + 4)  _ _ hc1))) ?_
  refine b_iconst (pc := 76) C dX9_readSort_76 ic_1 ?_
  exact b_zret (pc := 77) C Rt dX9_readSort_77 rfl hF
set_option maxHeartbeats 4000000 in
set_option maxRecDepth 20000 in
theorem e_X9_readSort_0 {X : bX} {l : Launch} {G : bG} {ρ : Nat → Nat} {A : Nat → Prop} {d : Nat} {r : Int32} {σ' : bSto} (C : bCX X cX9_readSort RX9 (d + 6)) (Hh : bH X l G bSHf ρ A 1) (Rt : bRX X (some .boolean) (some (.int r)) σ')  (σ : bSto) (hF : f_X9_readSort  σ = some (r, σ')) : bAJ X 0 [(0, .ref 1)] [] σ := by
  rw [f_X9_readSort] at hF
  refine b_aload_n (pc := 0) C dX9_readSort_0 rfl 0 rfl ?_
  refine b_getS (pc := 1) C dX9_readSort_1 fl_X9_12 (Hh.1 _ _ sh_1) rfl ?_
  refine b_ldcSw (pc := 4) C dX9_readSort_4 "open" 11 rfl ?_
  obtain ⟨v3, σ2, hc1, hF⟩ := bbd_e hF
  refine b_cV1i (d' := (d + 5)) (pc := 7) C dX9_readSort_7 mm_X9_252 (Hh.1 _ _ sh_2) rfl (Nat.le_of_ble_eq_true rfl) (by omega) (Hh.2.2 _ _ _ _ _ _ _ _ _ (lvl_eq (by omega) (e_X8_is (d + 0) _ (by decide) _ _ _ hc1))) ?_
  refine b_if_eq (tgt := 21) (pc := 10) C dX9_readSort_10 rfl (fun hc4 => ?_) (fun hc4 => ?_)
  · rw [if_pos hc4] at hF
    refine b_aload_n (pc := 21) C dX9_readSort_21 rfl 0 rfl ?_
    refine b_getS (pc := 22) C dX9_readSort_22 fl_X9_12 (Hh.1 _ _ sh_1) rfl ?_
    refine b_ldcSw (pc := 25) C dX9_readSort_25 "uppe\x72" 12 rfl ?_
    obtain ⟨v7, σ6, hc5, hF⟩ := bbd_e hF
    refine b_cV1i (d' := (d + 5)) (pc := 28) C dX9_readSort_28 mm_X9_252 (Hh.1 _ _ sh_2) rfl (Nat.le_of_ble_eq_true rfl) (by omega) (Hh.2.2 _ _ _ _ _ _ _ _ _ (lvl_eq (by omega) (e_X8_is (d + 0) _ (by decide) _ _ _ hc5))) ?_
    refine b_if_eq (tgt := 42) (pc := 31) C dX9_readSort_31 rfl (fun hc8 => ?_) (fun hc8 => ?_)
    · rw [if_pos hc8] at hF
      refine b_aload_n (pc := 42) C dX9_readSort_42 rfl 0 rfl ?_
      refine b_getS (pc := 43) C dX9_readSort_43 fl_X9_12 (Hh.1 _ _ sh_1) rfl ?_
      refine b_ldcSw (pc := 46) C dX9_readSort_46 "island" 13 rfl ?_
      obtain ⟨v11, σ10, hc9, hF⟩ := bbd_e hF
      refine b_cV1i (d' := (d + 5)) (pc := 49) C dX9_readSort_49 mm_X9_252 (Hh.1 _ _ sh_2) rfl (Nat.le_of_ble_eq_true rfl) (by omega) (Hh.2.2 _ _ _ _ _ _ _ _ _ (lvl_eq (by omega) (e_X8_is (d + 0) _ (by decide) _ _ _ hc9))) ?_
      refine b_if_eq (tgt := 63) (pc := 52) C dX9_readSort_52 rfl (fun hc12 => ?_) (fun hc12 => ?_)
      · rw [if_pos hc12] at hF
        refine b_aload_n (pc := 63) C dX9_readSort_63 rfl 0 rfl ?_
        refine b_iconst (pc := 64) C dX9_readSort_64 ic_1 ?_
        obtain ⟨v15, σ14, hc13, hF⟩ := bbd_e hF
        refine b_cV1i (d' := (d + 5)) (pc := 65) C dX9_readSort_65 mm_X9_83 (Hh.1 _ _ sh_1) rfl (Nat.le_of_ble_eq_true rfl) (by omega) (Hh.2.2 _ _ _ _ _ _ _ _ _ (lvl_eq (by omega) (e_X9_blame (d + 5) (1 : Int32) _ _ _ hc13))) ?_
        obtain ⟨hz16, hF⟩ := bif_y hF
        exact b_zret (pc := 68) C Rt dX9_readSort_68 (bz_n hz16) hF
      · rw [if_neg hc12] at hF
        refine b_aload_n (pc := 55) C dX9_readSort_55 rfl 0 rfl ?_
        refine b_iconst (pc := 56) C dX9_readSort_56 ic_2 ?_
        obtain ⟨σ17, e18, hF⟩ := blet_e hF
        refine b_putI (pc := 57) C dX9_readSort_57 fp_X9_164 (Hh.1 _ _ sh_1) rfl rfl rfl e18 ?_
        refine b_goto (tgt := 69) (pc := 60) C dX9_readSort_60 rfl ?_
        exact b_sub [0] rfl (e_X9_readSort_J69 C Hh Rt  _ hF)
    · rw [if_neg hc8] at hF
      refine b_aload_n (pc := 34) C dX9_readSort_34 rfl 0 rfl ?_
      refine b_iconst (pc := 35) C dX9_readSort_35 ic_1 ?_
      obtain ⟨σ19, e20, hF⟩ := blet_e hF
      refine b_putI (pc := 36) C dX9_readSort_36 fp_X9_164 (Hh.1 _ _ sh_1) rfl rfl rfl e20 ?_
      refine b_goto (tgt := 69) (pc := 39) C dX9_readSort_39 rfl ?_
      exact b_sub [0] rfl (e_X9_readSort_J69 C Hh Rt  _ hF)
  · rw [if_neg hc4] at hF
    refine b_aload_n (pc := 13) C dX9_readSort_13 rfl 0 rfl ?_
    refine b_iconst (pc := 14) C dX9_readSort_14 ic_0 ?_
    obtain ⟨σ21, e22, hF⟩ := blet_e hF
    refine b_putI (pc := 15) C dX9_readSort_15 fp_X9_164 (Hh.1 _ _ sh_1) rfl rfl rfl e22 ?_
    refine b_goto (tgt := 69) (pc := 18) C dX9_readSort_18 rfl ?_
    exact b_sub [0] rfl (e_X9_readSort_J69 C Hh Rt  _ hF)
set_option maxHeartbeats 4000000 in
set_option maxRecDepth 20000 in
theorem e_X9_readSort {l : Launch} {G : bG} {ρ : Nat → Nat} {A : Nat → Prop} (d : Nat)  (σ : bSto) (r : Int32) (σ' : bSto) (hF : f_X9_readSort  σ = some (r, σ')) : bEv l G bSHf ρ A yX9_readSort cX9_readSort 1 (some .boolean) (d + 6) [.ref 1] σ (some (.int r)) σ' := b_met (d := d + 6) (by decide +kernel) (Nat.le_of_ble_eq_true rfl) rfl (fun X C Rt h1 h2 h3 => e_X9_readSort_0 C ⟨fun o q h => by rw [h1]; exact h, fun i h => by rw [h2]; exact h, h3⟩ Rt  _ hF)
/-! BenchColony$Teller.readDown -/
def f_X9_readDown_J55 (x2 : Nat) (σ : bSto) : Option (Int32 × bSto) := bbd (f_X9_readWhole (0 : Int32) ((σ.1 x2 7) - (1 : Int32)) σ) (fun v3 σ2 => if v3 = 0 ∨ v3 = 1 then some (v3, σ2) else none)
def f_X9_readDown (x1 : Int32) (σ : bSto) : Option (Int32 × bSto) := if kR (σ.2.2 1 4) then (if (σ.1 2 4) = (2 : Int32) then (if (σ.1 ((σ.2.2 1 4) + 1) 7) ≤ (σ.1 2 6) then f_X9_readDown_J55 ((σ.2.2 1 4) + 1) σ else bbd (f_X3_isTaken ((σ.2.2 1 4) + 1) x1 (σ.1 2 6) σ) (fun v6 σ5 => (if v6 = 0 then f_X9_readDown_J55 ((σ.2.2 1 4) + 1) σ5 else bbd (f_X9_blame (7 : Int32) σ5) (fun v10 σ9 => if v10 = 0 ∨ v10 = 1 then some (v10, σ9) else none)))) else f_X9_readDown_J55 ((σ.2.2 1 4) + 1) σ) else none
set_option maxHeartbeats 4000000 in
set_option maxRecDepth 20000 in
theorem e_X9_readDown_J55 {X : bX} {l : Launch} {G : bG} {ρ : Nat → Nat} {A : Nat → Prop} {d : Nat} {r : Int32} {σ' : bSto} (C : bCX X cX9_readDown RX9 (d + 3)) (Hh : bH X l G bSHf ρ A 3) (Rt : bRX X (some .boolean) (some (.int r)) σ') (x2 : Nat) (hx2 : kH x2) (σ : bSto) (hF : f_X9_readDown_J55 x2 σ = some (r, σ')) : bAJ X 55 [(0, .ref 1), (2, .ref x2)] [] σ := by
  rw [f_X9_readDown_J55] at hF
  refine b_aload_n (pc := 55) C dX9_readDown_55 rfl 0 rfl ?_
  refine b_iconst (pc := 56) C dX9_readDown_56 ic_0 ?_
  refine b_aload_n (pc := 57) C dX9_readDown_57 rfl 1 rfl ?_
  refine b_getI (pc := 58) C dX9_readDown_58 fl_X9_171 (Hh.1 _ _ (shH hx2)) rfl ?_
  refine b_iconst (pc := 61) C dX9_readDown_61 ic_1 ?_
  refine b_isub (pc := 62) C dX9_readDown_62 ?_
  obtain ⟨v3, σ2, hc1, hF⟩ := bbd_e hF
  refine b_cV2i (d' := (d + 2)) (pc := 63) C dX9_readDown_63 mm_X9_160 (Hh.1 _ _ sh_1) rfl (Nat.le_of_ble_eq_true rfl) (by omega) (Hh.2.2 _ _ _ _ _ _ _ _ _ (lvl_eq (by omega) (e_X9_readWhole (d + 0) (0 : Int32) ((σ.1 x2 7) - (1 : Int32)) _ _ _ hc1))) ?_
  obtain ⟨hz4, hF⟩ := bif_y hF
  exact b_zret (pc := 66) C Rt dX9_readDown_66 (bz_n hz4) hF
set_option maxHeartbeats 4000000 in
set_option maxRecDepth 20000 in
theorem e_X9_readDown_0 {X : bX} {l : Launch} {G : bG} {ρ : Nat → Nat} {A : Nat → Prop} {d : Nat} {r : Int32} {σ' : bSto} (C : bCX X cX9_readDown RX9 (d + 3)) (Hh : bH X l G bSHf ρ A 3) (Rt : bRX X (some .boolean) (some (.int r)) σ') (x1 : Int32) (σ : bSto) (hF : f_X9_readDown x1 σ = some (r, σ')) : bAJ X 0 [(0, .ref 1), (1, .int x1)] [] σ := by
  rw [f_X9_readDown] at hF
  refine b_aload_n (pc := 0) C dX9_readDown_0 rfl 0 rfl ?_
  obtain ⟨hk1, hF⟩ := bif_y hF
  refine b_getR (pc := 1) C dX9_readDown_1 fl_X9_31 (Hh.1 _ _ sh_1) rfl ?_
  refine b_getS (pc := 4) C dX9_readDown_4 fl_X9_87 (Hh.1 _ _ (shR hk1)) rfl ?_
  refine b_astore_n (L' := [(2, .ref ((σ.2.2 1 4) + 1)), (0, .ref 1), (1, .int x1)]) (pc := 7) C dX9_readDown_7 rfl rfl (Hh.2.1 _ (Nat.le_of_ble_eq_true rfl)) rfl ?_
  refine b_aload_n (pc := 8) C dX9_readDown_8 rfl 1 rfl ?_
  refine b_getS (pc := 9) C dX9_readDown_9 fl_X9_12 (Hh.1 _ _ sh_1) rfl ?_
  refine b_getI (pc := 12) C dX9_readDown_12 fl_X9_77 (Hh.1 _ _ sh_2) rfl ?_
  refine b_iconst (pc := 15) C dX9_readDown_15 ic_2 ?_
  refine b_icmp_ne (tgt := 55) (pc := 16) C dX9_readDown_16 rfl (fun hc2 => ?_) (fun hc2 => ?_)
  · rw [if_neg hc2] at hF
    exact b_sub [1, 0] rfl (e_X9_readDown_J55 C Hh Rt _ (kk_7_0 hk1) _ hF)
  · rw [if_pos hc2] at hF
    refine b_aload_n (pc := 19) C dX9_readDown_19 rfl 1 rfl ?_
    refine b_getS (pc := 20) C dX9_readDown_20 fl_X9_12 (Hh.1 _ _ sh_1) rfl ?_
    refine b_getI (pc := 23) C dX9_readDown_23 fl_X9_230 (Hh.1 _ _ sh_2) rfl ?_
    refine b_aload_n (pc := 26) C dX9_readDown_26 rfl 0 rfl ?_
    refine b_getI (pc := 27) C dX9_readDown_27 fl_X9_171 (Hh.1 _ _ (shH (kk_7_0 hk1))) rfl ?_
    refine b_icmp_ge (tgt := 55) (pc := 30) C dX9_readDown_30 rfl (fun hc3 => ?_) (fun hc3 => ?_)
    · rw [if_pos hc3] at hF
      exact b_sub [1, 0] rfl (e_X9_readDown_J55 C Hh Rt _ (kk_7_0 hk1) _ hF)
    · rw [if_neg hc3] at hF
      refine b_aload_n (pc := 33) C dX9_readDown_33 rfl 0 rfl ?_
      refine b_iload_n (pc := 34) C dX9_readDown_34 rfl 2 rfl ?_
      refine b_aload_n (pc := 35) C dX9_readDown_35 rfl 1 rfl ?_
      refine b_getS (pc := 36) C dX9_readDown_36 fl_X9_12 (Hh.1 _ _ sh_1) rfl ?_
      refine b_getI (pc := 39) C dX9_readDown_39 fl_X9_230 (Hh.1 _ _ sh_2) rfl ?_
      obtain ⟨v6, σ5, hc4, hF⟩ := bbd_e hF
      refine b_cV2i (d' := (d + 2)) (pc := 42) C dX9_readDown_42 mm_X9_233 (Hh.1 _ _ (shH (kk_7_0 hk1))) rfl (Nat.le_of_ble_eq_true rfl) (by omega) (Hh.2.2 _ _ _ _ _ _ _ _ _ (lvl_eq (by omega) (e_X3_isTaken (d + 2) _ (kk_7_0 hk1) x1 (σ.1 2 6) _ _ _ hc4))) ?_
      refine b_if_eq (tgt := 55) (pc := 45) C dX9_readDown_45 rfl (fun hc7 => ?_) (fun hc7 => ?_)
      · rw [if_pos hc7] at hF
        exact b_sub [1, 0] rfl (e_X9_readDown_J55 C Hh Rt _ (kk_7_0 hk1) _ hF)
      · rw [if_neg hc7] at hF
        refine b_aload_n (pc := 48) C dX9_readDown_48 rfl 1 rfl ?_
        refine b_bipush (pc := 49) C dX9_readDown_49 bp_7 ?_
        obtain ⟨v10, σ9, hc8, hF⟩ := bbd_e hF
        refine b_cV1i (d' := (d + 2)) (pc := 51) C dX9_readDown_51 mm_X9_83 (Hh.1 _ _ sh_1) rfl (Nat.le_of_ble_eq_true rfl) (by omega) (Hh.2.2 _ _ _ _ _ _ _ _ _ (lvl_eq (by omega) (e_X9_blame (d + 2) (7 : Int32) _ _ _ hc8))) ?_
        obtain ⟨hz11, hF⟩ := bif_y hF
        exact b_zret (pc := 54) C Rt dX9_readDown_54 (bz_n hz11) hF
set_option maxHeartbeats 4000000 in
set_option maxRecDepth 20000 in
theorem e_X9_readDown {l : Launch} {G : bG} {ρ : Nat → Nat} {A : Nat → Prop} (d : Nat) (x1 : Int32) (σ : bSto) (r : Int32) (σ' : bSto) (hF : f_X9_readDown x1 σ = some (r, σ')) : bEv l G bSHf ρ A yX9_readDown cX9_readDown 3 (some .boolean) (d + 3) [.ref 1, .int x1] σ (some (.int r)) σ' := b_met (d := d + 3) (by decide +kernel) (Nat.le_of_ble_eq_true rfl) rfl (fun X C Rt h1 h2 h3 => e_X9_readDown_0 C ⟨fun o q h => by rw [h1]; exact h, fun i h => by rw [h2]; exact h, h3⟩ Rt _ _ hF)
/-! BenchColony$Teller.readBench -/
def f_X9_readBench  (σ : bSto) : Option (Int32 × bSto) := if kR (σ.2.2 1 4) then blet (σ.1 ((σ.2.2 1 4) + 1) 5) (fun x2_2 => (if x2_2 < (6 : Int32) then blet (σ.2.1 2 7) (fun x3_5 => bbd (f_X9_readNewName  σ) (fun v9 σ8 => (if v9 = 0 then some ((0 : Int32), σ8) else bbd (f_X9_readSort  σ8) (fun v13 σ12 => (if v13 = 0 then some ((0 : Int32), σ12) else if x2_2 < 0 ∨ 6 ≤ x2_2.toNatClampNeg then none else blet (bI σ12 (((σ.2.2 1 4) + 1) + 1) x2_2.toNatClampNeg (σ12.1 1 7)) (fun σ15 => bbd (f_X9_readWord 1 σ15) (fun v20 σ19 => (if v20 = 0 then some ((0 : Int32), σ19) else bbd (f_X9_readWhole (0 : Int32) ((σ19.1 ((σ.2.2 1 4) + 1) 6) - (1 : Int32)) σ19) (fun v24 σ23 => (if v24 = 0 then some ((0 : Int32), σ23) else if x2_2 < 0 ∨ 6 ≤ x2_2.toNatClampNeg then none else blet (bI σ23 (((σ.2.2 1 4) + 1) + 2) x2_2.toNatClampNeg (σ23.1 1 7)) (fun σ26 => if x2_2 < 0 ∨ 6 ≤ x2_2.toNatClampNeg then none else bbd (f_X9_readDown (σ26.1 (((σ.2.2 1 4) + 1) + 2) x2_2.toNatClampNeg) σ26) (fun v32 σ31 => (if v32 = 0 then some ((0 : Int32), σ31) else if x2_2 < 0 ∨ 6 ≤ x2_2.toNatClampNeg then none else blet (bI σ31 (((σ.2.2 1 4) + 1) + 3) x2_2.toNatClampNeg (σ31.1 1 7)) (fun σ34 => bbd (f_X9_readWord 21 σ34) (fun v39 σ38 => (if v39 = 0 then some ((0 : Int32), σ38) else bbd (f_X9_readWhole (1 : Int32) (3 : Int32) σ38) (fun v43 σ42 => (if v43 = 0 then some ((0 : Int32), σ42) else if x2_2 < 0 ∨ 6 ≤ x2_2.toNatClampNeg then none else blet (bI σ42 (((σ.2.2 1 4) + 1) + 4) x2_2.toNatClampNeg (σ42.1 1 7)) (fun σ45 => bbd (f_X9_readWord 18 σ45) (fun v50 σ49 => (if v50 = 0 then some ((0 : Int32), σ49) else bbd (f_X9_readWhole (0 : Int32) (30 : Int32) σ49) (fun v54 σ53 => (if v54 = 0 then some ((0 : Int32), σ53) else if x2_2 < 0 ∨ 6 ≤ x2_2.toNatClampNeg then none else blet (bI σ53 (((σ.2.2 1 4) + 1) + 5) x2_2.toNatClampNeg (σ53.1 1 7)) (fun σ56 => if x2_2 < 0 ∨ 6 ≤ x2_2.toNatClampNeg then none else blet (bJ σ56 5 x2_2.toNatClampNeg x3_5) (fun σ59 => blet (bI σ59 ((σ.2.2 1 4) + 1) 5 ((σ59.1 ((σ.2.2 1 4) + 1) 5) + (1 : Int32))) (fun σ62 => some ((1 : Int32), σ62))))))))))))))))))))))))))) else bbd (f_X9_blame (5 : Int32) σ) (fun v66 σ65 => if v66 = 0 ∨ v66 = 1 then some (v66, σ65) else none))) else none
set_option maxHeartbeats 4000000 in
set_option maxRecDepth 20000 in
theorem e_X9_readBench_0 {X : bX} {l : Launch} {G : bG} {ρ : Nat → Nat} {A : Nat → Prop} {d : Nat} {r : Int32} {σ' : bSto} (C : bCX X cX9_readBench RX9 (d + 7)) (Hh : bH X l G bSHf ρ A 5) (Rt : bRX X (some .boolean) (some (.int r)) σ')  (σ : bSto) (hF : f_X9_readBench  σ = some (r, σ')) : bAJ X 0 [(0, .ref 1)] [] σ := by
  rw [f_X9_readBench] at hF
  refine b_aload_n (pc := 0) C dX9_readBench_0 rfl 0 rfl ?_
  obtain ⟨hk1, hF⟩ := bif_y hF
  refine b_getR (pc := 1) C dX9_readBench_1 fl_X9_31 (Hh.1 _ _ sh_1) rfl ?_
  refine b_getS (pc := 4) C dX9_readBench_4 fl_X9_87 (Hh.1 _ _ (shR hk1)) rfl ?_
  refine b_astore_n (L' := [(1, .ref ((σ.2.2 1 4) + 1)), (0, .ref 1)]) (pc := 7) C dX9_readBench_7 rfl rfl (Hh.2.1 _ (Nat.le_of_ble_eq_true rfl)) rfl ?_
  refine b_aload_n (pc := 8) C dX9_readBench_8 rfl 0 rfl ?_
  refine b_getI (pc := 9) C dX9_readBench_9 fl_X9_91 (Hh.1 _ _ (shH (kk_7_0 hk1))) rfl ?_
  obtain ⟨x2_2, e3, hF⟩ := blet_e hF
  refine b_istore_n (L' := [(2, .int x2_2), (1, .ref ((σ.2.2 1 4) + 1)), (0, .ref 1)]) (pc := 12) C dX9_readBench_12 rfl e3 (Hh.2.1 _ (Nat.le_of_ble_eq_true rfl)) rfl ?_
  refine b_iload_n (pc := 13) C dX9_readBench_13 rfl 0 rfl ?_
  refine b_bipush (pc := 14) C dX9_readBench_14 bp_6 ?_
  refine b_icmp_lt (tgt := 25) (pc := 16) C dX9_readBench_16 rfl (fun hc4 => ?_) (fun hc4 => ?_)
  · rw [if_pos hc4] at hF
    refine b_aload_n (pc := 25) C dX9_readBench_25 rfl 2 rfl ?_
    refine b_getS (pc := 26) C dX9_readBench_26 fl_X9_12 (Hh.1 _ _ sh_1) rfl ?_
    refine b_getJ (pc := 29) C dX9_readBench_29 fl_X9_196 (Hh.1 _ _ sh_2) rfl ?_
    obtain ⟨x3_5, e6, hF⟩ := blet_e hF
    refine b_lstore_n (L' := [(3, .long x3_5), (2, .int x2_2), (1, .ref ((σ.2.2 1 4) + 1)), (0, .ref 1)]) (pc := 32) C dX9_readBench_32 rfl e6 (Hh.2.1 _ (Nat.le_of_ble_eq_true rfl)) rfl ?_
    refine b_aload_n (pc := 33) C dX9_readBench_33 rfl 3 rfl ?_
    obtain ⟨v9, σ8, hc7, hF⟩ := bbd_e hF
    refine b_cV0i (d' := (d + 6)) (pc := 34) C dX9_readBench_34 mm_X9_200 (Hh.1 _ _ sh_1) rfl (Nat.le_of_ble_eq_true rfl) (by omega) (Hh.2.2 _ _ _ _ _ _ _ _ _ (lvl_eq (by omega) (e_X9_readNewName (d + 3)  _ _ _ hc7))) ?_
    refine b_if_eq (tgt := 47) (pc := 37) C dX9_readBench_37 rfl (fun hc10 => ?_) (fun hc10 => ?_)
    · rw [if_pos hc10] at hF
      refine b_iconst (pc := 47) C dX9_readBench_47 ic_0 ?_
      exact b_zret (pc := 48) C Rt dX9_readBench_48 rfl hF
    · rw [if_neg hc10] at hF
      refine b_aload_n (pc := 40) C dX9_readBench_40 rfl 3 rfl ?_
      obtain ⟨v13, σ12, hc11, hF⟩ := bbd_e hF
      refine b_cV0i (d' := (d + 6)) (pc := 41) C dX9_readBench_41 mm_X9_203 (Hh.1 _ _ sh_1) rfl (Nat.le_of_ble_eq_true rfl) (by omega) (Hh.2.2 _ _ _ _ _ _ _ _ _ (lvl_eq (by omega) (e_X9_readSort (d + 0)  _ _ _ hc11))) ?_
      refine b_if_ne (tgt := 49) (pc := 44) C dX9_readBench_44 rfl (fun hc14 => ?_) (fun hc14 => ?_)
      · rw [if_neg hc14] at hF
        refine b_aload_n (pc := 49) C dX9_readBench_49 rfl 2 rfl ?_
        refine b_getS (pc := 50) C dX9_readBench_50 fl_X9_206 (Hh.1 _ _ (shH (kk_7_0 hk1))) rfl ?_
        refine b_iload_n (pc := 53) C dX9_readBench_53 rfl 1 rfl ?_
        refine b_aload_n (pc := 54) C dX9_readBench_54 rfl 3 rfl ?_
        refine b_getI (pc := 55) C dX9_readBench_55 fl_X9_164 (Hh.1 _ _ sh_1) rfl ?_
        obtain ⟨hb17, hF⟩ := bif_n hF
        obtain ⟨σ15, e16, hF⟩ := blet_e hF
        refine b_iast (pc := 58) C dX9_readBench_58 (Hh.1 _ _ (sa_3_0 (kk_7_0 hk1))) hb17 e16 ?_
        refine b_aload_n (pc := 59) C dX9_readBench_59 rfl 3 rfl ?_
        refine b_ldcS (pc := 60) C dX9_readBench_60 "at" 5 rfl ?_
        obtain ⟨v20, σ19, hc18, hF⟩ := bbd_e hF
        refine b_cV1i (d' := (d + 6)) (pc := 62) C dX9_readBench_62 mm_X9_156 (Hh.1 _ _ sh_1) rfl (Nat.le_of_ble_eq_true rfl) (by omega) (Hh.2.2 _ _ _ _ _ _ _ _ _ (lvl_eq (by omega) (e_X9_readWord (d + 0) _ (by decide) _ _ _ hc18))) ?_
        refine b_if_eq (tgt := 82) (pc := 65) C dX9_readBench_65 rfl (fun hc21 => ?_) (fun hc21 => ?_)
        · rw [if_pos hc21] at hF
          refine b_iconst (pc := 82) C dX9_readBench_82 ic_0 ?_
          exact b_zret (pc := 83) C Rt dX9_readBench_83 rfl hF
        · rw [if_neg hc21] at hF
          refine b_aload_n (pc := 68) C dX9_readBench_68 rfl 3 rfl ?_
          refine b_iconst (pc := 69) C dX9_readBench_69 ic_0 ?_
          refine b_aload_n (pc := 70) C dX9_readBench_70 rfl 2 rfl ?_
          refine b_getI (pc := 71) C dX9_readBench_71 fl_X9_167 (Hh.1 _ _ (shH (kk_7_0 hk1))) rfl ?_
          refine b_iconst (pc := 74) C dX9_readBench_74 ic_1 ?_
          refine b_isub (pc := 75) C dX9_readBench_75 ?_
          obtain ⟨v24, σ23, hc22, hF⟩ := bbd_e hF
          refine b_cV2i (d' := (d + 6)) (pc := 76) C dX9_readBench_76 mm_X9_160 (Hh.1 _ _ sh_1) rfl (Nat.le_of_ble_eq_true rfl) (by omega) (Hh.2.2 _ _ _ _ _ _ _ _ _ (lvl_eq (by omega) (e_X9_readWhole (d + 4) (0 : Int32) ((σ19.1 ((σ.2.2 1 4) + 1) 6) - (1 : Int32)) _ _ _ hc22))) ?_
          refine b_if_ne (tgt := 84) (pc := 79) C dX9_readBench_79 rfl (fun hc25 => ?_) (fun hc25 => ?_)
          · rw [if_neg hc25] at hF
            refine b_aload_n (pc := 84) C dX9_readBench_84 rfl 2 rfl ?_
            refine b_getS (pc := 85) C dX9_readBench_85 fl_X9_212 (Hh.1 _ _ (shH (kk_7_0 hk1))) rfl ?_
            refine b_iload_n (pc := 88) C dX9_readBench_88 rfl 1 rfl ?_
            refine b_aload_n (pc := 89) C dX9_readBench_89 rfl 3 rfl ?_
            refine b_getI (pc := 90) C dX9_readBench_90 fl_X9_164 (Hh.1 _ _ sh_1) rfl ?_
            obtain ⟨hb28, hF⟩ := bif_n hF
            obtain ⟨σ26, e27, hF⟩ := blet_e hF
            refine b_iast (pc := 93) C dX9_readBench_93 (Hh.1 _ _ (sa_3_1 (kk_7_0 hk1))) hb28 e27 ?_
            refine b_aload_n (pc := 94) C dX9_readBench_94 rfl 3 rfl ?_
            refine b_aload_n (pc := 95) C dX9_readBench_95 rfl 2 rfl ?_
            refine b_getS (pc := 96) C dX9_readBench_96 fl_X9_212 (Hh.1 _ _ (shH (kk_7_0 hk1))) rfl ?_
            refine b_iload_n (pc := 99) C dX9_readBench_99 rfl 1 rfl ?_
            obtain ⟨hb29, hF⟩ := bif_n hF
            refine b_iald (pc := 100) C dX9_readBench_100 (Hh.1 _ _ (sa_3_1 (kk_7_0 hk1))) hb29 ?_
            obtain ⟨v32, σ31, hc30, hF⟩ := bbd_e hF
            refine b_cV1i (d' := (d + 6)) (pc := 101) C dX9_readBench_101 mm_X9_215 (Hh.1 _ _ sh_1) rfl (Nat.le_of_ble_eq_true rfl) (by omega) (Hh.2.2 _ _ _ _ _ _ _ _ _ (lvl_eq (by omega) (e_X9_readDown (d + 3) (σ26.1 (((σ.2.2 1 4) + 1) + 2) x2_2.toNatClampNeg) _ _ _ hc30))) ?_
            refine b_if_ne (tgt := 109) (pc := 104) C dX9_readBench_104 rfl (fun hc33 => ?_) (fun hc33 => ?_)
            · rw [if_neg hc33] at hF
              refine b_aload_n (pc := 109) C dX9_readBench_109 rfl 2 rfl ?_
              refine b_getS (pc := 110) C dX9_readBench_110 fl_X9_218 (Hh.1 _ _ (shH (kk_7_0 hk1))) rfl ?_
              refine b_iload_n (pc := 113) C dX9_readBench_113 rfl 1 rfl ?_
              refine b_aload_n (pc := 114) C dX9_readBench_114 rfl 3 rfl ?_
              refine b_getI (pc := 115) C dX9_readBench_115 fl_X9_164 (Hh.1 _ _ sh_1) rfl ?_
              obtain ⟨hb36, hF⟩ := bif_n hF
              obtain ⟨σ34, e35, hF⟩ := blet_e hF
              refine b_iast (pc := 118) C dX9_readBench_118 (Hh.1 _ _ (sa_3_2 (kk_7_0 hk1))) hb36 e35 ?_
              refine b_aload_n (pc := 119) C dX9_readBench_119 rfl 3 rfl ?_
              refine b_ldcS (pc := 120) C dX9_readBench_120 "seats" 6 rfl ?_
              obtain ⟨v39, σ38, hc37, hF⟩ := bbd_e hF
              refine b_cV1i (d' := (d + 6)) (pc := 122) C dX9_readBench_122 mm_X9_156 (Hh.1 _ _ sh_1) rfl (Nat.le_of_ble_eq_true rfl) (by omega) (Hh.2.2 _ _ _ _ _ _ _ _ _ (lvl_eq (by omega) (e_X9_readWord (d + 0) _ (by decide) _ _ _ hc37))) ?_
              refine b_if_eq (tgt := 137) (pc := 125) C dX9_readBench_125 rfl (fun hc40 => ?_) (fun hc40 => ?_)
              · rw [if_pos hc40] at hF
                refine b_iconst (pc := 137) C dX9_readBench_137 ic_0 ?_
                exact b_zret (pc := 138) C Rt dX9_readBench_138 rfl hF
              · rw [if_neg hc40] at hF
                refine b_aload_n (pc := 128) C dX9_readBench_128 rfl 3 rfl ?_
                refine b_iconst (pc := 129) C dX9_readBench_129 ic_1 ?_
                refine b_iconst (pc := 130) C dX9_readBench_130 ic_3 ?_
                obtain ⟨v43, σ42, hc41, hF⟩ := bbd_e hF
                refine b_cV2i (d' := (d + 6)) (pc := 131) C dX9_readBench_131 mm_X9_160 (Hh.1 _ _ sh_1) rfl (Nat.le_of_ble_eq_true rfl) (by omega) (Hh.2.2 _ _ _ _ _ _ _ _ _ (lvl_eq (by omega) (e_X9_readWhole (d + 4) (1 : Int32) (3 : Int32) _ _ _ hc41))) ?_
                refine b_if_ne (tgt := 139) (pc := 134) C dX9_readBench_134 rfl (fun hc44 => ?_) (fun hc44 => ?_)
                · rw [if_neg hc44] at hF
                  refine b_aload_n (pc := 139) C dX9_readBench_139 rfl 2 rfl ?_
                  refine b_getS (pc := 140) C dX9_readBench_140 fl_X9_223 (Hh.1 _ _ (shH (kk_7_0 hk1))) rfl ?_
                  refine b_iload_n (pc := 143) C dX9_readBench_143 rfl 1 rfl ?_
                  refine b_aload_n (pc := 144) C dX9_readBench_144 rfl 3 rfl ?_
                  refine b_getI (pc := 145) C dX9_readBench_145 fl_X9_164 (Hh.1 _ _ sh_1) rfl ?_
                  obtain ⟨hb47, hF⟩ := bif_n hF
                  obtain ⟨σ45, e46, hF⟩ := blet_e hF
                  refine b_iast (pc := 148) C dX9_readBench_148 (Hh.1 _ _ (sa_3_3 (kk_7_0 hk1))) hb47 e46 ?_
                  refine b_aload_n (pc := 149) C dX9_readBench_149 rfl 3 rfl ?_
                  refine b_ldcS (pc := 150) C dX9_readBench_150 "rent" 7 rfl ?_
                  obtain ⟨v50, σ49, hc48, hF⟩ := bbd_e hF
                  refine b_cV1i (d' := (d + 6)) (pc := 152) C dX9_readBench_152 mm_X9_156 (Hh.1 _ _ sh_1) rfl (Nat.le_of_ble_eq_true rfl) (by omega) (Hh.2.2 _ _ _ _ _ _ _ _ _ (lvl_eq (by omega) (e_X9_readWord (d + 0) _ (by decide) _ _ _ hc48))) ?_
                  refine b_if_eq (tgt := 168) (pc := 155) C dX9_readBench_155 rfl (fun hc51 => ?_) (fun hc51 => ?_)
                  · rw [if_pos hc51] at hF
                    refine b_iconst (pc := 168) C dX9_readBench_168 ic_0 ?_
                    exact b_zret (pc := 169) C Rt dX9_readBench_169 rfl hF
                  · rw [if_neg hc51] at hF
                    refine b_aload_n (pc := 158) C dX9_readBench_158 rfl 3 rfl ?_
                    refine b_iconst (pc := 159) C dX9_readBench_159 ic_0 ?_
                    refine b_bipush (pc := 160) C dX9_readBench_160 bp_30 ?_
                    obtain ⟨v54, σ53, hc52, hF⟩ := bbd_e hF
                    refine b_cV2i (d' := (d + 6)) (pc := 162) C dX9_readBench_162 mm_X9_160 (Hh.1 _ _ sh_1) rfl (Nat.le_of_ble_eq_true rfl) (by omega) (Hh.2.2 _ _ _ _ _ _ _ _ _ (lvl_eq (by omega) (e_X9_readWhole (d + 4) (0 : Int32) (30 : Int32) _ _ _ hc52))) ?_
                    refine b_if_ne (tgt := 170) (pc := 165) C dX9_readBench_165 rfl (fun hc55 => ?_) (fun hc55 => ?_)
                    · rw [if_neg hc55] at hF
                      refine b_aload_n (pc := 170) C dX9_readBench_170 rfl 2 rfl ?_
                      refine b_getS (pc := 171) C dX9_readBench_171 fl_X9_227 (Hh.1 _ _ (shH (kk_7_0 hk1))) rfl ?_
                      refine b_iload_n (pc := 174) C dX9_readBench_174 rfl 1 rfl ?_
                      refine b_aload_n (pc := 175) C dX9_readBench_175 rfl 3 rfl ?_
                      refine b_getI (pc := 176) C dX9_readBench_176 fl_X9_164 (Hh.1 _ _ sh_1) rfl ?_
                      obtain ⟨hb58, hF⟩ := bif_n hF
                      obtain ⟨σ56, e57, hF⟩ := blet_e hF
                      refine b_iast (pc := 179) C dX9_readBench_179 (Hh.1 _ _ (sa_3_4 (kk_7_0 hk1))) hb58 e57 ?_
                      refine b_aload_n (pc := 180) C dX9_readBench_180 rfl 3 rfl ?_
                      refine b_getS (pc := 181) C dX9_readBench_181 fl_X9_22 (Hh.1 _ _ sh_1) rfl ?_
                      refine b_iload_n (pc := 184) C dX9_readBench_184 rfl 1 rfl ?_
                      refine b_lload_n (pc := 185) C dX9_readBench_185 rfl 0 rfl ?_
                      obtain ⟨hb61, hF⟩ := bif_n hF
                      obtain ⟨σ59, e60, hF⟩ := blet_e hF
                      refine b_last (pc := 186) C dX9_readBench_186 (Hh.1 _ _ sh_5) hb61 e60 ?_
                      refine b_aload_n (pc := 187) C dX9_readBench_187 rfl 2 rfl ?_
                      refine b_dup (pc := 188) C dX9_readBench_188 rfl ?_
                      refine b_getI (pc := 189) C dX9_readBench_189 fl_X9_91 (Hh.1 _ _ (shH (kk_7_0 hk1))) rfl ?_
                      refine b_iconst (pc := 192) C dX9_readBench_192 ic_1 ?_
                      refine b_iadd (pc := 193) C dX9_readBench_193 ?_
                      obtain ⟨σ62, e63, hF⟩ := blet_e hF
                      refine b_putI (pc := 194) C dX9_readBench_194 fp_X9_91 (Hh.1 _ _ (shH (kk_7_0 hk1))) rfl rfl rfl e63 ?_
                      refine b_iconst (pc := 197) C dX9_readBench_197 ic_1 ?_
                      exact b_zret (pc := 198) C Rt dX9_readBench_198 rfl hF
                    · rw [if_pos hc55] at hF
                      refine b_iconst (pc := 168) C dX9_readBench_168 ic_0 ?_
                      exact b_zret (pc := 169) C Rt dX9_readBench_169 rfl hF
                · rw [if_pos hc44] at hF
                  refine b_iconst (pc := 137) C dX9_readBench_137 ic_0 ?_
                  exact b_zret (pc := 138) C Rt dX9_readBench_138 rfl hF
            · rw [if_pos hc33] at hF
              refine b_iconst (pc := 107) C dX9_readBench_107 ic_0 ?_
              exact b_zret (pc := 108) C Rt dX9_readBench_108 rfl hF
          · rw [if_pos hc25] at hF
            refine b_iconst (pc := 82) C dX9_readBench_82 ic_0 ?_
            exact b_zret (pc := 83) C Rt dX9_readBench_83 rfl hF
      · rw [if_pos hc14] at hF
        refine b_iconst (pc := 47) C dX9_readBench_47 ic_0 ?_
        exact b_zret (pc := 48) C Rt dX9_readBench_48 rfl hF
  · rw [if_neg hc4] at hF
    refine b_aload_n (pc := 19) C dX9_readBench_19 rfl 2 rfl ?_
    refine b_iconst (pc := 20) C dX9_readBench_20 ic_5 ?_
    obtain ⟨v66, σ65, hc64, hF⟩ := bbd_e hF
    refine b_cV1i (d' := (d + 6)) (pc := 21) C dX9_readBench_21 mm_X9_83 (Hh.1 _ _ sh_1) rfl (Nat.le_of_ble_eq_true rfl) (by omega) (Hh.2.2 _ _ _ _ _ _ _ _ _ (lvl_eq (by omega) (e_X9_blame (d + 6) (5 : Int32) _ _ _ hc64))) ?_
    obtain ⟨hz67, hF⟩ := bif_y hF
    exact b_zret (pc := 24) C Rt dX9_readBench_24 (bz_n hz67) hF
set_option maxHeartbeats 4000000 in
set_option maxRecDepth 20000 in
theorem e_X9_readBench {l : Launch} {G : bG} {ρ : Nat → Nat} {A : Nat → Prop} (d : Nat)  (σ : bSto) (r : Int32) (σ' : bSto) (hF : f_X9_readBench  σ = some (r, σ')) : bEv l G bSHf ρ A yX9_readBench cX9_readBench 5 (some .boolean) (d + 7) [.ref 1] σ (some (.int r)) σ' := b_met (d := d + 7) (by decide +kernel) (Nat.le_of_ble_eq_true rfl) rfl (fun X C Rt h1 h2 h3 => e_X9_readBench_0 C ⟨fun o q h => by rw [h1]; exact h, fun i h => by rw [h2]; exact h, h3⟩ Rt  _ hF)
/-! BenchColony$Teller.readKind -/
def f_X9_readKind_J90  (σ : bSto) : Option (Int32 × bSto) := bbv (f_X8_step  σ) (fun σ2 => some ((1 : Int32), σ2))
def f_X9_readKind  (σ : bSto) : Option (Int32 × bSto) := bbd (f_X8_is 25 σ) (fun v3 σ2 => (if v3 = 0 then bbd (f_X8_is 7 σ2) (fun v7 σ6 => (if v7 = 0 then bbd (f_X8_is 13 σ6) (fun v11 σ10 => (if v11 = 0 then bbd (f_X8_is 4 σ10) (fun v15 σ14 => (if v15 = 0 then bbd (f_X9_blame (1 : Int32) σ14) (fun v19 σ18 => if v19 = 0 ∨ v19 = 1 then some (v19, σ18) else none) else blet (bI σ14 1 7 (3 : Int32)) (fun σ21 => f_X9_readKind_J90  σ21))) else blet (bI σ10 1 7 (2 : Int32)) (fun σ23 => f_X9_readKind_J90  σ23))) else blet (bI σ6 1 7 (1 : Int32)) (fun σ25 => f_X9_readKind_J90  σ25))) else blet (bI σ2 1 7 (0 : Int32)) (fun σ27 => f_X9_readKind_J90  σ27)))
set_option maxHeartbeats 4000000 in
set_option maxRecDepth 20000 in
theorem e_X9_readKind_J90 {X : bX} {l : Launch} {G : bG} {ρ : Nat → Nat} {A : Nat → Prop} {d : Nat} {r : Int32} {σ' : bSto} (C : bCX X cX9_readKind RX9 (d + 6)) (Hh : bH X l G bSHf ρ A 1) (Rt : bRX X (some .boolean) (some (.int r)) σ')  (σ : bSto) (hF : f_X9_readKind_J90  σ = some (r, σ')) : bAJ X 90 [(0, .ref 1)] [] σ := by
  rw [f_X9_readKind_J90] at hF
  refine b_aload_n (pc := 90) C dX9_readKind_90 rfl 0 rfl ?_
  refine b_getS (pc := 91) C dX9_readKind_91 fl_X9_12 (Hh.1 _ _ sh_1) rfl ?_
  obtain ⟨σ2, hc1, hF⟩ := bbv_e hF
  refine b_cV0v (d' := (d + 5)) (pc := 94) C dX9_readKind_94 mm_X9_80 (Hh.1 _ _ sh_2) rfl (Nat.le_of_ble_eq_true rfl) (by omega) (Hh.2.2 _ _ _ _ _ _ _ _ _ (lvl_eq (by omega) (e_X8_step (d + 4)  _ _ hc1))) ?_
  refine b_iconst (pc := 97) C dX9_readKind_97 ic_1 ?_
  exact b_zret (pc := 98) C Rt dX9_readKind_98 rfl hF
set_option maxHeartbeats 4000000 in
set_option maxRecDepth 20000 in
theorem e_X9_readKind_0 {X : bX} {l : Launch} {G : bG} {ρ : Nat → Nat} {A : Nat → Prop} {d : Nat} {r : Int32} {σ' : bSto} (C : bCX X cX9_readKind RX9 (d + 6)) (Hh : bH X l G bSHf ρ A 1) (Rt : bRX X (some .boolean) (some (.int r)) σ')  (σ : bSto) (hF : f_X9_readKind  σ = some (r, σ')) : bAJ X 0 [(0, .ref 1)] [] σ := by
  rw [f_X9_readKind] at hF
  refine b_aload_n (pc := 0) C dX9_readKind_0 rfl 0 rfl ?_
  refine b_getS (pc := 1) C dX9_readKind_1 fl_X9_12 (Hh.1 _ _ sh_1) rfl ?_
  refine b_ldcSw (pc := 4) C dX9_readKind_4 "third" 14 rfl ?_
  obtain ⟨v3, σ2, hc1, hF⟩ := bbd_e hF
  refine b_cV1i (d' := (d + 5)) (pc := 7) C dX9_readKind_7 mm_X9_252 (Hh.1 _ _ sh_2) rfl (Nat.le_of_ble_eq_true rfl) (by omega) (Hh.2.2 _ _ _ _ _ _ _ _ _ (lvl_eq (by omega) (e_X8_is (d + 0) _ (by decide) _ _ _ hc1))) ?_
  refine b_if_eq (tgt := 21) (pc := 10) C dX9_readKind_10 rfl (fun hc4 => ?_) (fun hc4 => ?_)
  · rw [if_pos hc4] at hF
    refine b_aload_n (pc := 21) C dX9_readKind_21 rfl 0 rfl ?_
    refine b_getS (pc := 22) C dX9_readKind_22 fl_X9_12 (Hh.1 _ _ sh_1) rfl ?_
    refine b_ldcSw (pc := 25) C dX9_readKind_25 "first" 15 rfl ?_
    obtain ⟨v7, σ6, hc5, hF⟩ := bbd_e hF
    refine b_cV1i (d' := (d + 5)) (pc := 28) C dX9_readKind_28 mm_X9_252 (Hh.1 _ _ sh_2) rfl (Nat.le_of_ble_eq_true rfl) (by omega) (Hh.2.2 _ _ _ _ _ _ _ _ _ (lvl_eq (by omega) (e_X8_is (d + 0) _ (by decide) _ _ _ hc5))) ?_
    refine b_if_eq (tgt := 42) (pc := 31) C dX9_readKind_31 rfl (fun hc8 => ?_) (fun hc8 => ?_)
    · rw [if_pos hc8] at hF
      refine b_aload_n (pc := 42) C dX9_readKind_42 rfl 0 rfl ?_
      refine b_getS (pc := 43) C dX9_readKind_43 fl_X9_12 (Hh.1 _ _ sh_1) rfl ?_
      refine b_ldcSw (pc := 46) C dX9_readKind_46 "lady" 16 rfl ?_
      obtain ⟨v11, σ10, hc9, hF⟩ := bbd_e hF
      refine b_cV1i (d' := (d + 5)) (pc := 49) C dX9_readKind_49 mm_X9_252 (Hh.1 _ _ sh_2) rfl (Nat.le_of_ble_eq_true rfl) (by omega) (Hh.2.2 _ _ _ _ _ _ _ _ _ (lvl_eq (by omega) (e_X8_is (d + 0) _ (by decide) _ _ _ hc9))) ?_
      refine b_if_eq (tgt := 63) (pc := 52) C dX9_readKind_52 rfl (fun hc12 => ?_) (fun hc12 => ?_)
      · rw [if_pos hc12] at hF
        refine b_aload_n (pc := 63) C dX9_readKind_63 rfl 0 rfl ?_
        refine b_getS (pc := 64) C dX9_readKind_64 fl_X9_12 (Hh.1 _ _ sh_1) rfl ?_
        refine b_ldcSw (pc := 67) C dX9_readKind_67 "child" 17 rfl ?_
        obtain ⟨v15, σ14, hc13, hF⟩ := bbd_e hF
        refine b_cV1i (d' := (d + 5)) (pc := 70) C dX9_readKind_70 mm_X9_252 (Hh.1 _ _ sh_2) rfl (Nat.le_of_ble_eq_true rfl) (by omega) (Hh.2.2 _ _ _ _ _ _ _ _ _ (lvl_eq (by omega) (e_X8_is (d + 0) _ (by decide) _ _ _ hc13))) ?_
        refine b_if_eq (tgt := 84) (pc := 73) C dX9_readKind_73 rfl (fun hc16 => ?_) (fun hc16 => ?_)
        · rw [if_pos hc16] at hF
          refine b_aload_n (pc := 84) C dX9_readKind_84 rfl 0 rfl ?_
          refine b_iconst (pc := 85) C dX9_readKind_85 ic_1 ?_
          obtain ⟨v19, σ18, hc17, hF⟩ := bbd_e hF
          refine b_cV1i (d' := (d + 5)) (pc := 86) C dX9_readKind_86 mm_X9_83 (Hh.1 _ _ sh_1) rfl (Nat.le_of_ble_eq_true rfl) (by omega) (Hh.2.2 _ _ _ _ _ _ _ _ _ (lvl_eq (by omega) (e_X9_blame (d + 5) (1 : Int32) _ _ _ hc17))) ?_
          obtain ⟨hz20, hF⟩ := bif_y hF
          exact b_zret (pc := 89) C Rt dX9_readKind_89 (bz_n hz20) hF
        · rw [if_neg hc16] at hF
          refine b_aload_n (pc := 76) C dX9_readKind_76 rfl 0 rfl ?_
          refine b_iconst (pc := 77) C dX9_readKind_77 ic_3 ?_
          obtain ⟨σ21, e22, hF⟩ := blet_e hF
          refine b_putI (pc := 78) C dX9_readKind_78 fp_X9_164 (Hh.1 _ _ sh_1) rfl rfl rfl e22 ?_
          refine b_goto (tgt := 90) (pc := 81) C dX9_readKind_81 rfl ?_
          exact b_sub [0] rfl (e_X9_readKind_J90 C Hh Rt  _ hF)
      · rw [if_neg hc12] at hF
        refine b_aload_n (pc := 55) C dX9_readKind_55 rfl 0 rfl ?_
        refine b_iconst (pc := 56) C dX9_readKind_56 ic_2 ?_
        obtain ⟨σ23, e24, hF⟩ := blet_e hF
        refine b_putI (pc := 57) C dX9_readKind_57 fp_X9_164 (Hh.1 _ _ sh_1) rfl rfl rfl e24 ?_
        refine b_goto (tgt := 90) (pc := 60) C dX9_readKind_60 rfl ?_
        exact b_sub [0] rfl (e_X9_readKind_J90 C Hh Rt  _ hF)
    · rw [if_neg hc8] at hF
      refine b_aload_n (pc := 34) C dX9_readKind_34 rfl 0 rfl ?_
      refine b_iconst (pc := 35) C dX9_readKind_35 ic_1 ?_
      obtain ⟨σ25, e26, hF⟩ := blet_e hF
      refine b_putI (pc := 36) C dX9_readKind_36 fp_X9_164 (Hh.1 _ _ sh_1) rfl rfl rfl e26 ?_
      refine b_goto (tgt := 90) (pc := 39) C dX9_readKind_39 rfl ?_
      exact b_sub [0] rfl (e_X9_readKind_J90 C Hh Rt  _ hF)
  · rw [if_neg hc4] at hF
    refine b_aload_n (pc := 13) C dX9_readKind_13 rfl 0 rfl ?_
    refine b_iconst (pc := 14) C dX9_readKind_14 ic_0 ?_
    obtain ⟨σ27, e28, hF⟩ := blet_e hF
    refine b_putI (pc := 15) C dX9_readKind_15 fp_X9_164 (Hh.1 _ _ sh_1) rfl rfl rfl e28 ?_
    refine b_goto (tgt := 90) (pc := 18) C dX9_readKind_18 rfl ?_
    exact b_sub [0] rfl (e_X9_readKind_J90 C Hh Rt  _ hF)
set_option maxHeartbeats 4000000 in
set_option maxRecDepth 20000 in
theorem e_X9_readKind {l : Launch} {G : bG} {ρ : Nat → Nat} {A : Nat → Prop} (d : Nat)  (σ : bSto) (r : Int32) (σ' : bSto) (hF : f_X9_readKind  σ = some (r, σ')) : bEv l G bSHf ρ A yX9_readKind cX9_readKind 1 (some .boolean) (d + 6) [.ref 1] σ (some (.int r)) σ' := b_met (d := d + 6) (by decide +kernel) (Nat.le_of_ble_eq_true rfl) rfl (fun X C Rt h1 h2 h3 => e_X9_readKind_0 C ⟨fun o q h => by rw [h1]; exact h, fun i h => by rw [h2]; exact h, h3⟩ Rt  _ hF)
/-! BenchColony$Teller.readTown -/
def f_X9_readTown (x1 : Int32) (σ : bSto) : Option (Int32 × bSto) := (if (σ.1 2 4) = (1 : Int32) then if kR (σ.2.2 1 4) then if x1 < 0 ∨ 7 ≤ x1.toNatClampNeg then none else blet (bJ σ (((σ.2.2 1 4) + 7) + 2) x1.toNatClampNeg (σ.2.1 2 7)) (fun σ3 => bbv (f_X8_step  σ3) (fun σ7 => some ((1 : Int32), σ7))) else none else bbd (f_X9_blame (1 : Int32) σ) (fun v10 σ9 => if v10 = 0 ∨ v10 = 1 then some (v10, σ9) else none))
set_option maxHeartbeats 4000000 in
set_option maxRecDepth 20000 in
theorem e_X9_readTown_0 {X : bX} {l : Launch} {G : bG} {ρ : Nat → Nat} {A : Nat → Prop} {d : Nat} {r : Int32} {σ' : bSto} (C : bCX X cX9_readTown RX9 (d + 2)) (Hh : bH X l G bSHf ρ A 2) (Rt : bRX X (some .boolean) (some (.int r)) σ') (x1 : Int32) (σ : bSto) (hF : f_X9_readTown x1 σ = some (r, σ')) : bAJ X 0 [(0, .ref 1), (1, .int x1)] [] σ := by
  rw [f_X9_readTown] at hF
  refine b_aload_n (pc := 0) C dX9_readTown_0 rfl 0 rfl ?_
  refine b_getS (pc := 1) C dX9_readTown_1 fl_X9_12 (Hh.1 _ _ sh_1) rfl ?_
  refine b_getI (pc := 4) C dX9_readTown_4 fl_X9_77 (Hh.1 _ _ sh_2) rfl ?_
  refine b_iconst (pc := 7) C dX9_readTown_7 ic_1 ?_
  refine b_icmp_eq (tgt := 17) (pc := 8) C dX9_readTown_8 rfl (fun hc1 => ?_) (fun hc1 => ?_)
  · rw [if_pos hc1] at hF
    refine b_aload_n (pc := 17) C dX9_readTown_17 rfl 0 rfl ?_
    obtain ⟨hk2, hF⟩ := bif_y hF
    refine b_getR (pc := 18) C dX9_readTown_18 fl_X9_31 (Hh.1 _ _ sh_1) rfl ?_
    refine b_getS (pc := 21) C dX9_readTown_21 fl_X9_132 (Hh.1 _ _ (shR hk2)) rfl ?_
    refine b_getS (pc := 24) C dX9_readTown_24 fl_X9_258 (Hh.1 _ _ (shF (kk_7_1 hk2))) rfl ?_
    refine b_iload_n (pc := 27) C dX9_readTown_27 rfl 1 rfl ?_
    refine b_aload_n (pc := 28) C dX9_readTown_28 rfl 0 rfl ?_
    refine b_getS (pc := 29) C dX9_readTown_29 fl_X9_12 (Hh.1 _ _ sh_1) rfl ?_
    refine b_getJ (pc := 32) C dX9_readTown_32 fl_X9_196 (Hh.1 _ _ sh_2) rfl ?_
    obtain ⟨hb5, hF⟩ := bif_n hF
    obtain ⟨σ3, e4, hF⟩ := blet_e hF
    refine b_last (pc := 35) C dX9_readTown_35 (Hh.1 _ _ (sa_2_1 (kk_7_1 hk2))) hb5 e4 ?_
    refine b_aload_n (pc := 36) C dX9_readTown_36 rfl 0 rfl ?_
    refine b_getS (pc := 37) C dX9_readTown_37 fl_X9_12 (Hh.1 _ _ sh_1) rfl ?_
    obtain ⟨σ7, hc6, hF⟩ := bbv_e hF
    refine b_cV0v (d' := (d + 1)) (pc := 40) C dX9_readTown_40 mm_X9_80 (Hh.1 _ _ sh_2) rfl (Nat.le_of_ble_eq_true rfl) (by omega) (Hh.2.2 _ _ _ _ _ _ _ _ _ (lvl_eq (by omega) (e_X8_step (d + 0)  _ _ hc6))) ?_
    refine b_iconst (pc := 43) C dX9_readTown_43 ic_1 ?_
    exact b_zret (pc := 44) C Rt dX9_readTown_44 rfl hF
  · rw [if_neg hc1] at hF
    refine b_aload_n (pc := 11) C dX9_readTown_11 rfl 0 rfl ?_
    refine b_iconst (pc := 12) C dX9_readTown_12 ic_1 ?_
    obtain ⟨v10, σ9, hc8, hF⟩ := bbd_e hF
    refine b_cV1i (d' := (d + 1)) (pc := 13) C dX9_readTown_13 mm_X9_83 (Hh.1 _ _ sh_1) rfl (Nat.le_of_ble_eq_true rfl) (by omega) (Hh.2.2 _ _ _ _ _ _ _ _ _ (lvl_eq (by omega) (e_X9_blame (d + 1) (1 : Int32) _ _ _ hc8))) ?_
    obtain ⟨hz11, hF⟩ := bif_y hF
    exact b_zret (pc := 16) C Rt dX9_readTown_16 (bz_n hz11) hF
set_option maxHeartbeats 4000000 in
set_option maxRecDepth 20000 in
theorem e_X9_readTown {l : Launch} {G : bG} {ρ : Nat → Nat} {A : Nat → Prop} (d : Nat) (x1 : Int32) (σ : bSto) (r : Int32) (σ' : bSto) (hF : f_X9_readTown x1 σ = some (r, σ')) : bEv l G bSHf ρ A yX9_readTown cX9_readTown 2 (some .boolean) (d + 2) [.ref 1, .int x1] σ (some (.int r)) σ' := b_met (d := d + 2) (by decide +kernel) (Nat.le_of_ble_eq_true rfl) rfl (fun X C Rt h1 h2 h3 => e_X9_readTown_0 C ⟨fun o q h => by rw [h1]; exact h, fun i h => by rw [h2]; exact h, h3⟩ Rt _ _ hF)
/-! BenchColony$Teller.readSeat -/
def f_X9_readSeat_J79  (σ : bSto) : Option (Int32 × bSto) := bbd (f_X9_blame (7 : Int32) σ) (fun v3 σ2 => if v3 = 0 ∨ v3 = 1 then some (v3, σ2) else none)
def f_X9_readSeat (x1 : Int32) (σ : bSto) : Option (Int32 × bSto) := bbd (f_X9_isName  σ) (fun v3 σ2 => (if v3 = 0 then bbd (f_X9_blame (1 : Int32) σ2) (fun v33 σ32 => if v33 = 0 ∨ v33 = 1 then some (v33, σ32) else none) else if kR (σ2.2.2 1 4) then bbd (f_X9_indexOf 5 (σ2.1 ((σ2.2.2 1 4) + 1) 5) (σ2.2.1 2 7) σ2) (fun v8 σ7 => (if v8 = (-1 : Int32) then bbd (f_X9_blame (2 : Int32) σ7) (fun v29 σ28 => if v29 = 0 ∨ v29 = 1 then some (v29, σ28) else none) else if kR (σ7.2.2 1 4) then bbd (f_X7_allows (σ7.2.2 1 4) x1 v8 σ7) (fun v13 σ12 => (if v13 = 0 then f_X9_readSeat_J79  σ12 else if kR (σ12.2.2 1 4) then if kR (σ12.2.2 1 4) then bbd (f_X7_hasFreeSeat (σ12.2.2 1 4) ((σ12.2.2 1 4) + 20) v8 σ12) (fun v19 σ18 => (if v19 = 0 then f_X9_readSeat_J79  σ18 else if kR (σ18.2.2 1 4) then if x1 < 0 ∨ 7 ≤ x1.toNatClampNeg then none else blet (bI σ18 (((σ18.2.2 1 4) + 20) + 1) x1.toNatClampNeg v8) (fun σ22 => bbv (f_X8_step  σ22) (fun σ26 => some ((1 : Int32), σ26))) else none)) else none else none)) else none)) else none))
set_option maxHeartbeats 4000000 in
set_option maxRecDepth 20000 in
theorem e_X9_readSeat_J79 {X : bX} {l : Launch} {G : bG} {ρ : Nat → Nat} {A : Nat → Prop} {d : Nat} {r : Int32} {σ' : bSto} (C : bCX X cX9_readSeat RX9 (d + 3)) (Hh : bH X l G bSHf ρ A 3) (Rt : bRX X (some .boolean) (some (.int r)) σ')  (σ : bSto) (hF : f_X9_readSeat_J79  σ = some (r, σ')) : bAJ X 79 [(0, .ref 1)] [] σ := by
  rw [f_X9_readSeat_J79] at hF
  refine b_aload_n (pc := 79) C dX9_readSeat_79 rfl 0 rfl ?_
  refine b_bipush (pc := 80) C dX9_readSeat_80 bp_7 ?_
  obtain ⟨v3, σ2, hc1, hF⟩ := bbd_e hF
  refine b_cV1i (d' := (d + 2)) (pc := 82) C dX9_readSeat_82 mm_X9_83 (Hh.1 _ _ sh_1) rfl (Nat.le_of_ble_eq_true rfl) (by omega) (Hh.2.2 _ _ _ _ _ _ _ _ _ (lvl_eq (by omega) (e_X9_blame (d + 2) (7 : Int32) _ _ _ hc1))) ?_
  obtain ⟨hz4, hF⟩ := bif_y hF
  exact b_zret (pc := 85) C Rt dX9_readSeat_85 (bz_n hz4) hF
set_option maxHeartbeats 4000000 in
set_option maxRecDepth 20000 in
theorem e_X9_readSeat_0 {X : bX} {l : Launch} {G : bG} {ρ : Nat → Nat} {A : Nat → Prop} {d : Nat} {r : Int32} {σ' : bSto} (C : bCX X cX9_readSeat RX9 (d + 3)) (Hh : bH X l G bSHf ρ A 3) (Rt : bRX X (some .boolean) (some (.int r)) σ') (x1 : Int32) (σ : bSto) (hF : f_X9_readSeat x1 σ = some (r, σ')) : bAJ X 0 [(0, .ref 1), (1, .int x1)] [] σ := by
  rw [f_X9_readSeat] at hF
  refine b_aload_n (pc := 0) C dX9_readSeat_0 rfl 0 rfl ?_
  obtain ⟨v3, σ2, hc1, hF⟩ := bbd_e hF
  refine b_cV0i (d' := (d + 2)) (pc := 1) C dX9_readSeat_1 mm_X9_261 (Hh.1 _ _ sh_1) rfl (Nat.le_of_ble_eq_true rfl) (by omega) (Hh.2.2 _ _ _ _ _ _ _ _ _ (lvl_eq (by omega) (e_X9_isName (d + 0)  _ _ _ hc1))) ?_
  refine b_if_ne (tgt := 13) (pc := 4) C dX9_readSeat_4 rfl (fun hc4 => ?_) (fun hc4 => ?_)
  · rw [if_neg hc4] at hF
    refine b_aload_n (pc := 13) C dX9_readSeat_13 rfl 0 rfl ?_
    refine b_getS (pc := 14) C dX9_readSeat_14 fl_X9_22 (Hh.1 _ _ sh_1) rfl ?_
    refine b_aload_n (pc := 17) C dX9_readSeat_17 rfl 0 rfl ?_
    obtain ⟨hk5, hF⟩ := bif_y hF
    refine b_getR (pc := 18) C dX9_readSeat_18 fl_X9_31 (Hh.1 _ _ sh_1) rfl ?_
    refine b_getS (pc := 21) C dX9_readSeat_21 fl_X9_87 (Hh.1 _ _ (shR hk5)) rfl ?_
    refine b_getI (pc := 24) C dX9_readSeat_24 fl_X9_91 (Hh.1 _ _ (shH (kk_7_0 hk5))) rfl ?_
    refine b_aload_n (pc := 27) C dX9_readSeat_27 rfl 0 rfl ?_
    refine b_getS (pc := 28) C dX9_readSeat_28 fl_X9_12 (Hh.1 _ _ sh_1) rfl ?_
    refine b_getJ (pc := 31) C dX9_readSeat_31 fl_X9_196 (Hh.1 _ _ sh_2) rfl ?_
    obtain ⟨v8, σ7, hc6, hF⟩ := bbd_e hF
    refine b_cS3i (d' := (d + 2)) (pc := 34) C dX9_readSeat_34 mm_X9_264 (Nat.le_of_ble_eq_true rfl) (by omega) (Hh.2.2 _ _ _ _ _ _ _ _ _ (lvl_eq (by omega) (e_X9_indexOf (d + 2) _ (show kJA 5 from sh_5) (σ2.1 ((σ2.2.2 1 4) + 1) 5) (σ2.2.1 2 7) _ _ _ hc6))) ?_
    refine b_istore_n (L' := [(2, .int v8), (0, .ref 1), (1, .int x1)]) (pc := 37) C dX9_readSeat_37 rfl rfl (Hh.2.1 _ (Nat.le_of_ble_eq_true rfl)) rfl ?_
    refine b_iload_n (pc := 38) C dX9_readSeat_38 rfl 0 rfl ?_
    refine b_iconst (pc := 39) C dX9_readSeat_39 ic_m1 ?_
    refine b_icmp_ne (tgt := 49) (pc := 40) C dX9_readSeat_40 rfl (fun hc9 => ?_) (fun hc9 => ?_)
    · rw [if_neg hc9] at hF
      refine b_aload_n (pc := 49) C dX9_readSeat_49 rfl 1 rfl ?_
      obtain ⟨hk10, hF⟩ := bif_y hF
      refine b_getR (pc := 50) C dX9_readSeat_50 fl_X9_31 (Hh.1 _ _ sh_1) rfl ?_
      refine b_iload_n (pc := 53) C dX9_readSeat_53 rfl 2 rfl ?_
      refine b_iload_n (pc := 54) C dX9_readSeat_54 rfl 0 rfl ?_
      obtain ⟨v13, σ12, hc11, hF⟩ := bbd_e hF
      refine b_cV2i (d' := (d + 2)) (pc := 55) C dX9_readSeat_55 mm_X9_268 (Hh.1 _ _ (shR hk10)) rfl (Nat.le_of_ble_eq_true rfl) (by omega) (Hh.2.2 _ _ _ _ _ _ _ _ _ (lvl_eq (by omega) (e_X7_allows (d + 2) _ hk10 x1 v8 _ _ _ hc11))) ?_
      refine b_if_eq (tgt := 79) (pc := 58) C dX9_readSeat_58 rfl (fun hc14 => ?_) (fun hc14 => ?_)
      · rw [if_pos hc14] at hF
        exact b_sub [1] rfl (e_X9_readSeat_J79 C Hh Rt  _ hF)
      · rw [if_neg hc14] at hF
        refine b_aload_n (pc := 61) C dX9_readSeat_61 rfl 1 rfl ?_
        obtain ⟨hk15, hF⟩ := bif_y hF
        refine b_getR (pc := 62) C dX9_readSeat_62 fl_X9_31 (Hh.1 _ _ sh_1) rfl ?_
        refine b_aload_n (pc := 65) C dX9_readSeat_65 rfl 1 rfl ?_
        obtain ⟨hk16, hF⟩ := bif_y hF
        refine b_getR (pc := 66) C dX9_readSeat_66 fl_X9_31 (Hh.1 _ _ sh_1) rfl ?_
        refine b_getS (pc := 69) C dX9_readSeat_69 fl_X9_187 (Hh.1 _ _ (shR hk16)) rfl ?_
        refine b_iload_n (pc := 72) C dX9_readSeat_72 rfl 0 rfl ?_
        obtain ⟨v19, σ18, hc17, hF⟩ := bbd_e hF
        refine b_cV2i (d' := (d + 2)) (pc := 73) C dX9_readSeat_73 mm_X9_271 (Hh.1 _ _ (shR hk15)) rfl (Nat.le_of_ble_eq_true rfl) (by omega) (Hh.2.2 _ _ _ _ _ _ _ _ _ (lvl_eq (by omega) (e_X7_hasFreeSeat (d + 1) _ hk15 _ (kk_7_3 hk16) v8 _ _ _ hc17))) ?_
        refine b_if_ne (tgt := 86) (pc := 76) C dX9_readSeat_76 rfl (fun hc20 => ?_) (fun hc20 => ?_)
        · rw [if_neg hc20] at hF
          refine b_aload_n (pc := 86) C dX9_readSeat_86 rfl 1 rfl ?_
          obtain ⟨hk21, hF⟩ := bif_y hF
          refine b_getR (pc := 87) C dX9_readSeat_87 fl_X9_31 (Hh.1 _ _ sh_1) rfl ?_
          refine b_getS (pc := 90) C dX9_readSeat_90 fl_X9_187 (Hh.1 _ _ (shR hk21)) rfl ?_
          refine b_getS (pc := 93) C dX9_readSeat_93 fl_X9_275 (Hh.1 _ _ (shN (kk_7_3 hk21))) rfl ?_
          refine b_iload_n (pc := 96) C dX9_readSeat_96 rfl 2 rfl ?_
          refine b_iload_n (pc := 97) C dX9_readSeat_97 rfl 0 rfl ?_
          obtain ⟨hb24, hF⟩ := bif_n hF
          obtain ⟨σ22, e23, hF⟩ := blet_e hF
          refine b_iast (pc := 98) C dX9_readSeat_98 (Hh.1 _ _ (sa_4_0 (kk_7_3 hk21))) hb24 e23 ?_
          refine b_aload_n (pc := 99) C dX9_readSeat_99 rfl 1 rfl ?_
          refine b_getS (pc := 100) C dX9_readSeat_100 fl_X9_12 (Hh.1 _ _ sh_1) rfl ?_
          obtain ⟨σ26, hc25, hF⟩ := bbv_e hF
          refine b_cV0v (d' := (d + 2)) (pc := 103) C dX9_readSeat_103 mm_X9_80 (Hh.1 _ _ sh_2) rfl (Nat.le_of_ble_eq_true rfl) (by omega) (Hh.2.2 _ _ _ _ _ _ _ _ _ (lvl_eq (by omega) (e_X8_step (d + 1)  _ _ hc25))) ?_
          refine b_iconst (pc := 106) C dX9_readSeat_106 ic_1 ?_
          exact b_zret (pc := 107) C Rt dX9_readSeat_107 rfl hF
        · rw [if_pos hc20] at hF
          exact b_sub [1] rfl (e_X9_readSeat_J79 C Hh Rt  _ hF)
    · rw [if_pos hc9] at hF
      refine b_aload_n (pc := 43) C dX9_readSeat_43 rfl 1 rfl ?_
      refine b_iconst (pc := 44) C dX9_readSeat_44 ic_2 ?_
      obtain ⟨v29, σ28, hc27, hF⟩ := bbd_e hF
      refine b_cV1i (d' := (d + 2)) (pc := 45) C dX9_readSeat_45 mm_X9_83 (Hh.1 _ _ sh_1) rfl (Nat.le_of_ble_eq_true rfl) (by omega) (Hh.2.2 _ _ _ _ _ _ _ _ _ (lvl_eq (by omega) (e_X9_blame (d + 2) (2 : Int32) _ _ _ hc27))) ?_
      obtain ⟨hz30, hF⟩ := bif_y hF
      exact b_zret (pc := 48) C Rt dX9_readSeat_48 (bz_n hz30) hF
  · rw [if_pos hc4] at hF
    refine b_aload_n (pc := 7) C dX9_readSeat_7 rfl 0 rfl ?_
    refine b_iconst (pc := 8) C dX9_readSeat_8 ic_1 ?_
    obtain ⟨v33, σ32, hc31, hF⟩ := bbd_e hF
    refine b_cV1i (d' := (d + 2)) (pc := 9) C dX9_readSeat_9 mm_X9_83 (Hh.1 _ _ sh_1) rfl (Nat.le_of_ble_eq_true rfl) (by omega) (Hh.2.2 _ _ _ _ _ _ _ _ _ (lvl_eq (by omega) (e_X9_blame (d + 2) (1 : Int32) _ _ _ hc31))) ?_
    obtain ⟨hz34, hF⟩ := bif_y hF
    exact b_zret (pc := 12) C Rt dX9_readSeat_12 (bz_n hz34) hF
set_option maxHeartbeats 4000000 in
set_option maxRecDepth 20000 in
theorem e_X9_readSeat {l : Launch} {G : bG} {ρ : Nat → Nat} {A : Nat → Prop} (d : Nat) (x1 : Int32) (σ : bSto) (r : Int32) (σ' : bSto) (hF : f_X9_readSeat x1 σ = some (r, σ')) : bEv l G bSHf ρ A yX9_readSeat cX9_readSeat 3 (some .boolean) (d + 3) [.ref 1, .int x1] σ (some (.int r)) σ' := b_met (d := d + 3) (by decide +kernel) (Nat.le_of_ble_eq_true rfl) rfl (fun X C Rt h1 h2 h3 => e_X9_readSeat_0 C ⟨fun o q h => by rw [h1]; exact h, fun i h => by rw [h2]; exact h, h3⟩ Rt _ _ hF)
/-! BenchColony$Teller.readPerson -/
def f_X9_readPerson  (σ : bSto) : Option (Int32 × bSto) := if kR (σ.2.2 1 4) then blet (σ.1 ((σ.2.2 1 4) + 7) 7) (fun x2_2 => (if x2_2 < (7 : Int32) then blet (σ.2.1 2 7) (fun x3_5 => bbd (f_X9_readNewName  σ) (fun v9 σ8 => (if v9 = 0 then some ((0 : Int32), σ8) else bbd (f_X9_readKind  σ8) (fun v13 σ12 => (if v13 = 0 then some ((0 : Int32), σ12) else if x2_2 < 0 ∨ 7 ≤ x2_2.toNatClampNeg then none else blet (bI σ12 (((σ.2.2 1 4) + 7) + 1) x2_2.toNatClampNeg (σ12.1 1 7)) (fun σ15 => bbd (f_X9_readWord 8 σ15) (fun v20 σ19 => (if v20 = 0 then some ((0 : Int32), σ19) else bbd (f_X9_readTown x2_2 σ19) (fun v24 σ23 => (if v24 = 0 then some ((0 : Int32), σ23) else bbd (f_X9_readWord 5 σ23) (fun v28 σ27 => (if v28 = 0 then some ((0 : Int32), σ27) else bbd (f_X9_readWhole (0 : Int32) (60 : Int32) σ27) (fun v32 σ31 => (if v32 = 0 then some ((0 : Int32), σ31) else if x2_2 < 0 ∨ 7 ≤ x2_2.toNatClampNeg then none else blet (bI σ31 (((σ.2.2 1 4) + 7) + 3) x2_2.toNatClampNeg (σ31.1 1 7)) (fun σ34 => if x2_2 < 0 ∨ 7 ≤ x2_2.toNatClampNeg then none else blet (bJ σ34 6 x2_2.toNatClampNeg x3_5) (fun σ37 => blet (bI σ37 ((σ.2.2 1 4) + 7) 7 ((σ37.1 ((σ.2.2 1 4) + 7) 7) + (1 : Int32))) (fun σ40 => bbd (f_X8_is 14 σ40) (fun v44 σ43 => (if v44 = 0 then some ((1 : Int32), σ43) else bbv (f_X8_step  σ43) (fun σ47 => bbd (f_X9_readSeat x2_2 σ47) (fun v50 σ49 => if v50 = 0 ∨ v50 = 1 then some (v50, σ49) else none))))))))))))))))))))) else bbd (f_X9_blame (5 : Int32) σ) (fun v54 σ53 => if v54 = 0 ∨ v54 = 1 then some (v54, σ53) else none))) else none
set_option maxHeartbeats 4000000 in
set_option maxRecDepth 20000 in
theorem e_X9_readPerson_0 {X : bX} {l : Launch} {G : bG} {ρ : Nat → Nat} {A : Nat → Prop} {d : Nat} {r : Int32} {σ' : bSto} (C : bCX X cX9_readPerson RX9 (d + 7)) (Hh : bH X l G bSHf ρ A 5) (Rt : bRX X (some .boolean) (some (.int r)) σ')  (σ : bSto) (hF : f_X9_readPerson  σ = some (r, σ')) : bAJ X 0 [(0, .ref 1)] [] σ := by
  rw [f_X9_readPerson] at hF
  refine b_aload_n (pc := 0) C dX9_readPerson_0 rfl 0 rfl ?_
  obtain ⟨hk1, hF⟩ := bif_y hF
  refine b_getR (pc := 1) C dX9_readPerson_1 fl_X9_31 (Hh.1 _ _ sh_1) rfl ?_
  refine b_getS (pc := 4) C dX9_readPerson_4 fl_X9_132 (Hh.1 _ _ (shR hk1)) rfl ?_
  refine b_astore_n (L' := [(1, .ref ((σ.2.2 1 4) + 7)), (0, .ref 1)]) (pc := 7) C dX9_readPerson_7 rfl rfl (Hh.2.1 _ (Nat.le_of_ble_eq_true rfl)) rfl ?_
  refine b_aload_n (pc := 8) C dX9_readPerson_8 rfl 0 rfl ?_
  refine b_getI (pc := 9) C dX9_readPerson_9 fl_X9_136 (Hh.1 _ _ (shF (kk_7_1 hk1))) rfl ?_
  obtain ⟨x2_2, e3, hF⟩ := blet_e hF
  refine b_istore_n (L' := [(2, .int x2_2), (1, .ref ((σ.2.2 1 4) + 7)), (0, .ref 1)]) (pc := 12) C dX9_readPerson_12 rfl e3 (Hh.2.1 _ (Nat.le_of_ble_eq_true rfl)) rfl ?_
  refine b_iload_n (pc := 13) C dX9_readPerson_13 rfl 0 rfl ?_
  refine b_bipush (pc := 14) C dX9_readPerson_14 bp_7 ?_
  refine b_icmp_lt (tgt := 25) (pc := 16) C dX9_readPerson_16 rfl (fun hc4 => ?_) (fun hc4 => ?_)
  · rw [if_pos hc4] at hF
    refine b_aload_n (pc := 25) C dX9_readPerson_25 rfl 2 rfl ?_
    refine b_getS (pc := 26) C dX9_readPerson_26 fl_X9_12 (Hh.1 _ _ sh_1) rfl ?_
    refine b_getJ (pc := 29) C dX9_readPerson_29 fl_X9_196 (Hh.1 _ _ sh_2) rfl ?_
    obtain ⟨x3_5, e6, hF⟩ := blet_e hF
    refine b_lstore_n (L' := [(3, .long x3_5), (2, .int x2_2), (1, .ref ((σ.2.2 1 4) + 7)), (0, .ref 1)]) (pc := 32) C dX9_readPerson_32 rfl e6 (Hh.2.1 _ (Nat.le_of_ble_eq_true rfl)) rfl ?_
    refine b_aload_n (pc := 33) C dX9_readPerson_33 rfl 3 rfl ?_
    obtain ⟨v9, σ8, hc7, hF⟩ := bbd_e hF
    refine b_cV0i (d' := (d + 6)) (pc := 34) C dX9_readPerson_34 mm_X9_200 (Hh.1 _ _ sh_1) rfl (Nat.le_of_ble_eq_true rfl) (by omega) (Hh.2.2 _ _ _ _ _ _ _ _ _ (lvl_eq (by omega) (e_X9_readNewName (d + 3)  _ _ _ hc7))) ?_
    refine b_if_eq (tgt := 47) (pc := 37) C dX9_readPerson_37 rfl (fun hc10 => ?_) (fun hc10 => ?_)
    · rw [if_pos hc10] at hF
      refine b_iconst (pc := 47) C dX9_readPerson_47 ic_0 ?_
      exact b_zret (pc := 48) C Rt dX9_readPerson_48 rfl hF
    · rw [if_neg hc10] at hF
      refine b_aload_n (pc := 40) C dX9_readPerson_40 rfl 3 rfl ?_
      obtain ⟨v13, σ12, hc11, hF⟩ := bbd_e hF
      refine b_cV0i (d' := (d + 6)) (pc := 41) C dX9_readPerson_41 mm_X9_236 (Hh.1 _ _ sh_1) rfl (Nat.le_of_ble_eq_true rfl) (by omega) (Hh.2.2 _ _ _ _ _ _ _ _ _ (lvl_eq (by omega) (e_X9_readKind (d + 0)  _ _ _ hc11))) ?_
      refine b_if_ne (tgt := 49) (pc := 44) C dX9_readPerson_44 rfl (fun hc14 => ?_) (fun hc14 => ?_)
      · rw [if_neg hc14] at hF
        refine b_aload_n (pc := 49) C dX9_readPerson_49 rfl 2 rfl ?_
        refine b_getS (pc := 50) C dX9_readPerson_50 fl_X9_239 (Hh.1 _ _ (shF (kk_7_1 hk1))) rfl ?_
        refine b_iload_n (pc := 53) C dX9_readPerson_53 rfl 1 rfl ?_
        refine b_aload_n (pc := 54) C dX9_readPerson_54 rfl 3 rfl ?_
        refine b_getI (pc := 55) C dX9_readPerson_55 fl_X9_164 (Hh.1 _ _ sh_1) rfl ?_
        obtain ⟨hb17, hF⟩ := bif_n hF
        obtain ⟨σ15, e16, hF⟩ := blet_e hF
        refine b_iast (pc := 58) C dX9_readPerson_58 (Hh.1 _ _ (sa_2_0 (kk_7_1 hk1))) hb17 e16 ?_
        refine b_aload_n (pc := 59) C dX9_readPerson_59 rfl 3 rfl ?_
        refine b_ldcS (pc := 60) C dX9_readPerson_60 "fo\x72" 8 rfl ?_
        obtain ⟨v20, σ19, hc18, hF⟩ := bbd_e hF
        refine b_cV1i (d' := (d + 6)) (pc := 62) C dX9_readPerson_62 mm_X9_156 (Hh.1 _ _ sh_1) rfl (Nat.le_of_ble_eq_true rfl) (by omega) (Hh.2.2 _ _ _ _ _ _ _ _ _ (lvl_eq (by omega) (e_X9_readWord (d + 0) _ (by decide) _ _ _ hc18))) ?_
        refine b_if_eq (tgt := 76) (pc := 65) C dX9_readPerson_65 rfl (fun hc21 => ?_) (fun hc21 => ?_)
        · rw [if_pos hc21] at hF
          refine b_iconst (pc := 76) C dX9_readPerson_76 ic_0 ?_
          exact b_zret (pc := 77) C Rt dX9_readPerson_77 rfl hF
        · rw [if_neg hc21] at hF
          refine b_aload_n (pc := 68) C dX9_readPerson_68 rfl 3 rfl ?_
          refine b_iload_n (pc := 69) C dX9_readPerson_69 rfl 1 rfl ?_
          obtain ⟨v24, σ23, hc22, hF⟩ := bbd_e hF
          refine b_cV1i (d' := (d + 6)) (pc := 70) C dX9_readPerson_70 mm_X9_244 (Hh.1 _ _ sh_1) rfl (Nat.le_of_ble_eq_true rfl) (by omega) (Hh.2.2 _ _ _ _ _ _ _ _ _ (lvl_eq (by omega) (e_X9_readTown (d + 4) x2_2 _ _ _ hc22))) ?_
          refine b_if_ne (tgt := 78) (pc := 73) C dX9_readPerson_73 rfl (fun hc25 => ?_) (fun hc25 => ?_)
          · rw [if_neg hc25] at hF
            refine b_aload_n (pc := 78) C dX9_readPerson_78 rfl 3 rfl ?_
            refine b_ldcS (pc := 79) C dX9_readPerson_79 "cold" 9 rfl ?_
            obtain ⟨v28, σ27, hc26, hF⟩ := bbd_e hF
            refine b_cV1i (d' := (d + 6)) (pc := 81) C dX9_readPerson_81 mm_X9_156 (Hh.1 _ _ sh_1) rfl (Nat.le_of_ble_eq_true rfl) (by omega) (Hh.2.2 _ _ _ _ _ _ _ _ _ (lvl_eq (by omega) (e_X9_readWord (d + 0) _ (by decide) _ _ _ hc26))) ?_
            refine b_if_eq (tgt := 97) (pc := 84) C dX9_readPerson_84 rfl (fun hc29 => ?_) (fun hc29 => ?_)
            · rw [if_pos hc29] at hF
              refine b_iconst (pc := 97) C dX9_readPerson_97 ic_0 ?_
              exact b_zret (pc := 98) C Rt dX9_readPerson_98 rfl hF
            · rw [if_neg hc29] at hF
              refine b_aload_n (pc := 87) C dX9_readPerson_87 rfl 3 rfl ?_
              refine b_iconst (pc := 88) C dX9_readPerson_88 ic_0 ?_
              refine b_bipush (pc := 89) C dX9_readPerson_89 bp_60 ?_
              obtain ⟨v32, σ31, hc30, hF⟩ := bbd_e hF
              refine b_cV2i (d' := (d + 6)) (pc := 91) C dX9_readPerson_91 mm_X9_160 (Hh.1 _ _ sh_1) rfl (Nat.le_of_ble_eq_true rfl) (by omega) (Hh.2.2 _ _ _ _ _ _ _ _ _ (lvl_eq (by omega) (e_X9_readWhole (d + 4) (0 : Int32) (60 : Int32) _ _ _ hc30))) ?_
              refine b_if_ne (tgt := 99) (pc := 94) C dX9_readPerson_94 rfl (fun hc33 => ?_) (fun hc33 => ?_)
              · rw [if_neg hc33] at hF
                refine b_aload_n (pc := 99) C dX9_readPerson_99 rfl 2 rfl ?_
                refine b_getS (pc := 100) C dX9_readPerson_100 fl_X9_249 (Hh.1 _ _ (shF (kk_7_1 hk1))) rfl ?_
                refine b_iload_n (pc := 103) C dX9_readPerson_103 rfl 1 rfl ?_
                refine b_aload_n (pc := 104) C dX9_readPerson_104 rfl 3 rfl ?_
                refine b_getI (pc := 105) C dX9_readPerson_105 fl_X9_164 (Hh.1 _ _ sh_1) rfl ?_
                obtain ⟨hb36, hF⟩ := bif_n hF
                obtain ⟨σ34, e35, hF⟩ := blet_e hF
                refine b_iast (pc := 108) C dX9_readPerson_108 (Hh.1 _ _ (sa_2_2 (kk_7_1 hk1))) hb36 e35 ?_
                refine b_aload_n (pc := 109) C dX9_readPerson_109 rfl 3 rfl ?_
                refine b_getS (pc := 110) C dX9_readPerson_110 fl_X9_25 (Hh.1 _ _ sh_1) rfl ?_
                refine b_iload_n (pc := 113) C dX9_readPerson_113 rfl 1 rfl ?_
                refine b_lload_n (pc := 114) C dX9_readPerson_114 rfl 0 rfl ?_
                obtain ⟨hb39, hF⟩ := bif_n hF
                obtain ⟨σ37, e38, hF⟩ := blet_e hF
                refine b_last (pc := 115) C dX9_readPerson_115 (Hh.1 _ _ sh_6) hb39 e38 ?_
                refine b_aload_n (pc := 116) C dX9_readPerson_116 rfl 2 rfl ?_
                refine b_dup (pc := 117) C dX9_readPerson_117 rfl ?_
                refine b_getI (pc := 118) C dX9_readPerson_118 fl_X9_136 (Hh.1 _ _ (shF (kk_7_1 hk1))) rfl ?_
                refine b_iconst (pc := 121) C dX9_readPerson_121 ic_1 ?_
                refine b_iadd (pc := 122) C dX9_readPerson_122 ?_
                obtain ⟨σ40, e41, hF⟩ := blet_e hF
                refine b_putI (pc := 123) C dX9_readPerson_123 fp_X9_136 (Hh.1 _ _ (shF (kk_7_1 hk1))) rfl rfl rfl e41 ?_
                refine b_aload_n (pc := 126) C dX9_readPerson_126 rfl 3 rfl ?_
                refine b_getS (pc := 127) C dX9_readPerson_127 fl_X9_12 (Hh.1 _ _ sh_1) rfl ?_
                refine b_ldcS (pc := 130) C dX9_readPerson_130 "on" 27 rfl ?_
                obtain ⟨v44, σ43, hc42, hF⟩ := bbd_e hF
                refine b_cV1i (d' := (d + 6)) (pc := 132) C dX9_readPerson_132 mm_X9_252 (Hh.1 _ _ sh_2) rfl (Nat.le_of_ble_eq_true rfl) (by omega) (Hh.2.2 _ _ _ _ _ _ _ _ _ (lvl_eq (by omega) (e_X8_is (d + 1) _ (by decide) _ _ _ hc42))) ?_
                refine b_if_ne (tgt := 140) (pc := 135) C dX9_readPerson_135 rfl (fun hc45 => ?_) (fun hc45 => ?_)
                · rw [if_neg hc45] at hF
                  refine b_aload_n (pc := 140) C dX9_readPerson_140 rfl 3 rfl ?_
                  refine b_getS (pc := 141) C dX9_readPerson_141 fl_X9_12 (Hh.1 _ _ sh_1) rfl ?_
                  obtain ⟨σ47, hc46, hF⟩ := bbv_e hF
                  refine b_cV0v (d' := (d + 6)) (pc := 144) C dX9_readPerson_144 mm_X9_80 (Hh.1 _ _ sh_2) rfl (Nat.le_of_ble_eq_true rfl) (by omega) (Hh.2.2 _ _ _ _ _ _ _ _ _ (lvl_eq (by omega) (e_X8_step (d + 5)  _ _ hc46))) ?_
                  refine b_aload_n (pc := 147) C dX9_readPerson_147 rfl 3 rfl ?_
                  refine b_iload_n (pc := 148) C dX9_readPerson_148 rfl 1 rfl ?_
                  obtain ⟨v50, σ49, hc48, hF⟩ := bbd_e hF
                  refine b_cV1i (d' := (d + 6)) (pc := 149) C dX9_readPerson_149 mm_X9_255 (Hh.1 _ _ sh_1) rfl (Nat.le_of_ble_eq_true rfl) (by omega) (Hh.2.2 _ _ _ _ _ _ _ _ _ (lvl_eq (by omega) (e_X9_readSeat (d + 3) x2_2 _ _ _ hc48))) ?_
                  obtain ⟨hz51, hF⟩ := bif_y hF
                  exact b_zret (pc := 152) C Rt dX9_readPerson_152 (bz_n hz51) hF
                · rw [if_pos hc45] at hF
                  refine b_iconst (pc := 138) C dX9_readPerson_138 ic_1 ?_
                  exact b_zret (pc := 139) C Rt dX9_readPerson_139 rfl hF
              · rw [if_pos hc33] at hF
                refine b_iconst (pc := 97) C dX9_readPerson_97 ic_0 ?_
                exact b_zret (pc := 98) C Rt dX9_readPerson_98 rfl hF
          · rw [if_pos hc25] at hF
            refine b_iconst (pc := 76) C dX9_readPerson_76 ic_0 ?_
            exact b_zret (pc := 77) C Rt dX9_readPerson_77 rfl hF
      · rw [if_pos hc14] at hF
        refine b_iconst (pc := 47) C dX9_readPerson_47 ic_0 ?_
        exact b_zret (pc := 48) C Rt dX9_readPerson_48 rfl hF
  · rw [if_neg hc4] at hF
    refine b_aload_n (pc := 19) C dX9_readPerson_19 rfl 2 rfl ?_
    refine b_iconst (pc := 20) C dX9_readPerson_20 ic_5 ?_
    obtain ⟨v54, σ53, hc52, hF⟩ := bbd_e hF
    refine b_cV1i (d' := (d + 6)) (pc := 21) C dX9_readPerson_21 mm_X9_83 (Hh.1 _ _ sh_1) rfl (Nat.le_of_ble_eq_true rfl) (by omega) (Hh.2.2 _ _ _ _ _ _ _ _ _ (lvl_eq (by omega) (e_X9_blame (d + 6) (5 : Int32) _ _ _ hc52))) ?_
    obtain ⟨hz55, hF⟩ := bif_y hF
    exact b_zret (pc := 24) C Rt dX9_readPerson_24 (bz_n hz55) hF
set_option maxHeartbeats 4000000 in
set_option maxRecDepth 20000 in
theorem e_X9_readPerson {l : Launch} {G : bG} {ρ : Nat → Nat} {A : Nat → Prop} (d : Nat)  (σ : bSto) (r : Int32) (σ' : bSto) (hF : f_X9_readPerson  σ = some (r, σ')) : bEv l G bSHf ρ A yX9_readPerson cX9_readPerson 5 (some .boolean) (d + 7) [.ref 1] σ (some (.int r)) σ' := b_met (d := d + 7) (by decide +kernel) (Nat.le_of_ble_eq_true rfl) rfl (fun X C Rt h1 h2 h3 => e_X9_readPerson_0 C ⟨fun o q h => by rw [h1]; exact h, fun i h => by rw [h2]; exact h, h3⟩ Rt  _ hF)
/-! BenchColony$Teller.findPerson -/
def f_X9_findPerson  (σ : bSto) : Option (Int32 × bSto) := bbd (f_X9_isName  σ) (fun v3 σ2 => (if v3 = 0 then bbd (f_X9_blame (1 : Int32) σ2) (fun v18 σ17 => if v18 = 0 ∨ v18 = 1 then some (v18, σ17) else none) else if kR (σ2.2.2 1 4) then bbd (f_X9_indexOf 6 (σ2.1 ((σ2.2.2 1 4) + 7) 7) (σ2.2.1 2 7) σ2) (fun v8 σ7 => blet (bI σ7 1 7 v8) (fun σ9 => (if (σ9.1 1 7) = (-1 : Int32) then bbd (f_X9_blame (2 : Int32) σ9) (fun v14 σ13 => (if v14 = 0 then some ((0 : Int32), σ13) else some ((1 : Int32), σ13))) else some ((1 : Int32), σ9)))) else none))
set_option maxHeartbeats 4000000 in
set_option maxRecDepth 20000 in
theorem e_X9_findPerson_0 {X : bX} {l : Launch} {G : bG} {ρ : Nat → Nat} {A : Nat → Prop} {d : Nat} {r : Int32} {σ' : bSto} (C : bCX X cX9_findPerson RX9 (d + 3)) (Hh : bH X l G bSHf ρ A 1) (Rt : bRX X (some .boolean) (some (.int r)) σ')  (σ : bSto) (hF : f_X9_findPerson  σ = some (r, σ')) : bAJ X 0 [(0, .ref 1)] [] σ := by
  rw [f_X9_findPerson] at hF
  refine b_aload_n (pc := 0) C dX9_findPerson_0 rfl 0 rfl ?_
  obtain ⟨v3, σ2, hc1, hF⟩ := bbd_e hF
  refine b_cV0i (d' := (d + 2)) (pc := 1) C dX9_findPerson_1 mm_X9_261 (Hh.1 _ _ sh_1) rfl (Nat.le_of_ble_eq_true rfl) (by omega) (Hh.2.2 _ _ _ _ _ _ _ _ _ (lvl_eq (by omega) (e_X9_isName (d + 0)  _ _ _ hc1))) ?_
  refine b_if_ne (tgt := 13) (pc := 4) C dX9_findPerson_4 rfl (fun hc4 => ?_) (fun hc4 => ?_)
  · rw [if_neg hc4] at hF
    refine b_aload_n (pc := 13) C dX9_findPerson_13 rfl 0 rfl ?_
    refine b_aload_n (pc := 14) C dX9_findPerson_14 rfl 0 rfl ?_
    refine b_getS (pc := 15) C dX9_findPerson_15 fl_X9_25 (Hh.1 _ _ sh_1) rfl ?_
    refine b_aload_n (pc := 18) C dX9_findPerson_18 rfl 0 rfl ?_
    obtain ⟨hk5, hF⟩ := bif_y hF
    refine b_getR (pc := 19) C dX9_findPerson_19 fl_X9_31 (Hh.1 _ _ sh_1) rfl ?_
    refine b_getS (pc := 22) C dX9_findPerson_22 fl_X9_132 (Hh.1 _ _ (shR hk5)) rfl ?_
    refine b_getI (pc := 25) C dX9_findPerson_25 fl_X9_136 (Hh.1 _ _ (shF (kk_7_1 hk5))) rfl ?_
    refine b_aload_n (pc := 28) C dX9_findPerson_28 rfl 0 rfl ?_
    refine b_getS (pc := 29) C dX9_findPerson_29 fl_X9_12 (Hh.1 _ _ sh_1) rfl ?_
    refine b_getJ (pc := 32) C dX9_findPerson_32 fl_X9_196 (Hh.1 _ _ sh_2) rfl ?_
    obtain ⟨v8, σ7, hc6, hF⟩ := bbd_e hF
    refine b_cS3i (d' := (d + 2)) (pc := 35) C dX9_findPerson_35 mm_X9_264 (Nat.le_of_ble_eq_true rfl) (by omega) (Hh.2.2 _ _ _ _ _ _ _ _ _ (lvl_eq (by omega) (e_X9_indexOf (d + 2) _ (show kJA 6 from sh_6) (σ2.1 ((σ2.2.2 1 4) + 7) 7) (σ2.2.1 2 7) _ _ _ hc6))) ?_
    obtain ⟨σ9, e10, hF⟩ := blet_e hF
    refine b_putI (pc := 38) C dX9_findPerson_38 fp_X9_164 (Hh.1 _ _ sh_1) rfl rfl rfl e10 ?_
    refine b_aload_n (pc := 41) C dX9_findPerson_41 rfl 0 rfl ?_
    refine b_getI (pc := 42) C dX9_findPerson_42 fl_X9_164 (Hh.1 _ _ sh_1) rfl ?_
    refine b_iconst (pc := 45) C dX9_findPerson_45 ic_m1 ?_
    refine b_icmp_ne (tgt := 57) (pc := 46) C dX9_findPerson_46 rfl (fun hc11 => ?_) (fun hc11 => ?_)
    · rw [if_neg hc11] at hF
      refine b_iconst (pc := 57) C dX9_findPerson_57 ic_1 ?_
      refine b_goto (tgt := 62) (pc := 58) C dX9_findPerson_58 rfl ?_
      exact b_zret (pc := 62) C Rt dX9_findPerson_62 rfl hF
    · rw [if_pos hc11] at hF
      refine b_aload_n (pc := 49) C dX9_findPerson_49 rfl 0 rfl ?_
      refine b_iconst (pc := 50) C dX9_findPerson_50 ic_2 ?_
      obtain ⟨v14, σ13, hc12, hF⟩ := bbd_e hF
      refine b_cV1i (d' := (d + 2)) (pc := 51) C dX9_findPerson_51 mm_X9_83 (Hh.1 _ _ sh_1) rfl (Nat.le_of_ble_eq_true rfl) (by omega) (Hh.2.2 _ _ _ _ _ _ _ _ _ (lvl_eq (by omega) (e_X9_blame (d + 2) (2 : Int32) _ _ _ hc12))) ?_
      refine b_if_eq (tgt := 61) (pc := 54) C dX9_findPerson_54 rfl (fun hc15 => ?_) (fun hc15 => ?_)
      · rw [if_pos hc15] at hF
        refine b_iconst (pc := 61) C dX9_findPerson_61 ic_0 ?_
        exact b_zret (pc := 62) C Rt dX9_findPerson_62 rfl hF
      · rw [if_neg hc15] at hF
        refine b_iconst (pc := 57) C dX9_findPerson_57 ic_1 ?_
        refine b_goto (tgt := 62) (pc := 58) C dX9_findPerson_58 rfl ?_
        exact b_zret (pc := 62) C Rt dX9_findPerson_62 rfl hF
  · rw [if_pos hc4] at hF
    refine b_aload_n (pc := 7) C dX9_findPerson_7 rfl 0 rfl ?_
    refine b_iconst (pc := 8) C dX9_findPerson_8 ic_1 ?_
    obtain ⟨v18, σ17, hc16, hF⟩ := bbd_e hF
    refine b_cV1i (d' := (d + 2)) (pc := 9) C dX9_findPerson_9 mm_X9_83 (Hh.1 _ _ sh_1) rfl (Nat.le_of_ble_eq_true rfl) (by omega) (Hh.2.2 _ _ _ _ _ _ _ _ _ (lvl_eq (by omega) (e_X9_blame (d + 2) (1 : Int32) _ _ _ hc16))) ?_
    obtain ⟨hz19, hF⟩ := bif_y hF
    exact b_zret (pc := 12) C Rt dX9_findPerson_12 (bz_n hz19) hF
set_option maxHeartbeats 4000000 in
set_option maxRecDepth 20000 in
theorem e_X9_findPerson {l : Launch} {G : bG} {ρ : Nat → Nat} {A : Nat → Prop} (d : Nat)  (σ : bSto) (r : Int32) (σ' : bSto) (hF : f_X9_findPerson  σ = some (r, σ')) : bEv l G bSHf ρ A yX9_findPerson cX9_findPerson 1 (some .boolean) (d + 3) [.ref 1] σ (some (.int r)) σ' := b_met (d := d + 3) (by decide +kernel) (Nat.le_of_ble_eq_true rfl) rfl (fun X C Rt h1 h2 h3 => e_X9_findPerson_0 C ⟨fun o q h => by rw [h1]; exact h, fun i h => by rw [h2]; exact h, h3⟩ Rt  _ hF)
/-! BenchColony$Teller.readKin -/
def f_X9_readKin_J56  (σ : bSto) : Option (Int32 × bSto) := bbd (f_X9_blame (3 : Int32) σ) (fun v3 σ2 => if v3 = 0 ∨ v3 = 1 then some (v3, σ2) else none)
def f_X9_readKin  (σ : bSto) : Option (Int32 × bSto) := bbd (f_X9_findPerson  σ) (fun v3 σ2 => (if v3 = 0 then some ((0 : Int32), σ2) else blet (σ2.1 1 7) (fun x1_5 => bbv (f_X8_step  σ2) (fun σ8 => bbd (f_X9_findPerson  σ8) (fun v11 σ10 => (if v11 = 0 then some ((0 : Int32), σ10) else (if (σ10.1 1 7) = x1_5 then f_X9_readKin_J56  σ10 else if kR (σ10.2.2 1 4) then bbd (f_X2_areKin ((σ10.2.2 1 4) + 7) x1_5 (σ10.1 1 7) σ10) (fun v17 σ16 => (if v17 = 0 then if kR (σ16.2.2 1 4) then bbv (f_X2_addKin ((σ16.2.2 1 4) + 7) x1_5 (σ16.1 1 7) σ16) (fun σ21 => bbv (f_X8_step  σ21) (fun σ23 => some ((1 : Int32), σ23))) else none else f_X9_readKin_J56  σ16)) else none)))))))
set_option maxHeartbeats 4000000 in
set_option maxRecDepth 20000 in
theorem e_X9_readKin_J56 {X : bX} {l : Launch} {G : bG} {ρ : Nat → Nat} {A : Nat → Prop} {d : Nat} {r : Int32} {σ' : bSto} (C : bCX X cX9_readKin RX9 (d + 4)) (Hh : bH X l G bSHf ρ A 2) (Rt : bRX X (some .boolean) (some (.int r)) σ')  (σ : bSto) (hF : f_X9_readKin_J56  σ = some (r, σ')) : bAJ X 56 [(0, .ref 1)] [] σ := by
  rw [f_X9_readKin_J56] at hF
  refine b_aload_n (pc := 56) C dX9_readKin_56 rfl 0 rfl ?_
  refine b_iconst (pc := 57) C dX9_readKin_57 ic_3 ?_
  obtain ⟨v3, σ2, hc1, hF⟩ := bbd_e hF
  refine b_cV1i (d' := (d + 3)) (pc := 58) C dX9_readKin_58 mm_X9_83 (Hh.1 _ _ sh_1) rfl (Nat.le_of_ble_eq_true rfl) (by omega) (Hh.2.2 _ _ _ _ _ _ _ _ _ (lvl_eq (by omega) (e_X9_blame (d + 3) (3 : Int32) _ _ _ hc1))) ?_
  obtain ⟨hz4, hF⟩ := bif_y hF
  exact b_zret (pc := 61) C Rt dX9_readKin_61 (bz_n hz4) hF
set_option maxHeartbeats 4000000 in
set_option maxRecDepth 20000 in
theorem e_X9_readKin_0 {X : bX} {l : Launch} {G : bG} {ρ : Nat → Nat} {A : Nat → Prop} {d : Nat} {r : Int32} {σ' : bSto} (C : bCX X cX9_readKin RX9 (d + 4)) (Hh : bH X l G bSHf ρ A 2) (Rt : bRX X (some .boolean) (some (.int r)) σ')  (σ : bSto) (hF : f_X9_readKin  σ = some (r, σ')) : bAJ X 0 [(0, .ref 1)] [] σ := by
  rw [f_X9_readKin] at hF
  refine b_aload_n (pc := 0) C dX9_readKin_0 rfl 0 rfl ?_
  obtain ⟨v3, σ2, hc1, hF⟩ := bbd_e hF
  refine b_cV0i (d' := (d + 3)) (pc := 1) C dX9_readKin_1 mm_X9_278 (Hh.1 _ _ sh_1) rfl (Nat.le_of_ble_eq_true rfl) (by omega) (Hh.2.2 _ _ _ _ _ _ _ _ _ (lvl_eq (by omega) (e_X9_findPerson (d + 0)  _ _ _ hc1))) ?_
  refine b_if_ne (tgt := 9) (pc := 4) C dX9_readKin_4 rfl (fun hc4 => ?_) (fun hc4 => ?_)
  · rw [if_neg hc4] at hF
    refine b_aload_n (pc := 9) C dX9_readKin_9 rfl 0 rfl ?_
    refine b_getI (pc := 10) C dX9_readKin_10 fl_X9_164 (Hh.1 _ _ sh_1) rfl ?_
    obtain ⟨x1_5, e6, hF⟩ := blet_e hF
    refine b_istore_n (L' := [(1, .int x1_5), (0, .ref 1)]) (pc := 13) C dX9_readKin_13 rfl e6 (Hh.2.1 _ (Nat.le_of_ble_eq_true rfl)) rfl ?_
    refine b_aload_n (pc := 14) C dX9_readKin_14 rfl 1 rfl ?_
    refine b_getS (pc := 15) C dX9_readKin_15 fl_X9_12 (Hh.1 _ _ sh_1) rfl ?_
    obtain ⟨σ8, hc7, hF⟩ := bbv_e hF
    refine b_cV0v (d' := (d + 3)) (pc := 18) C dX9_readKin_18 mm_X9_80 (Hh.1 _ _ sh_2) rfl (Nat.le_of_ble_eq_true rfl) (by omega) (Hh.2.2 _ _ _ _ _ _ _ _ _ (lvl_eq (by omega) (e_X8_step (d + 2)  _ _ hc7))) ?_
    refine b_aload_n (pc := 21) C dX9_readKin_21 rfl 1 rfl ?_
    obtain ⟨v11, σ10, hc9, hF⟩ := bbd_e hF
    refine b_cV0i (d' := (d + 3)) (pc := 22) C dX9_readKin_22 mm_X9_278 (Hh.1 _ _ sh_1) rfl (Nat.le_of_ble_eq_true rfl) (by omega) (Hh.2.2 _ _ _ _ _ _ _ _ _ (lvl_eq (by omega) (e_X9_findPerson (d + 0)  _ _ _ hc9))) ?_
    refine b_if_ne (tgt := 30) (pc := 25) C dX9_readKin_25 rfl (fun hc12 => ?_) (fun hc12 => ?_)
    · rw [if_neg hc12] at hF
      refine b_aload_n (pc := 30) C dX9_readKin_30 rfl 1 rfl ?_
      refine b_getI (pc := 31) C dX9_readKin_31 fl_X9_164 (Hh.1 _ _ sh_1) rfl ?_
      refine b_iload_n (pc := 34) C dX9_readKin_34 rfl 0 rfl ?_
      refine b_icmp_eq (tgt := 56) (pc := 35) C dX9_readKin_35 rfl (fun hc13 => ?_) (fun hc13 => ?_)
      · rw [if_pos hc13] at hF
        exact b_sub [1] rfl (e_X9_readKin_J56 C Hh Rt  _ hF)
      · rw [if_neg hc13] at hF
        refine b_aload_n (pc := 38) C dX9_readKin_38 rfl 1 rfl ?_
        obtain ⟨hk14, hF⟩ := bif_y hF
        refine b_getR (pc := 39) C dX9_readKin_39 fl_X9_31 (Hh.1 _ _ sh_1) rfl ?_
        refine b_getS (pc := 42) C dX9_readKin_42 fl_X9_132 (Hh.1 _ _ (shR hk14)) rfl ?_
        refine b_iload_n (pc := 45) C dX9_readKin_45 rfl 0 rfl ?_
        refine b_aload_n (pc := 46) C dX9_readKin_46 rfl 1 rfl ?_
        refine b_getI (pc := 47) C dX9_readKin_47 fl_X9_164 (Hh.1 _ _ sh_1) rfl ?_
        obtain ⟨v17, σ16, hc15, hF⟩ := bbd_e hF
        refine b_cV2i (d' := (d + 3)) (pc := 50) C dX9_readKin_50 mm_X9_281 (Hh.1 _ _ (shF (kk_7_1 hk14))) rfl (Nat.le_of_ble_eq_true rfl) (by omega) (Hh.2.2 _ _ _ _ _ _ _ _ _ (lvl_eq (by omega) (e_X2_areKin (d + 3) _ (kk_7_1 hk14) x1_5 (σ10.1 1 7) _ _ _ hc15))) ?_
        refine b_if_eq (tgt := 62) (pc := 53) C dX9_readKin_53 rfl (fun hc18 => ?_) (fun hc18 => ?_)
        · rw [if_pos hc18] at hF
          refine b_aload_n (pc := 62) C dX9_readKin_62 rfl 1 rfl ?_
          obtain ⟨hk19, hF⟩ := bif_y hF
          refine b_getR (pc := 63) C dX9_readKin_63 fl_X9_31 (Hh.1 _ _ sh_1) rfl ?_
          refine b_getS (pc := 66) C dX9_readKin_66 fl_X9_132 (Hh.1 _ _ (shR hk19)) rfl ?_
          refine b_iload_n (pc := 69) C dX9_readKin_69 rfl 0 rfl ?_
          refine b_aload_n (pc := 70) C dX9_readKin_70 rfl 1 rfl ?_
          refine b_getI (pc := 71) C dX9_readKin_71 fl_X9_164 (Hh.1 _ _ sh_1) rfl ?_
          obtain ⟨σ21, hc20, hF⟩ := bbv_e hF
          refine b_cV2v (d' := (d + 3)) (pc := 74) C dX9_readKin_74 mm_X9_284 (Hh.1 _ _ (shF (kk_7_1 hk19))) rfl (Nat.le_of_ble_eq_true rfl) (by omega) (Hh.2.2 _ _ _ _ _ _ _ _ _ (lvl_eq (by omega) (e_X2_addKin (d + 3) _ (kk_7_1 hk19) x1_5 (σ16.1 1 7) _ _ hc20))) ?_
          refine b_aload_n (pc := 77) C dX9_readKin_77 rfl 1 rfl ?_
          refine b_getS (pc := 78) C dX9_readKin_78 fl_X9_12 (Hh.1 _ _ sh_1) rfl ?_
          obtain ⟨σ23, hc22, hF⟩ := bbv_e hF
          refine b_cV0v (d' := (d + 3)) (pc := 81) C dX9_readKin_81 mm_X9_80 (Hh.1 _ _ sh_2) rfl (Nat.le_of_ble_eq_true rfl) (by omega) (Hh.2.2 _ _ _ _ _ _ _ _ _ (lvl_eq (by omega) (e_X8_step (d + 2)  _ _ hc22))) ?_
          refine b_iconst (pc := 84) C dX9_readKin_84 ic_1 ?_
          exact b_zret (pc := 85) C Rt dX9_readKin_85 rfl hF
        · rw [if_neg hc18] at hF
          exact b_sub [1] rfl (e_X9_readKin_J56 C Hh Rt  _ hF)
    · rw [if_pos hc12] at hF
      refine b_iconst (pc := 28) C dX9_readKin_28 ic_0 ?_
      exact b_zret (pc := 29) C Rt dX9_readKin_29 rfl hF
  · rw [if_pos hc4] at hF
    refine b_iconst (pc := 7) C dX9_readKin_7 ic_0 ?_
    exact b_zret (pc := 8) C Rt dX9_readKin_8 rfl hF
set_option maxHeartbeats 4000000 in
set_option maxRecDepth 20000 in
theorem e_X9_readKin {l : Launch} {G : bG} {ρ : Nat → Nat} {A : Nat → Prop} (d : Nat)  (σ : bSto) (r : Int32) (σ' : bSto) (hF : f_X9_readKin  σ = some (r, σ')) : bEv l G bSHf ρ A yX9_readKin cX9_readKin 2 (some .boolean) (d + 4) [.ref 1] σ (some (.int r)) σ' := b_met (d := d + 4) (by decide +kernel) (Nat.le_of_ble_eq_true rfl) rfl (fun X C Rt h1 h2 h3 => e_X9_readKin_0 C ⟨fun o q h => by rw [h1]; exact h, fun i h => by rw [h2]; exact h, h3⟩ Rt  _ hF)
/-! BenchColony$Teller.readHeeds -/
def f_X9_readHeeds_J55  (σ : bSto) : Option (Int32 × bSto) := bbd (f_X9_blame (3 : Int32) σ) (fun v3 σ2 => if v3 = 0 ∨ v3 = 1 then some (v3, σ2) else none)
def f_X9_readHeeds  (σ : bSto) : Option (Int32 × bSto) := bbd (f_X9_findPerson  σ) (fun v3 σ2 => (if v3 = 0 then some ((0 : Int32), σ2) else blet (σ2.1 1 7) (fun x1_5 => bbv (f_X8_step  σ2) (fun σ8 => bbd (f_X9_findPerson  σ8) (fun v11 σ10 => (if v11 = 0 then some ((0 : Int32), σ10) else blet (σ10.1 1 7) (fun x2_13 => (if x2_13 = x1_5 then f_X9_readHeeds_J55  σ10 else if kR (σ10.2.2 1 4) then bbd (f_X2_heeds ((σ10.2.2 1 4) + 7) x1_5 x2_13 σ10) (fun v19 σ18 => (if v19 = 0 then bbv (f_X8_step  σ18) (fun σ22 => bbd (f_X9_readWord 27 σ22) (fun v25 σ24 => (if v25 = 0 then some ((0 : Int32), σ24) else bbd (f_X9_readWhole (1 : Int32) (9 : Int32) σ24) (fun v29 σ28 => (if v29 = 0 then some ((0 : Int32), σ28) else if kR (σ28.2.2 1 4) then bbv (f_X2_addHeed ((σ28.2.2 1 4) + 7) x1_5 x2_13 (σ28.1 1 7) σ28) (fun σ33 => some ((1 : Int32), σ33)) else none))))) else f_X9_readHeeds_J55  σ18)) else none))))))))
set_option maxHeartbeats 4000000 in
set_option maxRecDepth 20000 in
theorem e_X9_readHeeds_J55 {X : bX} {l : Launch} {G : bG} {ρ : Nat → Nat} {A : Nat → Prop} {d : Nat} {r : Int32} {σ' : bSto} (C : bCX X cX9_readHeeds RX9 (d + 7)) (Hh : bH X l G bSHf ρ A 3) (Rt : bRX X (some .boolean) (some (.int r)) σ')  (σ : bSto) (hF : f_X9_readHeeds_J55  σ = some (r, σ')) : bAJ X 55 [(0, .ref 1)] [] σ := by
  rw [f_X9_readHeeds_J55] at hF
  refine b_aload_n (pc := 55) C dX9_readHeeds_55 rfl 0 rfl ?_
  refine b_iconst (pc := 56) C dX9_readHeeds_56 ic_3 ?_
  obtain ⟨v3, σ2, hc1, hF⟩ := bbd_e hF
  refine b_cV1i (d' := (d + 6)) (pc := 57) C dX9_readHeeds_57 mm_X9_83 (Hh.1 _ _ sh_1) rfl (Nat.le_of_ble_eq_true rfl) (by omega) (Hh.2.2 _ _ _ _ _ _ _ _ _ (lvl_eq (by omega) (e_X9_blame (d + 6) (3 : Int32) _ _ _ hc1))) ?_
  obtain ⟨hz4, hF⟩ := bif_y hF
  exact b_zret (pc := 60) C Rt dX9_readHeeds_60 (bz_n hz4) hF
set_option maxHeartbeats 4000000 in
set_option maxRecDepth 20000 in
theorem e_X9_readHeeds_0 {X : bX} {l : Launch} {G : bG} {ρ : Nat → Nat} {A : Nat → Prop} {d : Nat} {r : Int32} {σ' : bSto} (C : bCX X cX9_readHeeds RX9 (d + 7)) (Hh : bH X l G bSHf ρ A 3) (Rt : bRX X (some .boolean) (some (.int r)) σ')  (σ : bSto) (hF : f_X9_readHeeds  σ = some (r, σ')) : bAJ X 0 [(0, .ref 1)] [] σ := by
  rw [f_X9_readHeeds] at hF
  refine b_aload_n (pc := 0) C dX9_readHeeds_0 rfl 0 rfl ?_
  obtain ⟨v3, σ2, hc1, hF⟩ := bbd_e hF
  refine b_cV0i (d' := (d + 6)) (pc := 1) C dX9_readHeeds_1 mm_X9_278 (Hh.1 _ _ sh_1) rfl (Nat.le_of_ble_eq_true rfl) (by omega) (Hh.2.2 _ _ _ _ _ _ _ _ _ (lvl_eq (by omega) (e_X9_findPerson (d + 3)  _ _ _ hc1))) ?_
  refine b_if_ne (tgt := 9) (pc := 4) C dX9_readHeeds_4 rfl (fun hc4 => ?_) (fun hc4 => ?_)
  · rw [if_neg hc4] at hF
    refine b_aload_n (pc := 9) C dX9_readHeeds_9 rfl 0 rfl ?_
    refine b_getI (pc := 10) C dX9_readHeeds_10 fl_X9_164 (Hh.1 _ _ sh_1) rfl ?_
    obtain ⟨x1_5, e6, hF⟩ := blet_e hF
    refine b_istore_n (L' := [(1, .int x1_5), (0, .ref 1)]) (pc := 13) C dX9_readHeeds_13 rfl e6 (Hh.2.1 _ (Nat.le_of_ble_eq_true rfl)) rfl ?_
    refine b_aload_n (pc := 14) C dX9_readHeeds_14 rfl 1 rfl ?_
    refine b_getS (pc := 15) C dX9_readHeeds_15 fl_X9_12 (Hh.1 _ _ sh_1) rfl ?_
    obtain ⟨σ8, hc7, hF⟩ := bbv_e hF
    refine b_cV0v (d' := (d + 6)) (pc := 18) C dX9_readHeeds_18 mm_X9_80 (Hh.1 _ _ sh_2) rfl (Nat.le_of_ble_eq_true rfl) (by omega) (Hh.2.2 _ _ _ _ _ _ _ _ _ (lvl_eq (by omega) (e_X8_step (d + 5)  _ _ hc7))) ?_
    refine b_aload_n (pc := 21) C dX9_readHeeds_21 rfl 1 rfl ?_
    obtain ⟨v11, σ10, hc9, hF⟩ := bbd_e hF
    refine b_cV0i (d' := (d + 6)) (pc := 22) C dX9_readHeeds_22 mm_X9_278 (Hh.1 _ _ sh_1) rfl (Nat.le_of_ble_eq_true rfl) (by omega) (Hh.2.2 _ _ _ _ _ _ _ _ _ (lvl_eq (by omega) (e_X9_findPerson (d + 3)  _ _ _ hc9))) ?_
    refine b_if_ne (tgt := 30) (pc := 25) C dX9_readHeeds_25 rfl (fun hc12 => ?_) (fun hc12 => ?_)
    · rw [if_neg hc12] at hF
      refine b_aload_n (pc := 30) C dX9_readHeeds_30 rfl 1 rfl ?_
      refine b_getI (pc := 31) C dX9_readHeeds_31 fl_X9_164 (Hh.1 _ _ sh_1) rfl ?_
      obtain ⟨x2_13, e14, hF⟩ := blet_e hF
      refine b_istore_n (L' := [(2, .int x2_13), (1, .int x1_5), (0, .ref 1)]) (pc := 34) C dX9_readHeeds_34 rfl e14 (Hh.2.1 _ (Nat.le_of_ble_eq_true rfl)) rfl ?_
      refine b_iload_n (pc := 35) C dX9_readHeeds_35 rfl 0 rfl ?_
      refine b_iload_n (pc := 36) C dX9_readHeeds_36 rfl 1 rfl ?_
      refine b_icmp_eq (tgt := 55) (pc := 37) C dX9_readHeeds_37 rfl (fun hc15 => ?_) (fun hc15 => ?_)
      · rw [if_pos hc15] at hF
        exact b_sub [2] rfl (e_X9_readHeeds_J55 C Hh Rt  _ hF)
      · rw [if_neg hc15] at hF
        refine b_aload_n (pc := 40) C dX9_readHeeds_40 rfl 2 rfl ?_
        obtain ⟨hk16, hF⟩ := bif_y hF
        refine b_getR (pc := 41) C dX9_readHeeds_41 fl_X9_31 (Hh.1 _ _ sh_1) rfl ?_
        refine b_getS (pc := 44) C dX9_readHeeds_44 fl_X9_132 (Hh.1 _ _ (shR hk16)) rfl ?_
        refine b_iload_n (pc := 47) C dX9_readHeeds_47 rfl 1 rfl ?_
        refine b_iload_n (pc := 48) C dX9_readHeeds_48 rfl 0 rfl ?_
        obtain ⟨v19, σ18, hc17, hF⟩ := bbd_e hF
        refine b_cV2i (d' := (d + 6)) (pc := 49) C dX9_readHeeds_49 mm_X9_288 (Hh.1 _ _ (shF (kk_7_1 hk16))) rfl (Nat.le_of_ble_eq_true rfl) (by omega) (Hh.2.2 _ _ _ _ _ _ _ _ _ (lvl_eq (by omega) (e_X2_heeds (d + 6) _ (kk_7_1 hk16) x1_5 x2_13 _ _ _ hc17))) ?_
        refine b_if_eq (tgt := 61) (pc := 52) C dX9_readHeeds_52 rfl (fun hc20 => ?_) (fun hc20 => ?_)
        · rw [if_pos hc20] at hF
          refine b_aload_n (pc := 61) C dX9_readHeeds_61 rfl 2 rfl ?_
          refine b_getS (pc := 62) C dX9_readHeeds_62 fl_X9_12 (Hh.1 _ _ sh_1) rfl ?_
          obtain ⟨σ22, hc21, hF⟩ := bbv_e hF
          refine b_cV0v (d' := (d + 6)) (pc := 65) C dX9_readHeeds_65 mm_X9_80 (Hh.1 _ _ sh_2) rfl (Nat.le_of_ble_eq_true rfl) (by omega) (Hh.2.2 _ _ _ _ _ _ _ _ _ (lvl_eq (by omega) (e_X8_step (d + 5)  _ _ hc21))) ?_
          refine b_aload_n (pc := 68) C dX9_readHeeds_68 rfl 2 rfl ?_
          refine b_ldcSw (pc := 69) C dX9_readHeeds_69 "weight" 10 rfl ?_
          obtain ⟨v25, σ24, hc23, hF⟩ := bbd_e hF
          refine b_cV1i (d' := (d + 6)) (pc := 72) C dX9_readHeeds_72 mm_X9_156 (Hh.1 _ _ sh_1) rfl (Nat.le_of_ble_eq_true rfl) (by omega) (Hh.2.2 _ _ _ _ _ _ _ _ _ (lvl_eq (by omega) (e_X9_readWord (d + 0) _ (by decide) _ _ _ hc23))) ?_
          refine b_if_eq (tgt := 88) (pc := 75) C dX9_readHeeds_75 rfl (fun hc26 => ?_) (fun hc26 => ?_)
          · rw [if_pos hc26] at hF
            refine b_iconst (pc := 88) C dX9_readHeeds_88 ic_0 ?_
            exact b_zret (pc := 89) C Rt dX9_readHeeds_89 rfl hF
          · rw [if_neg hc26] at hF
            refine b_aload_n (pc := 78) C dX9_readHeeds_78 rfl 2 rfl ?_
            refine b_iconst (pc := 79) C dX9_readHeeds_79 ic_1 ?_
            refine b_bipush (pc := 80) C dX9_readHeeds_80 bp_9 ?_
            obtain ⟨v29, σ28, hc27, hF⟩ := bbd_e hF
            refine b_cV2i (d' := (d + 6)) (pc := 82) C dX9_readHeeds_82 mm_X9_160 (Hh.1 _ _ sh_1) rfl (Nat.le_of_ble_eq_true rfl) (by omega) (Hh.2.2 _ _ _ _ _ _ _ _ _ (lvl_eq (by omega) (e_X9_readWhole (d + 4) (1 : Int32) (9 : Int32) _ _ _ hc27))) ?_
            refine b_if_ne (tgt := 90) (pc := 85) C dX9_readHeeds_85 rfl (fun hc30 => ?_) (fun hc30 => ?_)
            · rw [if_neg hc30] at hF
              refine b_aload_n (pc := 90) C dX9_readHeeds_90 rfl 2 rfl ?_
              obtain ⟨hk31, hF⟩ := bif_y hF
              refine b_getR (pc := 91) C dX9_readHeeds_91 fl_X9_31 (Hh.1 _ _ sh_1) rfl ?_
              refine b_getS (pc := 94) C dX9_readHeeds_94 fl_X9_132 (Hh.1 _ _ (shR hk31)) rfl ?_
              refine b_iload_n (pc := 97) C dX9_readHeeds_97 rfl 1 rfl ?_
              refine b_iload_n (pc := 98) C dX9_readHeeds_98 rfl 0 rfl ?_
              refine b_aload_n (pc := 99) C dX9_readHeeds_99 rfl 2 rfl ?_
              refine b_getI (pc := 100) C dX9_readHeeds_100 fl_X9_164 (Hh.1 _ _ sh_1) rfl ?_
              obtain ⟨σ33, hc32, hF⟩ := bbv_e hF
              refine b_cV3v (d' := (d + 6)) (pc := 103) C dX9_readHeeds_103 mm_X9_292 (Hh.1 _ _ (shF (kk_7_1 hk31))) rfl (Nat.le_of_ble_eq_true rfl) (by omega) (Hh.2.2 _ _ _ _ _ _ _ _ _ (lvl_eq (by omega) (e_X2_addHeed (d + 6) _ (kk_7_1 hk31) x1_5 x2_13 (σ28.1 1 7) _ _ hc32))) ?_
              refine b_iconst (pc := 106) C dX9_readHeeds_106 ic_1 ?_
              exact b_zret (pc := 107) C Rt dX9_readHeeds_107 rfl hF
            · rw [if_pos hc30] at hF
              refine b_iconst (pc := 88) C dX9_readHeeds_88 ic_0 ?_
              exact b_zret (pc := 89) C Rt dX9_readHeeds_89 rfl hF
        · rw [if_neg hc20] at hF
          exact b_sub [2] rfl (e_X9_readHeeds_J55 C Hh Rt  _ hF)
    · rw [if_pos hc12] at hF
      refine b_iconst (pc := 28) C dX9_readHeeds_28 ic_0 ?_
      exact b_zret (pc := 29) C Rt dX9_readHeeds_29 rfl hF
  · rw [if_pos hc4] at hF
    refine b_iconst (pc := 7) C dX9_readHeeds_7 ic_0 ?_
    exact b_zret (pc := 8) C Rt dX9_readHeeds_8 rfl hF
set_option maxHeartbeats 4000000 in
set_option maxRecDepth 20000 in
theorem e_X9_readHeeds {l : Launch} {G : bG} {ρ : Nat → Nat} {A : Nat → Prop} (d : Nat)  (σ : bSto) (r : Int32) (σ' : bSto) (hF : f_X9_readHeeds  σ = some (r, σ')) : bEv l G bSHf ρ A yX9_readHeeds cX9_readHeeds 3 (some .boolean) (d + 7) [.ref 1] σ (some (.int r)) σ' := b_met (d := d + 7) (by decide +kernel) (Nat.le_of_ble_eq_true rfl) rfl (fun X C Rt h1 h2 h3 => e_X9_readHeeds_0 C ⟨fun o q h => by rw [h1]; exact h, fun i h => by rw [h2]; exact h, h3⟩ Rt  _ hF)
/-! BenchColony$Teller.readBelief -/
def f_X9_readBelief (x1 : Int32) (σ : bSto) : Option (Int32 × bSto) := bbd (f_X9_findPerson  σ) (fun v3 σ2 => (if v3 = 0 then some ((0 : Int32), σ2) else if kR (σ2.2.2 1 4) then if (σ2.1 1 7) < 0 ∨ 7 ≤ (σ2.1 1 7).toNatClampNeg then none else (if (σ2.1 (((σ2.2.2 1 4) + 20) + 2) (σ2.1 1 7).toNatClampNeg) = 0 then if kR (σ2.2.2 1 4) then if (σ2.1 1 7) < 0 ∨ 7 ≤ (σ2.1 1 7).toNatClampNeg then none else blet (bI σ2 (((σ2.2.2 1 4) + 20) + 2) (σ2.1 1 7).toNatClampNeg x1) (fun σ9 => bbv (f_X8_step  σ9) (fun σ13 => some ((1 : Int32), σ13))) else none else bbd (f_X9_blame (3 : Int32) σ2) (fun v16 σ15 => if v16 = 0 ∨ v16 = 1 then some (v16, σ15) else none)) else none))
set_option maxHeartbeats 4000000 in
set_option maxRecDepth 20000 in
theorem e_X9_readBelief_0 {X : bX} {l : Launch} {G : bG} {ρ : Nat → Nat} {A : Nat → Prop} {d : Nat} {r : Int32} {σ' : bSto} (C : bCX X cX9_readBelief RX9 (d + 4)) (Hh : bH X l G bSHf ρ A 2) (Rt : bRX X (some .boolean) (some (.int r)) σ') (x1 : Int32) (σ : bSto) (hF : f_X9_readBelief x1 σ = some (r, σ')) : bAJ X 0 [(0, .ref 1), (1, .int x1)] [] σ := by
  rw [f_X9_readBelief] at hF
  refine b_aload_n (pc := 0) C dX9_readBelief_0 rfl 0 rfl ?_
  obtain ⟨v3, σ2, hc1, hF⟩ := bbd_e hF
  refine b_cV0i (d' := (d + 3)) (pc := 1) C dX9_readBelief_1 mm_X9_278 (Hh.1 _ _ sh_1) rfl (Nat.le_of_ble_eq_true rfl) (by omega) (Hh.2.2 _ _ _ _ _ _ _ _ _ (lvl_eq (by omega) (e_X9_findPerson (d + 0)  _ _ _ hc1))) ?_
  refine b_if_ne (tgt := 9) (pc := 4) C dX9_readBelief_4 rfl (fun hc4 => ?_) (fun hc4 => ?_)
  · rw [if_neg hc4] at hF
    refine b_aload_n (pc := 9) C dX9_readBelief_9 rfl 0 rfl ?_
    obtain ⟨hk5, hF⟩ := bif_y hF
    refine b_getR (pc := 10) C dX9_readBelief_10 fl_X9_31 (Hh.1 _ _ sh_1) rfl ?_
    refine b_getS (pc := 13) C dX9_readBelief_13 fl_X9_187 (Hh.1 _ _ (shR hk5)) rfl ?_
    refine b_getS (pc := 16) C dX9_readBelief_16 fl_X9_296 (Hh.1 _ _ (shN (kk_7_3 hk5))) rfl ?_
    refine b_aload_n (pc := 19) C dX9_readBelief_19 rfl 0 rfl ?_
    refine b_getI (pc := 20) C dX9_readBelief_20 fl_X9_164 (Hh.1 _ _ sh_1) rfl ?_
    obtain ⟨hb6, hF⟩ := bif_n hF
    refine b_iald (pc := 23) C dX9_readBelief_23 (Hh.1 _ _ (sa_4_1 (kk_7_3 hk5))) hb6 ?_
    refine b_if_eq (tgt := 33) (pc := 24) C dX9_readBelief_24 rfl (fun hc7 => ?_) (fun hc7 => ?_)
    · rw [if_pos hc7] at hF
      refine b_aload_n (pc := 33) C dX9_readBelief_33 rfl 0 rfl ?_
      obtain ⟨hk8, hF⟩ := bif_y hF
      refine b_getR (pc := 34) C dX9_readBelief_34 fl_X9_31 (Hh.1 _ _ sh_1) rfl ?_
      refine b_getS (pc := 37) C dX9_readBelief_37 fl_X9_187 (Hh.1 _ _ (shR hk8)) rfl ?_
      refine b_getS (pc := 40) C dX9_readBelief_40 fl_X9_296 (Hh.1 _ _ (shN (kk_7_3 hk8))) rfl ?_
      refine b_aload_n (pc := 43) C dX9_readBelief_43 rfl 0 rfl ?_
      refine b_getI (pc := 44) C dX9_readBelief_44 fl_X9_164 (Hh.1 _ _ sh_1) rfl ?_
      refine b_iload_n (pc := 47) C dX9_readBelief_47 rfl 1 rfl ?_
      obtain ⟨hb11, hF⟩ := bif_n hF
      obtain ⟨σ9, e10, hF⟩ := blet_e hF
      refine b_iast (pc := 48) C dX9_readBelief_48 (Hh.1 _ _ (sa_4_1 (kk_7_3 hk8))) hb11 e10 ?_
      refine b_aload_n (pc := 49) C dX9_readBelief_49 rfl 0 rfl ?_
      refine b_getS (pc := 50) C dX9_readBelief_50 fl_X9_12 (Hh.1 _ _ sh_1) rfl ?_
      obtain ⟨σ13, hc12, hF⟩ := bbv_e hF
      refine b_cV0v (d' := (d + 3)) (pc := 53) C dX9_readBelief_53 mm_X9_80 (Hh.1 _ _ sh_2) rfl (Nat.le_of_ble_eq_true rfl) (by omega) (Hh.2.2 _ _ _ _ _ _ _ _ _ (lvl_eq (by omega) (e_X8_step (d + 2)  _ _ hc12))) ?_
      refine b_iconst (pc := 56) C dX9_readBelief_56 ic_1 ?_
      exact b_zret (pc := 57) C Rt dX9_readBelief_57 rfl hF
    · rw [if_neg hc7] at hF
      refine b_aload_n (pc := 27) C dX9_readBelief_27 rfl 0 rfl ?_
      refine b_iconst (pc := 28) C dX9_readBelief_28 ic_3 ?_
      obtain ⟨v16, σ15, hc14, hF⟩ := bbd_e hF
      refine b_cV1i (d' := (d + 3)) (pc := 29) C dX9_readBelief_29 mm_X9_83 (Hh.1 _ _ sh_1) rfl (Nat.le_of_ble_eq_true rfl) (by omega) (Hh.2.2 _ _ _ _ _ _ _ _ _ (lvl_eq (by omega) (e_X9_blame (d + 3) (3 : Int32) _ _ _ hc14))) ?_
      obtain ⟨hz17, hF⟩ := bif_y hF
      exact b_zret (pc := 32) C Rt dX9_readBelief_32 (bz_n hz17) hF
  · rw [if_pos hc4] at hF
    refine b_iconst (pc := 7) C dX9_readBelief_7 ic_0 ?_
    exact b_zret (pc := 8) C Rt dX9_readBelief_8 rfl hF
set_option maxHeartbeats 4000000 in
set_option maxRecDepth 20000 in
theorem e_X9_readBelief {l : Launch} {G : bG} {ρ : Nat → Nat} {A : Nat → Prop} (d : Nat) (x1 : Int32) (σ : bSto) (r : Int32) (σ' : bSto) (hF : f_X9_readBelief x1 σ = some (r, σ')) : bEv l G bSHf ρ A yX9_readBelief cX9_readBelief 2 (some .boolean) (d + 4) [.ref 1, .int x1] σ (some (.int r)) σ' := b_met (d := d + 4) (by decide +kernel) (Nat.le_of_ble_eq_true rfl) rfl (fun X C Rt h1 h2 h3 => e_X9_readBelief_0 C ⟨fun o q h => by rw [h1]; exact h, fun i h => by rw [h2]; exact h, h3⟩ Rt _ _ hF)
/-! BenchColony$Teller.readHour -/
def f_X9_readHour_J37 (x1 : Int32) (σ : bSto) : Option (Int32 × bSto) := bbd (f_X9_readWhole (0 : Int32) (99 : Int32) σ) (fun v3 σ2 => (if v3 = 0 then some ((0 : Int32), σ2) else if kR (σ2.2.2 1 4) then bbv (f_X10_addHour ((σ2.2.2 1 4) + 15) (σ2.1 1 7) x1 σ2) (fun σ7 => some ((1 : Int32), σ7)) else none))
def f_X9_readHour (x1 : Int32) (σ : bSto) : Option (Int32 × bSto) := (if (σ.1 2 4) = (2 : Int32) then if kR (σ.2.2 1 4) then bbd (f_X10_isHourTold ((σ.2.2 1 4) + 15) (σ.1 2 6) σ) (fun v5 σ4 => (if v5 = 0 then f_X9_readHour_J37 x1 σ4 else bbd (f_X9_blame (3 : Int32) σ4) (fun v9 σ8 => if v9 = 0 ∨ v9 = 1 then some (v9, σ8) else none))) else none else f_X9_readHour_J37 x1 σ)
set_option maxHeartbeats 4000000 in
set_option maxRecDepth 20000 in
theorem e_X9_readHour_J37 {X : bX} {l : Launch} {G : bG} {ρ : Nat → Nat} {A : Nat → Prop} {d : Nat} {r : Int32} {σ' : bSto} (C : bCX X cX9_readHour RX9 (d + 3)) (Hh : bH X l G bSHf ρ A 2) (Rt : bRX X (some .boolean) (some (.int r)) σ') (x1 : Int32) (σ : bSto) (hF : f_X9_readHour_J37 x1 σ = some (r, σ')) : bAJ X 37 [(0, .ref 1), (1, .int x1)] [] σ := by
  rw [f_X9_readHour_J37] at hF
  refine b_aload_n (pc := 37) C dX9_readHour_37 rfl 0 rfl ?_
  refine b_iconst (pc := 38) C dX9_readHour_38 ic_0 ?_
  refine b_bipush (pc := 39) C dX9_readHour_39 bp_99 ?_
  obtain ⟨v3, σ2, hc1, hF⟩ := bbd_e hF
  refine b_cV2i (d' := (d + 2)) (pc := 41) C dX9_readHour_41 mm_X9_160 (Hh.1 _ _ sh_1) rfl (Nat.le_of_ble_eq_true rfl) (by omega) (Hh.2.2 _ _ _ _ _ _ _ _ _ (lvl_eq (by omega) (e_X9_readWhole (d + 0) (0 : Int32) (99 : Int32) _ _ _ hc1))) ?_
  refine b_if_ne (tgt := 49) (pc := 44) C dX9_readHour_44 rfl (fun hc4 => ?_) (fun hc4 => ?_)
  · rw [if_neg hc4] at hF
    refine b_aload_n (pc := 49) C dX9_readHour_49 rfl 0 rfl ?_
    obtain ⟨hk5, hF⟩ := bif_y hF
    refine b_getR (pc := 50) C dX9_readHour_50 fl_X9_31 (Hh.1 _ _ sh_1) rfl ?_
    refine b_getS (pc := 53) C dX9_readHour_53 fl_X9_145 (Hh.1 _ _ (shR hk5)) rfl ?_
    refine b_aload_n (pc := 56) C dX9_readHour_56 rfl 0 rfl ?_
    refine b_getI (pc := 57) C dX9_readHour_57 fl_X9_164 (Hh.1 _ _ sh_1) rfl ?_
    refine b_iload_n (pc := 60) C dX9_readHour_60 rfl 1 rfl ?_
    obtain ⟨σ7, hc6, hF⟩ := bbv_e hF
    refine b_cV2v (d' := (d + 2)) (pc := 61) C dX9_readHour_61 mm_X9_302 (Hh.1 _ _ (shT (kk_7_2 hk5))) rfl (Nat.le_of_ble_eq_true rfl) (by omega) (Hh.2.2 _ _ _ _ _ _ _ _ _ (lvl_eq (by omega) (e_X10_addHour (d + 2) _ (kk_7_2 hk5) (σ2.1 1 7) x1 _ _ hc6))) ?_
    refine b_iconst (pc := 64) C dX9_readHour_64 ic_1 ?_
    exact b_zret (pc := 65) C Rt dX9_readHour_65 rfl hF
  · rw [if_pos hc4] at hF
    refine b_iconst (pc := 47) C dX9_readHour_47 ic_0 ?_
    exact b_zret (pc := 48) C Rt dX9_readHour_48 rfl hF
set_option maxHeartbeats 4000000 in
set_option maxRecDepth 20000 in
theorem e_X9_readHour_0 {X : bX} {l : Launch} {G : bG} {ρ : Nat → Nat} {A : Nat → Prop} {d : Nat} {r : Int32} {σ' : bSto} (C : bCX X cX9_readHour RX9 (d + 3)) (Hh : bH X l G bSHf ρ A 2) (Rt : bRX X (some .boolean) (some (.int r)) σ') (x1 : Int32) (σ : bSto) (hF : f_X9_readHour x1 σ = some (r, σ')) : bAJ X 0 [(0, .ref 1), (1, .int x1)] [] σ := by
  rw [f_X9_readHour] at hF
  refine b_aload_n (pc := 0) C dX9_readHour_0 rfl 0 rfl ?_
  refine b_getS (pc := 1) C dX9_readHour_1 fl_X9_12 (Hh.1 _ _ sh_1) rfl ?_
  refine b_getI (pc := 4) C dX9_readHour_4 fl_X9_77 (Hh.1 _ _ sh_2) rfl ?_
  refine b_iconst (pc := 7) C dX9_readHour_7 ic_2 ?_
  refine b_icmp_ne (tgt := 37) (pc := 8) C dX9_readHour_8 rfl (fun hc1 => ?_) (fun hc1 => ?_)
  · rw [if_neg hc1] at hF
    exact b_sub [0, 1] rfl (e_X9_readHour_J37 C Hh Rt x1 _ hF)
  · rw [if_pos hc1] at hF
    refine b_aload_n (pc := 11) C dX9_readHour_11 rfl 0 rfl ?_
    obtain ⟨hk2, hF⟩ := bif_y hF
    refine b_getR (pc := 12) C dX9_readHour_12 fl_X9_31 (Hh.1 _ _ sh_1) rfl ?_
    refine b_getS (pc := 15) C dX9_readHour_15 fl_X9_145 (Hh.1 _ _ (shR hk2)) rfl ?_
    refine b_aload_n (pc := 18) C dX9_readHour_18 rfl 0 rfl ?_
    refine b_getS (pc := 19) C dX9_readHour_19 fl_X9_12 (Hh.1 _ _ sh_1) rfl ?_
    refine b_getI (pc := 22) C dX9_readHour_22 fl_X9_230 (Hh.1 _ _ sh_2) rfl ?_
    obtain ⟨v5, σ4, hc3, hF⟩ := bbd_e hF
    refine b_cV1i (d' := (d + 2)) (pc := 25) C dX9_readHour_25 mm_X9_299 (Hh.1 _ _ (shT (kk_7_2 hk2))) rfl (Nat.le_of_ble_eq_true rfl) (by omega) (Hh.2.2 _ _ _ _ _ _ _ _ _ (lvl_eq (by omega) (e_X10_isHourTold (d + 2) _ (kk_7_2 hk2) (σ.1 2 6) _ _ _ hc3))) ?_
    refine b_if_eq (tgt := 37) (pc := 28) C dX9_readHour_28 rfl (fun hc6 => ?_) (fun hc6 => ?_)
    · rw [if_pos hc6] at hF
      exact b_sub [0, 1] rfl (e_X9_readHour_J37 C Hh Rt x1 _ hF)
    · rw [if_neg hc6] at hF
      refine b_aload_n (pc := 31) C dX9_readHour_31 rfl 0 rfl ?_
      refine b_iconst (pc := 32) C dX9_readHour_32 ic_3 ?_
      obtain ⟨v9, σ8, hc7, hF⟩ := bbd_e hF
      refine b_cV1i (d' := (d + 2)) (pc := 33) C dX9_readHour_33 mm_X9_83 (Hh.1 _ _ sh_1) rfl (Nat.le_of_ble_eq_true rfl) (by omega) (Hh.2.2 _ _ _ _ _ _ _ _ _ (lvl_eq (by omega) (e_X9_blame (d + 2) (3 : Int32) _ _ _ hc7))) ?_
      obtain ⟨hz10, hF⟩ := bif_y hF
      exact b_zret (pc := 36) C Rt dX9_readHour_36 (bz_n hz10) hF
set_option maxHeartbeats 4000000 in
set_option maxRecDepth 20000 in
theorem e_X9_readHour {l : Launch} {G : bG} {ρ : Nat → Nat} {A : Nat → Prop} (d : Nat) (x1 : Int32) (σ : bSto) (r : Int32) (σ' : bSto) (hF : f_X9_readHour x1 σ = some (r, σ')) : bEv l G bSHf ρ A yX9_readHour cX9_readHour 2 (some .boolean) (d + 3) [.ref 1, .int x1] σ (some (.int r)) σ' := b_met (d := d + 3) (by decide +kernel) (Nat.le_of_ble_eq_true rfl) rfl (fun X C Rt h1 h2 h3 => e_X9_readHour_0 C ⟨fun o q h => by rw [h1]; exact h, fun i h => by rw [h2]; exact h, h3⟩ Rt _ _ hF)
/-! BenchColony$Teller.readLine -/
def f_X9_readLine_J16  (σ : bSto) : Option (Int32 × bSto) := bbd (f_X9_blame (1 : Int32) σ) (fun v3 σ2 => if v3 = 0 ∨ v3 = 1 then some (v3, σ2) else none)
def f_X9_readLine_J77 (x1 : Int32) (σ : bSto) : Option (Int32 × bSto) := bbv (f_X8_step  σ) (fun σ2 => (if x1 = (0 : Int32) then bbd (f_X9_readRoom  σ2) (fun v6 σ5 => if v6 = 0 ∨ v6 = 1 then some (v6, σ5) else none) else (if x1 = (1 : Int32) then bbd (f_X9_readBench  σ2) (fun v11 σ10 => if v11 = 0 ∨ v11 = 1 then some (v11, σ10) else none) else (if x1 = (2 : Int32) then bbd (f_X9_readPerson  σ2) (fun v16 σ15 => if v16 = 0 ∨ v16 = 1 then some (v16, σ15) else none) else (if x1 = (3 : Int32) then bbd (f_X9_readKin  σ2) (fun v21 σ20 => if v21 = 0 ∨ v21 = 1 then some (v21, σ20) else none) else (if x1 = (4 : Int32) then bbd (f_X9_readHeeds  σ2) (fun v26 σ25 => if v26 = 0 ∨ v26 = 1 then some (v26, σ25) else none) else (if x1 = (5 : Int32) then bbd (f_X9_readBelief (1 : Int32) σ2) (fun v31 σ30 => if v31 = 0 ∨ v31 = 1 then some (v31, σ30) else none) else (if x1 = (6 : Int32) then bbd (f_X9_readBelief (-1 : Int32) σ2) (fun v36 σ35 => if v36 = 0 ∨ v36 = 1 then some (v36, σ35) else none) else (if x1 = (7 : Int32) then bbd (f_X9_readHour (1 : Int32) σ2) (fun v41 σ40 => if v41 = 0 ∨ v41 = 1 then some (v41, σ40) else none) else bbd (f_X9_readHour (0 : Int32) σ2) (fun v45 σ44 => if v45 = 0 ∨ v45 = 1 then some (v45, σ44) else none))))))))))
def f_X9_readLine_J42 (x1 : Int32) (σ : bSto) : Option (Int32 × bSto) := bbd (f_X9_isFull x1 σ) (fun v3 σ2 => (if v3 = 0 then (if x1 = 0 then f_X9_readLine_J77 x1 σ2 else if kR (σ2.2.2 1 4) then (if (σ2.1 (σ2.2.2 1 4) 4) = 0 then bbd (f_X9_blame (6 : Int32) σ2) (fun v10 σ9 => if v10 = 0 ∨ v10 = 1 then some (v10, σ9) else none) else f_X9_readLine_J77 x1 σ2) else none) else bbd (f_X9_blame (5 : Int32) σ2) (fun v14 σ13 => if v14 = 0 ∨ v14 = 1 then some (v14, σ13) else none)))
def f_X9_readLine  (σ : bSto) : Option (Int32 × bSto) := bbd (f_X9_keptWord  σ) (fun v3 σ2 => (if v3 = (-1 : Int32) then f_X9_readLine_J16  σ2 else (if v3 = (9 : Int32) then f_X9_readLine_J16  σ2 else (if v3 = 0 then if kR (σ2.2.2 1 4) then (if (σ2.1 (σ2.2.2 1 4) 4) = 0 then f_X9_readLine_J42 v3 σ2 else bbd (f_X9_blame (3 : Int32) σ2) (fun v11 σ10 => if v11 = 0 ∨ v11 = 1 then some (v11, σ10) else none)) else none else f_X9_readLine_J42 v3 σ2))))
set_option maxHeartbeats 4000000 in
set_option maxRecDepth 20000 in
theorem e_X9_readLine_J16 {X : bX} {l : Launch} {G : bG} {ρ : Nat → Nat} {A : Nat → Prop} {d : Nat} {r : Int32} {σ' : bSto} (C : bCX X cX9_readLine RX9 (d + 8)) (Hh : bH X l G bSHf ρ A 2) (Rt : bRX X (some .boolean) (some (.int r)) σ')  (σ : bSto) (hF : f_X9_readLine_J16  σ = some (r, σ')) : bAJ X 16 [(0, .ref 1)] [] σ := by
  rw [f_X9_readLine_J16] at hF
  refine b_aload_n (pc := 16) C dX9_readLine_16 rfl 0 rfl ?_
  refine b_iconst (pc := 17) C dX9_readLine_17 ic_1 ?_
  obtain ⟨v3, σ2, hc1, hF⟩ := bbd_e hF
  refine b_cV1i (d' := (d + 7)) (pc := 18) C dX9_readLine_18 mm_X9_83 (Hh.1 _ _ sh_1) rfl (Nat.le_of_ble_eq_true rfl) (by omega) (Hh.2.2 _ _ _ _ _ _ _ _ _ (lvl_eq (by omega) (e_X9_blame (d + 7) (1 : Int32) _ _ _ hc1))) ?_
  obtain ⟨hz4, hF⟩ := bif_y hF
  exact b_zret (pc := 21) C Rt dX9_readLine_21 (bz_n hz4) hF
set_option maxHeartbeats 4000000 in
set_option maxRecDepth 20000 in
theorem e_X9_readLine_J77 {X : bX} {l : Launch} {G : bG} {ρ : Nat → Nat} {A : Nat → Prop} {d : Nat} {r : Int32} {σ' : bSto} (C : bCX X cX9_readLine RX9 (d + 8)) (Hh : bH X l G bSHf ρ A 2) (Rt : bRX X (some .boolean) (some (.int r)) σ') (x1 : Int32) (σ : bSto) (hF : f_X9_readLine_J77 x1 σ = some (r, σ')) : bAJ X 77 [(0, .ref 1), (1, .int x1)] [] σ := by
  rw [f_X9_readLine_J77] at hF
  refine b_aload_n (pc := 77) C dX9_readLine_77 rfl 0 rfl ?_
  refine b_getS (pc := 78) C dX9_readLine_78 fl_X9_12 (Hh.1 _ _ sh_1) rfl ?_
  obtain ⟨σ2, hc1, hF⟩ := bbv_e hF
  refine b_cV0v (d' := (d + 7)) (pc := 81) C dX9_readLine_81 mm_X9_80 (Hh.1 _ _ sh_2) rfl (Nat.le_of_ble_eq_true rfl) (by omega) (Hh.2.2 _ _ _ _ _ _ _ _ _ (lvl_eq (by omega) (e_X8_step (d + 6)  _ _ hc1))) ?_
  refine b_iload_n (pc := 84) C dX9_readLine_84 rfl 1 rfl ?_
  by_cases hc3 : x1 = (0 : Int32)
  · rw [if_pos hc3] at hF
    refine b_tabIn (tgt := 132) (pc := 85) C dX9_readLine_85 hc3 (kI := 0) (by decide) (by decide) (by decide) rfl rfl ?_
    refine b_aload_n (pc := 132) C dX9_readLine_132 rfl 0 rfl ?_
    obtain ⟨v6, σ5, hc4, hF⟩ := bbd_e hF
    refine b_cV0i (d' := (d + 7)) (pc := 133) C dX9_readLine_133 mm_X9_110 (Hh.1 _ _ sh_1) rfl (Nat.le_of_ble_eq_true rfl) (by omega) (Hh.2.2 _ _ _ _ _ _ _ _ _ (lvl_eq (by omega) (e_X9_readRoom (d + 0)  _ _ _ hc4))) ?_
    obtain ⟨hz7, hF⟩ := bif_y hF
    exact b_zret (pc := 136) C Rt dX9_readLine_136 (bz_n hz7) hF
  rw [if_neg hc3] at hF
  by_cases hc8 : x1 = (1 : Int32)
  · rw [if_pos hc8] at hF
    refine b_tabIn (tgt := 137) (pc := 85) C dX9_readLine_85 hc8 (kI := 1) (by decide) (by decide) (by decide) rfl rfl ?_
    refine b_aload_n (pc := 137) C dX9_readLine_137 rfl 0 rfl ?_
    obtain ⟨v11, σ10, hc9, hF⟩ := bbd_e hF
    refine b_cV0i (d' := (d + 7)) (pc := 138) C dX9_readLine_138 mm_X9_113 (Hh.1 _ _ sh_1) rfl (Nat.le_of_ble_eq_true rfl) (by omega) (Hh.2.2 _ _ _ _ _ _ _ _ _ (lvl_eq (by omega) (e_X9_readBench (d + 0)  _ _ _ hc9))) ?_
    obtain ⟨hz12, hF⟩ := bif_y hF
    exact b_zret (pc := 141) C Rt dX9_readLine_141 (bz_n hz12) hF
  rw [if_neg hc8] at hF
  by_cases hc13 : x1 = (2 : Int32)
  · rw [if_pos hc13] at hF
    refine b_tabIn (tgt := 142) (pc := 85) C dX9_readLine_85 hc13 (kI := 2) (by decide) (by decide) (by decide) rfl rfl ?_
    refine b_aload_n (pc := 142) C dX9_readLine_142 rfl 0 rfl ?_
    obtain ⟨v16, σ15, hc14, hF⟩ := bbd_e hF
    refine b_cV0i (d' := (d + 7)) (pc := 143) C dX9_readLine_143 mm_X9_116 (Hh.1 _ _ sh_1) rfl (Nat.le_of_ble_eq_true rfl) (by omega) (Hh.2.2 _ _ _ _ _ _ _ _ _ (lvl_eq (by omega) (e_X9_readPerson (d + 0)  _ _ _ hc14))) ?_
    obtain ⟨hz17, hF⟩ := bif_y hF
    exact b_zret (pc := 146) C Rt dX9_readLine_146 (bz_n hz17) hF
  rw [if_neg hc13] at hF
  by_cases hc18 : x1 = (3 : Int32)
  · rw [if_pos hc18] at hF
    refine b_tabIn (tgt := 147) (pc := 85) C dX9_readLine_85 hc18 (kI := 3) (by decide) (by decide) (by decide) rfl rfl ?_
    refine b_aload_n (pc := 147) C dX9_readLine_147 rfl 0 rfl ?_
    obtain ⟨v21, σ20, hc19, hF⟩ := bbd_e hF
    refine b_cV0i (d' := (d + 7)) (pc := 148) C dX9_readLine_148 mm_X9_119 (Hh.1 _ _ sh_1) rfl (Nat.le_of_ble_eq_true rfl) (by omega) (Hh.2.2 _ _ _ _ _ _ _ _ _ (lvl_eq (by omega) (e_X9_readKin (d + 3)  _ _ _ hc19))) ?_
    obtain ⟨hz22, hF⟩ := bif_y hF
    exact b_zret (pc := 151) C Rt dX9_readLine_151 (bz_n hz22) hF
  rw [if_neg hc18] at hF
  by_cases hc23 : x1 = (4 : Int32)
  · rw [if_pos hc23] at hF
    refine b_tabIn (tgt := 152) (pc := 85) C dX9_readLine_85 hc23 (kI := 4) (by decide) (by decide) (by decide) rfl rfl ?_
    refine b_aload_n (pc := 152) C dX9_readLine_152 rfl 0 rfl ?_
    obtain ⟨v26, σ25, hc24, hF⟩ := bbd_e hF
    refine b_cV0i (d' := (d + 7)) (pc := 153) C dX9_readLine_153 mm_X9_122 (Hh.1 _ _ sh_1) rfl (Nat.le_of_ble_eq_true rfl) (by omega) (Hh.2.2 _ _ _ _ _ _ _ _ _ (lvl_eq (by omega) (e_X9_readHeeds (d + 0)  _ _ _ hc24))) ?_
    obtain ⟨hz27, hF⟩ := bif_y hF
    exact b_zret (pc := 156) C Rt dX9_readLine_156 (bz_n hz27) hF
  rw [if_neg hc23] at hF
  by_cases hc28 : x1 = (5 : Int32)
  · rw [if_pos hc28] at hF
    refine b_tabIn (tgt := 157) (pc := 85) C dX9_readLine_85 hc28 (kI := 5) (by decide) (by decide) (by decide) rfl rfl ?_
    refine b_aload_n (pc := 157) C dX9_readLine_157 rfl 0 rfl ?_
    refine b_iconst (pc := 158) C dX9_readLine_158 ic_1 ?_
    obtain ⟨v31, σ30, hc29, hF⟩ := bbd_e hF
    refine b_cV1i (d' := (d + 7)) (pc := 159) C dX9_readLine_159 mm_X9_125 (Hh.1 _ _ sh_1) rfl (Nat.le_of_ble_eq_true rfl) (by omega) (Hh.2.2 _ _ _ _ _ _ _ _ _ (lvl_eq (by omega) (e_X9_readBelief (d + 3) (1 : Int32) _ _ _ hc29))) ?_
    obtain ⟨hz32, hF⟩ := bif_y hF
    exact b_zret (pc := 162) C Rt dX9_readLine_162 (bz_n hz32) hF
  rw [if_neg hc28] at hF
  by_cases hc33 : x1 = (6 : Int32)
  · rw [if_pos hc33] at hF
    refine b_tabIn (tgt := 163) (pc := 85) C dX9_readLine_85 hc33 (kI := 6) (by decide) (by decide) (by decide) rfl rfl ?_
    refine b_aload_n (pc := 163) C dX9_readLine_163 rfl 0 rfl ?_
    refine b_iconst (pc := 164) C dX9_readLine_164 ic_m1 ?_
    obtain ⟨v36, σ35, hc34, hF⟩ := bbd_e hF
    refine b_cV1i (d' := (d + 7)) (pc := 165) C dX9_readLine_165 mm_X9_125 (Hh.1 _ _ sh_1) rfl (Nat.le_of_ble_eq_true rfl) (by omega) (Hh.2.2 _ _ _ _ _ _ _ _ _ (lvl_eq (by omega) (e_X9_readBelief (d + 3) (-1 : Int32) _ _ _ hc34))) ?_
    obtain ⟨hz37, hF⟩ := bif_y hF
    exact b_zret (pc := 168) C Rt dX9_readLine_168 (bz_n hz37) hF
  rw [if_neg hc33] at hF
  by_cases hc38 : x1 = (7 : Int32)
  · rw [if_pos hc38] at hF
    refine b_tabIn (tgt := 169) (pc := 85) C dX9_readLine_85 hc38 (kI := 7) (by decide) (by decide) (by decide) rfl rfl ?_
    refine b_aload_n (pc := 169) C dX9_readLine_169 rfl 0 rfl ?_
    refine b_iconst (pc := 170) C dX9_readLine_170 ic_1 ?_
    obtain ⟨v41, σ40, hc39, hF⟩ := bbd_e hF
    refine b_cV1i (d' := (d + 7)) (pc := 171) C dX9_readLine_171 mm_X9_128 (Hh.1 _ _ sh_1) rfl (Nat.le_of_ble_eq_true rfl) (by omega) (Hh.2.2 _ _ _ _ _ _ _ _ _ (lvl_eq (by omega) (e_X9_readHour (d + 4) (1 : Int32) _ _ _ hc39))) ?_
    obtain ⟨hz42, hF⟩ := bif_y hF
    exact b_zret (pc := 174) C Rt dX9_readLine_174 (bz_n hz42) hF
  rw [if_neg hc38] at hF
  have hn47_0 := lv_neT hc3 (show ((0 : Int32)).toInt = 0 from by decide)
  have hn47_1 := lv_neT hc8 (show ((1 : Int32)).toInt = 1 from by decide)
  have hn47_2 := lv_neT hc13 (show ((2 : Int32)).toInt = 2 from by decide)
  have hn47_3 := lv_neT hc18 (show ((3 : Int32)).toInt = 3 from by decide)
  have hn47_4 := lv_neT hc23 (show ((4 : Int32)).toInt = 4 from by decide)
  have hn47_5 := lv_neT hc28 (show ((5 : Int32)).toInt = 5 from by decide)
  have hn47_6 := lv_neT hc33 (show ((6 : Int32)).toInt = 6 from by decide)
  have hn47_7 := lv_neT hc38 (show ((7 : Int32)).toInt = 7 from by decide)
  refine b_tabOut (tgt := 175) (pc := 85) C dX9_readLine_85 (by omega) rfl ?_
  refine b_aload_n (pc := 175) C dX9_readLine_175 rfl 0 rfl ?_
  refine b_iconst (pc := 176) C dX9_readLine_176 ic_0 ?_
  obtain ⟨v45, σ44, hc43, hF⟩ := bbd_e hF
  refine b_cV1i (d' := (d + 7)) (pc := 177) C dX9_readLine_177 mm_X9_128 (Hh.1 _ _ sh_1) rfl (Nat.le_of_ble_eq_true rfl) (by omega) (Hh.2.2 _ _ _ _ _ _ _ _ _ (lvl_eq (by omega) (e_X9_readHour (d + 4) (0 : Int32) _ _ _ hc43))) ?_
  obtain ⟨hz46, hF⟩ := bif_y hF
  exact b_zret (pc := 180) C Rt dX9_readLine_180 (bz_n hz46) hF
set_option maxHeartbeats 4000000 in
set_option maxRecDepth 20000 in
theorem e_X9_readLine_J42 {X : bX} {l : Launch} {G : bG} {ρ : Nat → Nat} {A : Nat → Prop} {d : Nat} {r : Int32} {σ' : bSto} (C : bCX X cX9_readLine RX9 (d + 8)) (Hh : bH X l G bSHf ρ A 2) (Rt : bRX X (some .boolean) (some (.int r)) σ') (x1 : Int32) (σ : bSto) (hF : f_X9_readLine_J42 x1 σ = some (r, σ')) : bAJ X 42 [(0, .ref 1), (1, .int x1)] [] σ := by
  rw [f_X9_readLine_J42] at hF
  refine b_aload_n (pc := 42) C dX9_readLine_42 rfl 0 rfl ?_
  refine b_iload_n (pc := 43) C dX9_readLine_43 rfl 1 rfl ?_
  obtain ⟨v3, σ2, hc1, hF⟩ := bbd_e hF
  refine b_cV1i (d' := (d + 7)) (pc := 44) C dX9_readLine_44 mm_X9_107 (Hh.1 _ _ sh_1) rfl (Nat.le_of_ble_eq_true rfl) (by omega) (Hh.2.2 _ _ _ _ _ _ _ _ _ (lvl_eq (by omega) (e_X9_isFull (d + 7) x1 _ _ _ hc1))) ?_
  refine b_if_eq (tgt := 56) (pc := 47) C dX9_readLine_47 rfl (fun hc4 => ?_) (fun hc4 => ?_)
  · rw [if_pos hc4] at hF
    refine b_iload_n (pc := 56) C dX9_readLine_56 rfl 1 rfl ?_
    refine b_if_eq (tgt := 77) (pc := 57) C dX9_readLine_57 rfl (fun hc5 => ?_) (fun hc5 => ?_)
    · rw [if_pos hc5] at hF
      exact b_sub [0, 1] rfl (e_X9_readLine_J77 C Hh Rt x1 _ hF)
    · rw [if_neg hc5] at hF
      refine b_aload_n (pc := 60) C dX9_readLine_60 rfl 0 rfl ?_
      obtain ⟨hk6, hF⟩ := bif_y hF
      refine b_getR (pc := 61) C dX9_readLine_61 fl_X9_31 (Hh.1 _ _ sh_1) rfl ?_
      refine b_getI (pc := 64) C dX9_readLine_64 fl_X9_103 (Hh.1 _ _ (shR hk6)) rfl ?_
      refine b_if_ne (tgt := 77) (pc := 67) C dX9_readLine_67 rfl (fun hc7 => ?_) (fun hc7 => ?_)
      · rw [if_neg hc7] at hF
        exact b_sub [0, 1] rfl (e_X9_readLine_J77 C Hh Rt x1 _ hF)
      · rw [if_pos hc7] at hF
        refine b_aload_n (pc := 70) C dX9_readLine_70 rfl 0 rfl ?_
        refine b_bipush (pc := 71) C dX9_readLine_71 bp_6 ?_
        obtain ⟨v10, σ9, hc8, hF⟩ := bbd_e hF
        refine b_cV1i (d' := (d + 7)) (pc := 73) C dX9_readLine_73 mm_X9_83 (Hh.1 _ _ sh_1) rfl (Nat.le_of_ble_eq_true rfl) (by omega) (Hh.2.2 _ _ _ _ _ _ _ _ _ (lvl_eq (by omega) (e_X9_blame (d + 7) (6 : Int32) _ _ _ hc8))) ?_
        obtain ⟨hz11, hF⟩ := bif_y hF
        exact b_zret (pc := 76) C Rt dX9_readLine_76 (bz_n hz11) hF
  · rw [if_neg hc4] at hF
    refine b_aload_n (pc := 50) C dX9_readLine_50 rfl 0 rfl ?_
    refine b_iconst (pc := 51) C dX9_readLine_51 ic_5 ?_
    obtain ⟨v14, σ13, hc12, hF⟩ := bbd_e hF
    refine b_cV1i (d' := (d + 7)) (pc := 52) C dX9_readLine_52 mm_X9_83 (Hh.1 _ _ sh_1) rfl (Nat.le_of_ble_eq_true rfl) (by omega) (Hh.2.2 _ _ _ _ _ _ _ _ _ (lvl_eq (by omega) (e_X9_blame (d + 7) (5 : Int32) _ _ _ hc12))) ?_
    obtain ⟨hz15, hF⟩ := bif_y hF
    exact b_zret (pc := 55) C Rt dX9_readLine_55 (bz_n hz15) hF
set_option maxHeartbeats 4000000 in
set_option maxRecDepth 20000 in
theorem e_X9_readLine_0 {X : bX} {l : Launch} {G : bG} {ρ : Nat → Nat} {A : Nat → Prop} {d : Nat} {r : Int32} {σ' : bSto} (C : bCX X cX9_readLine RX9 (d + 8)) (Hh : bH X l G bSHf ρ A 2) (Rt : bRX X (some .boolean) (some (.int r)) σ')  (σ : bSto) (hF : f_X9_readLine  σ = some (r, σ')) : bAJ X 0 [(0, .ref 1)] [] σ := by
  rw [f_X9_readLine] at hF
  refine b_aload_n (pc := 0) C dX9_readLine_0 rfl 0 rfl ?_
  obtain ⟨v3, σ2, hc1, hF⟩ := bbd_e hF
  refine b_cV0i (d' := (d + 7)) (pc := 1) C dX9_readLine_1 mm_X9_99 (Hh.1 _ _ sh_1) rfl (Nat.le_of_ble_eq_true rfl) (by omega) (Hh.2.2 _ _ _ _ _ _ _ _ _ (lvl_eq (by omega) (e_X9_keptWord (d + 6)  _ _ _ hc1))) ?_
  refine b_istore_n (L' := [(1, .int v3), (0, .ref 1)]) (pc := 4) C dX9_readLine_4 rfl rfl (Hh.2.1 _ (Nat.le_of_ble_eq_true rfl)) rfl ?_
  refine b_iload_n (pc := 5) C dX9_readLine_5 rfl 0 rfl ?_
  refine b_iconst (pc := 6) C dX9_readLine_6 ic_m1 ?_
  refine b_icmp_eq (tgt := 16) (pc := 7) C dX9_readLine_7 rfl (fun hc4 => ?_) (fun hc4 => ?_)
  · rw [if_pos hc4] at hF
    exact b_sub [1] rfl (e_X9_readLine_J16 C Hh Rt  _ hF)
  · rw [if_neg hc4] at hF
    refine b_iload_n (pc := 10) C dX9_readLine_10 rfl 0 rfl ?_
    refine b_bipush (pc := 11) C dX9_readLine_11 bp_9 ?_
    refine b_icmp_ne (tgt := 22) (pc := 13) C dX9_readLine_13 rfl (fun hc5 => ?_) (fun hc5 => ?_)
    · rw [if_neg hc5] at hF
      refine b_iload_n (pc := 22) C dX9_readLine_22 rfl 0 rfl ?_
      refine b_if_ne (tgt := 42) (pc := 23) C dX9_readLine_23 rfl (fun hc6 => ?_) (fun hc6 => ?_)
      · rw [if_neg hc6] at hF
        exact b_sub [1, 0] rfl (e_X9_readLine_J42 C Hh Rt v3 _ hF)
      · rw [if_pos hc6] at hF
        refine b_aload_n (pc := 26) C dX9_readLine_26 rfl 1 rfl ?_
        obtain ⟨hk7, hF⟩ := bif_y hF
        refine b_getR (pc := 27) C dX9_readLine_27 fl_X9_31 (Hh.1 _ _ sh_1) rfl ?_
        refine b_getI (pc := 30) C dX9_readLine_30 fl_X9_103 (Hh.1 _ _ (shR hk7)) rfl ?_
        refine b_if_eq (tgt := 42) (pc := 33) C dX9_readLine_33 rfl (fun hc8 => ?_) (fun hc8 => ?_)
        · rw [if_pos hc8] at hF
          exact b_sub [1, 0] rfl (e_X9_readLine_J42 C Hh Rt v3 _ hF)
        · rw [if_neg hc8] at hF
          refine b_aload_n (pc := 36) C dX9_readLine_36 rfl 1 rfl ?_
          refine b_iconst (pc := 37) C dX9_readLine_37 ic_3 ?_
          obtain ⟨v11, σ10, hc9, hF⟩ := bbd_e hF
          refine b_cV1i (d' := (d + 7)) (pc := 38) C dX9_readLine_38 mm_X9_83 (Hh.1 _ _ sh_1) rfl (Nat.le_of_ble_eq_true rfl) (by omega) (Hh.2.2 _ _ _ _ _ _ _ _ _ (lvl_eq (by omega) (e_X9_blame (d + 7) (3 : Int32) _ _ _ hc9))) ?_
          obtain ⟨hz12, hF⟩ := bif_y hF
          exact b_zret (pc := 41) C Rt dX9_readLine_41 (bz_n hz12) hF
    · rw [if_pos hc5] at hF
      exact b_sub [1] rfl (e_X9_readLine_J16 C Hh Rt  _ hF)
set_option maxHeartbeats 4000000 in
set_option maxRecDepth 20000 in
theorem e_X9_readLine {l : Launch} {G : bG} {ρ : Nat → Nat} {A : Nat → Prop} (d : Nat)  (σ : bSto) (r : Int32) (σ' : bSto) (hF : f_X9_readLine  σ = some (r, σ')) : bEv l G bSHf ρ A yX9_readLine cX9_readLine 2 (some .boolean) (d + 8) [.ref 1] σ (some (.int r)) σ' := b_met (d := d + 8) (by decide +kernel) (Nat.le_of_ble_eq_true rfl) rfl (fun X C Rt h1 h2 h3 => e_X9_readLine_0 C ⟨fun o q h => by rw [h1]; exact h, fun i h => by rw [h2]; exact h, h3⟩ Rt  _ hF)
/-! BenchColony$Teller.tell -/
def f_X9_tell_L32 : Nat → Int32 → Int32 → bSto → Option (Int32 × bSto)
  | 0, _, _, _ => none
  | n + 1, x2, x3, σ => (if (1000 : Int32) ≤ x3 then some (x2, σ) else (if x2 = 0 then some (x2, σ) else (if (σ.1 2 4) = (3 : Int32) then bbv (f_X8_step  σ) (fun σ5 => bbd (f_X9_readLine  σ5) (fun v8 σ7 => blet (x3 + (1 : Int32)) (fun x3_9 => f_X9_tell_L32 n v8 x3_9 σ7))) else some (x2, σ))))
def f_X9_tell_J72 (x2 : Int32) (σ : bSto) : Option (Int32 × bSto) := (if x2 = 0 then some ((0 : Int32), σ) else (if (σ.1 2 4) = 0 then if kR (σ.2.2 1 4) then (if 0 < (σ.1 ((σ.2.2 1 4) + 1) 5) then some ((1 : Int32), σ) else bbd (f_X9_blame (6 : Int32) σ) (fun v7 σ6 => (if v7 = 0 then some ((0 : Int32), σ6) else some ((1 : Int32), σ6)))) else none else bbd (f_X9_blame (1 : Int32) σ) (fun v11 σ10 => if v11 = 0 ∨ v11 = 1 then some (v11, σ10) else none)))
def f_X9_tell (x1 : Int32) (σ : bSto) : Option (Int32 × bSto) := if kR (σ.2.2 1 4) then bbv (f_X7_clear (σ.2.2 1 4) σ) (fun σ3 => blet (bI σ3 1 5 (0 : Int32)) (fun σ4 => blet (bI σ4 1 6 (0 : Int32)) (fun σ6 => bbv (f_X8_begin x1 σ6) (fun σ9 => bbd (f_X9_readLine  σ9) (fun v12 σ11 => bl1 (f_X9_tell_L32 bFU v12 (0 : Int32) σ11) (fun x2_13 σ14 => f_X9_tell_J72 x2_13 σ14)))))) else none
set_option maxHeartbeats 4000000 in
set_option maxRecDepth 20000 in
theorem e_X9_tell_L32 {X : bX} {l : Launch} {G : bG} {ρ : Nat → Nat} {A : Nat → Prop} {d : Nat} {r : Int32} {σ' : bSto} (C : bCX X cX9_tell RX9 (d + 9)) (Hh : bH X l G bSHf ρ A 4) (Rt : bRX X (some .boolean) (some (.int r)) σ') : ∀ (n : Nat) (x2 : Int32) (x3 : Int32) (σ : bSto) (q : (Int32 × bSto)), f_X9_tell_L32 n x2 x3 σ = some q → (∀ (x2 : Int32) (s : bSto), q = (x2, s) → bAJ X 72 [(0, .ref 1), (2, .int x2)] [] s) → bAJ X 32 [(0, .ref 1), (2, .int x2), (3, .int x3)] [] σ := by
  intro n
  induction n with
  | zero => intro x2 x3 σ q hF; rw [f_X9_tell_L32] at hF; cases hF
  | succ n ih =>
    intro x2 x3 σ q hF hx
    rw [f_X9_tell_L32] at hF
    refine b_iload_n (pc := 32) C dX9_tell_32 rfl 2 rfl ?_
    refine b_sipush (pc := 33) C dX9_tell_33 sp_1000 ?_
    refine b_icmp_ge (tgt := 72) (pc := 36) C dX9_tell_36 rfl (fun hc1 => ?_) (fun hc1 => ?_)
    · rw [if_pos hc1] at hF
      exact b_sub [0, 1] rfl (hx _ _ (Option.some.inj hF).symm )
    · rw [if_neg hc1] at hF
      refine b_iload_n (pc := 39) C dX9_tell_39 rfl 1 rfl ?_
      refine b_if_eq (tgt := 72) (pc := 40) C dX9_tell_40 rfl (fun hc2 => ?_) (fun hc2 => ?_)
      · rw [if_pos hc2] at hF
        exact b_sub [0, 1] rfl (hx _ _ (Option.some.inj hF).symm )
      · rw [if_neg hc2] at hF
        refine b_aload_n (pc := 43) C dX9_tell_43 rfl 0 rfl ?_
        refine b_getS (pc := 44) C dX9_tell_44 fl_X9_12 (Hh.1 _ _ sh_1) rfl ?_
        refine b_getI (pc := 47) C dX9_tell_47 fl_X9_77 (Hh.1 _ _ sh_2) rfl ?_
        refine b_iconst (pc := 50) C dX9_tell_50 ic_3 ?_
        refine b_icmp_ne (tgt := 72) (pc := 51) C dX9_tell_51 rfl (fun hc3 => ?_) (fun hc3 => ?_)
        · rw [if_neg hc3] at hF
          exact b_sub [0, 1] rfl (hx _ _ (Option.some.inj hF).symm )
        · rw [if_pos hc3] at hF
          refine b_aload_n (pc := 54) C dX9_tell_54 rfl 0 rfl ?_
          refine b_getS (pc := 55) C dX9_tell_55 fl_X9_12 (Hh.1 _ _ sh_1) rfl ?_
          obtain ⟨σ5, hc4, hF⟩ := bbv_e hF
          refine b_cV0v (d' := (d + 8)) (pc := 58) C dX9_tell_58 mm_X9_80 (Hh.1 _ _ sh_2) rfl (Nat.le_of_ble_eq_true rfl) (by omega) (Hh.2.2 _ _ _ _ _ _ _ _ _ (lvl_eq (by omega) (e_X8_step (d + 7)  _ _ hc4))) ?_
          refine b_aload_n (pc := 61) C dX9_tell_61 rfl 0 rfl ?_
          obtain ⟨v8, σ7, hc6, hF⟩ := bbd_e hF
          refine b_cV0i (d' := (d + 8)) (pc := 62) C dX9_tell_62 mm_X9_73 (Hh.1 _ _ sh_1) rfl (Nat.le_of_ble_eq_true rfl) (by omega) (Hh.2.2 _ _ _ _ _ _ _ _ _ (lvl_eq (by omega) (e_X9_readLine (d + 0)  _ _ _ hc6))) ?_
          refine b_istore_n (L' := [(2, .int v8), (0, .ref 1), (3, .int x3)]) (pc := 65) C dX9_tell_65 rfl rfl (Hh.2.1 _ (Nat.le_of_ble_eq_true rfl)) rfl ?_
          obtain ⟨x3_9, e10, hF⟩ := blet_e hF
          refine b_iinc (L' := [(3, .int x3_9), (2, .int v8), (0, .ref 1)]) (pc := 66) C dX9_tell_66 2 rfl ic_1 e10 (Hh.2.1 _ (Nat.le_of_ble_eq_true rfl)) rfl ?_
          refine b_goto (tgt := 32) (pc := 69) C dX9_tell_69 rfl ?_
          exact b_sub [2, 1, 0] rfl (ih v8 x3_9 _ _ hF hx)
set_option maxHeartbeats 4000000 in
set_option maxRecDepth 20000 in
theorem e_X9_tell_J72 {X : bX} {l : Launch} {G : bG} {ρ : Nat → Nat} {A : Nat → Prop} {d : Nat} {r : Int32} {σ' : bSto} (C : bCX X cX9_tell RX9 (d + 9)) (Hh : bH X l G bSHf ρ A 4) (Rt : bRX X (some .boolean) (some (.int r)) σ') (x2 : Int32) (σ : bSto) (hF : f_X9_tell_J72 x2 σ = some (r, σ')) : bAJ X 72 [(0, .ref 1), (2, .int x2)] [] σ := by
  rw [f_X9_tell_J72] at hF
  refine b_iload_n (pc := 72) C dX9_tell_72 rfl 1 rfl ?_
  refine b_if_ne (tgt := 78) (pc := 73) C dX9_tell_73 rfl (fun hc1 => ?_) (fun hc1 => ?_)
  · rw [if_neg hc1] at hF
    refine b_aload_n (pc := 78) C dX9_tell_78 rfl 0 rfl ?_
    refine b_getS (pc := 79) C dX9_tell_79 fl_X9_12 (Hh.1 _ _ sh_1) rfl ?_
    refine b_getI (pc := 82) C dX9_tell_82 fl_X9_77 (Hh.1 _ _ sh_2) rfl ?_
    refine b_if_eq (tgt := 94) (pc := 85) C dX9_tell_85 rfl (fun hc2 => ?_) (fun hc2 => ?_)
    · rw [if_pos hc2] at hF
      refine b_aload_n (pc := 94) C dX9_tell_94 rfl 0 rfl ?_
      obtain ⟨hk3, hF⟩ := bif_y hF
      refine b_getR (pc := 95) C dX9_tell_95 fl_X9_31 (Hh.1 _ _ sh_1) rfl ?_
      refine b_getS (pc := 98) C dX9_tell_98 fl_X9_87 (Hh.1 _ _ (shR hk3)) rfl ?_
      refine b_getI (pc := 101) C dX9_tell_101 fl_X9_91 (Hh.1 _ _ (shH (kk_7_0 hk3))) rfl ?_
      refine b_if_gt (tgt := 116) (pc := 104) C dX9_tell_104 rfl (fun hc4 => ?_) (fun hc4 => ?_)
      · rw [if_pos hc4] at hF
        refine b_iconst (pc := 116) C dX9_tell_116 ic_1 ?_
        refine b_goto (tgt := 121) (pc := 117) C dX9_tell_117 rfl ?_
        exact b_zret (pc := 121) C Rt dX9_tell_121 rfl hF
      · rw [if_neg hc4] at hF
        refine b_aload_n (pc := 107) C dX9_tell_107 rfl 0 rfl ?_
        refine b_bipush (pc := 108) C dX9_tell_108 bp_6 ?_
        obtain ⟨v7, σ6, hc5, hF⟩ := bbd_e hF
        refine b_cV1i (d' := (d + 8)) (pc := 110) C dX9_tell_110 mm_X9_83 (Hh.1 _ _ sh_1) rfl (Nat.le_of_ble_eq_true rfl) (by omega) (Hh.2.2 _ _ _ _ _ _ _ _ _ (lvl_eq (by omega) (e_X9_blame (d + 8) (6 : Int32) _ _ _ hc5))) ?_
        refine b_if_eq (tgt := 120) (pc := 113) C dX9_tell_113 rfl (fun hc8 => ?_) (fun hc8 => ?_)
        · rw [if_pos hc8] at hF
          refine b_iconst (pc := 120) C dX9_tell_120 ic_0 ?_
          exact b_zret (pc := 121) C Rt dX9_tell_121 rfl hF
        · rw [if_neg hc8] at hF
          refine b_iconst (pc := 116) C dX9_tell_116 ic_1 ?_
          refine b_goto (tgt := 121) (pc := 117) C dX9_tell_117 rfl ?_
          exact b_zret (pc := 121) C Rt dX9_tell_121 rfl hF
    · rw [if_neg hc2] at hF
      refine b_aload_n (pc := 88) C dX9_tell_88 rfl 0 rfl ?_
      refine b_iconst (pc := 89) C dX9_tell_89 ic_1 ?_
      obtain ⟨v11, σ10, hc9, hF⟩ := bbd_e hF
      refine b_cV1i (d' := (d + 8)) (pc := 90) C dX9_tell_90 mm_X9_83 (Hh.1 _ _ sh_1) rfl (Nat.le_of_ble_eq_true rfl) (by omega) (Hh.2.2 _ _ _ _ _ _ _ _ _ (lvl_eq (by omega) (e_X9_blame (d + 8) (1 : Int32) _ _ _ hc9))) ?_
      obtain ⟨hz12, hF⟩ := bif_y hF
      exact b_zret (pc := 93) C Rt dX9_tell_93 (bz_n hz12) hF
  · rw [if_pos hc1] at hF
    refine b_iconst (pc := 76) C dX9_tell_76 ic_0 ?_
    exact b_zret (pc := 77) C Rt dX9_tell_77 rfl hF
set_option maxHeartbeats 4000000 in
set_option maxRecDepth 20000 in
theorem e_X9_tell_0 {X : bX} {l : Launch} {G : bG} {ρ : Nat → Nat} {A : Nat → Prop} {d : Nat} {r : Int32} {σ' : bSto} (C : bCX X cX9_tell RX9 (d + 9)) (Hh : bH X l G bSHf ρ A 4) (Rt : bRX X (some .boolean) (some (.int r)) σ') (x1 : Int32) (σ : bSto) (hF : f_X9_tell x1 σ = some (r, σ')) : bAJ X 0 [(0, .ref 1), (1, .int x1)] [] σ := by
  rw [f_X9_tell] at hF
  refine b_aload_n (pc := 0) C dX9_tell_0 rfl 0 rfl ?_
  obtain ⟨hk1, hF⟩ := bif_y hF
  refine b_getR (pc := 1) C dX9_tell_1 fl_X9_31 (Hh.1 _ _ sh_1) rfl ?_
  obtain ⟨σ3, hc2, hF⟩ := bbv_e hF
  refine b_cV0v (d' := (d + 8)) (pc := 4) C dX9_tell_4 mm_X9_59 (Hh.1 _ _ (shR hk1)) rfl (Nat.le_of_ble_eq_true rfl) (by omega) (Hh.2.2 _ _ _ _ _ _ _ _ _ (lvl_eq (by omega) (e_X7_clear (d + 6) _ hk1 _ _ hc2))) ?_
  refine b_aload_n (pc := 7) C dX9_tell_7 rfl 0 rfl ?_
  refine b_iconst (pc := 8) C dX9_tell_8 ic_0 ?_
  obtain ⟨σ4, e5, hF⟩ := blet_e hF
  refine b_putI (pc := 9) C dX9_tell_9 fp_X9_62 (Hh.1 _ _ sh_1) rfl rfl rfl e5 ?_
  refine b_aload_n (pc := 12) C dX9_tell_12 rfl 0 rfl ?_
  refine b_iconst (pc := 13) C dX9_tell_13 ic_0 ?_
  obtain ⟨σ6, e7, hF⟩ := blet_e hF
  refine b_putI (pc := 14) C dX9_tell_14 fp_X9_66 (Hh.1 _ _ sh_1) rfl rfl rfl e7 ?_
  refine b_aload_n (pc := 17) C dX9_tell_17 rfl 0 rfl ?_
  refine b_getS (pc := 18) C dX9_tell_18 fl_X9_12 (Hh.1 _ _ sh_1) rfl ?_
  refine b_iload_n (pc := 21) C dX9_tell_21 rfl 1 rfl ?_
  obtain ⟨σ9, hc8, hF⟩ := bbv_e hF
  refine b_cV1v (d' := (d + 8)) (pc := 22) C dX9_tell_22 mm_X9_69 (Hh.1 _ _ sh_2) rfl (Nat.le_of_ble_eq_true rfl) (by omega) (Hh.2.2 _ _ _ _ _ _ _ _ _ (lvl_eq (by omega) (e_X8_begin (d + 6) x1 _ _ hc8))) ?_
  refine b_aload_n (pc := 25) C dX9_tell_25 rfl 0 rfl ?_
  obtain ⟨v12, σ11, hc10, hF⟩ := bbd_e hF
  refine b_cV0i (d' := (d + 8)) (pc := 26) C dX9_tell_26 mm_X9_73 (Hh.1 _ _ sh_1) rfl (Nat.le_of_ble_eq_true rfl) (by omega) (Hh.2.2 _ _ _ _ _ _ _ _ _ (lvl_eq (by omega) (e_X9_readLine (d + 0)  _ _ _ hc10))) ?_
  refine b_istore_n (L' := [(2, .int v12), (0, .ref 1), (1, .int x1)]) (pc := 29) C dX9_tell_29 rfl rfl (Hh.2.1 _ (Nat.le_of_ble_eq_true rfl)) rfl ?_
  refine b_iconst (pc := 30) C dX9_tell_30 ic_0 ?_
  refine b_istore_n (L' := [(3, .int (0 : Int32)), (2, .int v12), (0, .ref 1), (1, .int x1)]) (pc := 31) C dX9_tell_31 rfl rfl (Hh.2.1 _ (Nat.le_of_ble_eq_true rfl)) rfl ?_
  obtain ⟨x2_13, σ14, hq13, hF⟩ := bl1_e hF
  refine b_sub [2, 1, 0] rfl (e_X9_tell_L32 C Hh Rt bFU v12 (0 : Int32) _ _ hq13 (fun _ _ e  => ?_))
  cases e
  exact b_sub [0, 1] rfl (e_X9_tell_J72 C Hh Rt x2_13 _ hF)
set_option maxHeartbeats 4000000 in
set_option maxRecDepth 20000 in
theorem e_X9_tell {l : Launch} {G : bG} {ρ : Nat → Nat} {A : Nat → Prop} (d : Nat) (x1 : Int32) (σ : bSto) (r : Int32) (σ' : bSto) (hF : f_X9_tell x1 σ = some (r, σ')) : bEv l G bSHf ρ A yX9_tell cX9_tell 4 (some .boolean) (d + 9) [.ref 1, .int x1] σ (some (.int r)) σ' := b_met (d := d + 9) (by decide +kernel) (Nat.le_of_ble_eq_true rfl) rfl (fun X C Rt h1 h2 h3 => e_X9_tell_0 C ⟨fun o q h => by rw [h1]; exact h, fun i h => by rw [h2]; exact h, h3⟩ Rt _ _ hF)
