/-! java/util/Arrays.fill -/
def f_J7_fill_53178_L5 : Nat → Nat → Int32 → Int32 → Int32 → bSto → Option (bSto)
  | 0, _, _, _, _, _ => none
  | n + 1, x0, x1, x2, x3, σ => (if x3 ≤ x2 then some σ else if x2 < 0 ∨ (bln x0) ≤ x2.toNatClampNeg then none else blet (bI σ x0 x2.toNatClampNeg x1) (fun σ2 => blet (x2 + (1 : Int32)) (fun x2_5 => f_J7_fill_53178_L5 n x0 x1 x2_5 x3 σ2)))
def f_J7_fill_53178 (x0 : Nat) (x1 : Int32) (σ : bSto) : Option bSto := blet (Int32.ofNat (bln x0)) (fun x3_1 => bl0 (f_J7_fill_53178_L5 bFU x0 x1 (0 : Int32) x3_1 σ) (fun σ4 => some σ4))
set_option maxHeartbeats 4000000 in
set_option maxRecDepth 20000 in
theorem e_J7_fill_53178_L5 {X : bX} {l : Launch} {G : bG} {ρ : Nat → Nat} {A : Nat → Prop} {d : Nat} {σ' : bSto} (C : bCX X cJ7_fill_53178 RJ7 (d + 0)) (Hh : bH X l G bSHf ρ A 4) (Rt : bRX X none none σ') : ∀ (n : Nat) (x0 : Nat) (hx0 : kIA x0) (x1 : Int32) (x2 : Int32) (x3 : Int32) (σ : bSto) (q : (bSto)), f_J7_fill_53178_L5 n x0 x1 x2 x3 σ = some q → (∀  (s : bSto), q = s → bAJ X 20 [] [] s) → bAJ X 5 [(0, .ref x0), (1, .int x1), (2, .int x2), (3, .int x3)] [] σ := by
  intro n
  induction n with
  | zero => intro x0 hx0 x1 x2 x3 σ q hF; rw [f_J7_fill_53178_L5] at hF; cases hF
  | succ n ih =>
    intro x0 hx0 x1 x2 x3 σ q hF hx
    rw [f_J7_fill_53178_L5] at hF
    refine b_iload_n (pc := 5) C dJ7_fill_53178_5 rfl 2 rfl ?_
    refine b_iload_n (pc := 6) C dJ7_fill_53178_6 rfl 3 rfl ?_
    refine b_icmp_ge (tgt := 20) (pc := 7) C dJ7_fill_53178_7 rfl (fun hc1 => ?_) (fun hc1 => ?_)
    · rw [if_pos hc1] at hF
      exact b_sub [] rfl (hx  _ (Option.some.inj hF).symm )
    · rw [if_neg hc1] at hF
      refine b_aload_n (pc := 10) C dJ7_fill_53178_10 rfl 0 rfl ?_
      refine b_iload_n (pc := 11) C dJ7_fill_53178_11 rfl 2 rfl ?_
      refine b_iload_n (pc := 12) C dJ7_fill_53178_12 rfl 1 rfl ?_
      obtain ⟨hb4, hF⟩ := bif_n hF
      obtain ⟨σ2, e3, hF⟩ := blet_e hF
      refine b_iast (pc := 13) C dJ7_fill_53178_13 (Hh.1 _ _ hx0) hb4 e3 ?_
      obtain ⟨x2_5, e6, hF⟩ := blet_e hF
      refine b_iinc (L' := [(2, .int x2_5), (0, .ref x0), (1, .int x1), (3, .int x3)]) (pc := 14) C dJ7_fill_53178_14 2 rfl ic_1 e6 (Hh.2.1 _ (Nat.le_of_ble_eq_true rfl)) rfl ?_
      refine b_goto (tgt := 5) (pc := 17) C dJ7_fill_53178_17 rfl ?_
      exact b_sub [1, 2, 0, 3] rfl (ih _ hx0 x1 x2_5 x3 _ _ hF hx)
set_option maxHeartbeats 4000000 in
set_option maxRecDepth 20000 in
theorem e_J7_fill_53178_0 {X : bX} {l : Launch} {G : bG} {ρ : Nat → Nat} {A : Nat → Prop} {d : Nat} {σ' : bSto} (C : bCX X cJ7_fill_53178 RJ7 (d + 0)) (Hh : bH X l G bSHf ρ A 4) (Rt : bRX X none none σ') (x0 : Nat) (hx0 : kIA x0) (x1 : Int32) (σ : bSto) (hF : f_J7_fill_53178 x0 x1 σ = some σ') : bAJ X 0 [(0, .ref x0), (1, .int x1)] [] σ := by
  rw [f_J7_fill_53178] at hF
  refine b_iconst (pc := 0) C dJ7_fill_53178_0 ic_0 ?_
  refine b_istore_n (L' := [(2, .int (0 : Int32)), (0, .ref x0), (1, .int x1)]) (pc := 1) C dJ7_fill_53178_1 rfl rfl (Hh.2.1 _ (Nat.le_of_ble_eq_true rfl)) rfl ?_
  refine b_aload_n (pc := 2) C dJ7_fill_53178_2 rfl 1 rfl ?_
  refine b_alen 0 (by decide) (pc := 3) C dJ7_fill_53178_3 (Hh.1 _ _ hx0) rfl ?_
  obtain ⟨x3_1, e2, hF⟩ := blet_e hF
  refine b_istore_n (L' := [(3, .int x3_1), (2, .int (0 : Int32)), (0, .ref x0), (1, .int x1)]) (pc := 4) C dJ7_fill_53178_4 rfl e2 (Hh.2.1 _ (Nat.le_of_ble_eq_true rfl)) rfl ?_
  obtain ⟨σ4, hq3, hF⟩ := bl0_e hF
  refine b_sub [2, 3, 1, 0] rfl (e_J7_fill_53178_L5 C Hh Rt bFU _ hx0 x1 (0 : Int32) x3_1 _ _ hq3 (fun  _ e  => ?_))
  cases e
  exact b_vret (pc := 20) C Rt dJ7_fill_53178_20 hF
set_option maxHeartbeats 4000000 in
set_option maxRecDepth 20000 in
theorem e_J7_fill_53178 {l : Launch} {G : bG} {ρ : Nat → Nat} {A : Nat → Prop} (d : Nat) (x0 : Nat) (hx0 : kIA x0) (x1 : Int32) (σ : bSto) (σ' : bSto) (hF : f_J7_fill_53178 x0 x1 σ = some σ') : bEv l G bSHf ρ A yJ7_fill_53178 cJ7_fill_53178 4 none (d + 0) [.ref x0, .int x1] σ none σ' := b_met (d := d + 0) (by decide +kernel) (Nat.le_of_ble_eq_true rfl) rfl (fun X C Rt h1 h2 h3 => e_J7_fill_53178_0 C ⟨fun o q h => by rw [h1]; exact h, fun i h => by rw [h2]; exact h, h3⟩ Rt _ hx0 _ _ hF)
/-! java/lang/Math.min -/
def f_J9_min_7cf53 (x0 : Int32) (x1 : Int32) (σ : bSto) : Option (Int32 × bSto) := (if x1 < x0 then some (x1, σ) else some (x0, σ))
set_option maxHeartbeats 4000000 in
set_option maxRecDepth 20000 in
theorem e_J9_min_7cf53_0 {X : bX} {l : Launch} {G : bG} {ρ : Nat → Nat} {A : Nat → Prop} {d : Nat} {r : Int32} {σ' : bSto} (C : bCX X cJ9_min_7cf53 RJ9 (d + 0)) (Hh : bH X l G bSHf ρ A 2) (Rt : bRX X (some .int) (some (.int r)) σ') (x0 : Int32) (x1 : Int32) (σ : bSto) (hF : f_J9_min_7cf53 x0 x1 σ = some (r, σ')) : bAJ X 0 [(0, .int x0), (1, .int x1)] [] σ := by
  rw [f_J9_min_7cf53] at hF
  refine b_iload_n (pc := 0) C dJ9_min_7cf53_0 rfl 0 rfl ?_
  refine b_iload_n (pc := 1) C dJ9_min_7cf53_1 rfl 1 rfl ?_
  refine b_icmp_gt (tgt := 9) (pc := 2) C dJ9_min_7cf53_2 rfl (fun hc1 => ?_) (fun hc1 => ?_)
  · rw [if_pos hc1] at hF
    refine b_iload_n (pc := 9) C dJ9_min_7cf53_9 rfl 1 rfl ?_
    exact b_iret (pc := 10) C Rt dJ9_min_7cf53_10 hF
  · rw [if_neg hc1] at hF
    refine b_iload_n (pc := 5) C dJ9_min_7cf53_5 rfl 0 rfl ?_
    refine b_goto (tgt := 10) (pc := 6) C dJ9_min_7cf53_6 rfl ?_
    exact b_iret (pc := 10) C Rt dJ9_min_7cf53_10 hF
set_option maxHeartbeats 4000000 in
set_option maxRecDepth 20000 in
theorem e_J9_min_7cf53 {l : Launch} {G : bG} {ρ : Nat → Nat} {A : Nat → Prop} (d : Nat) (x0 : Int32) (x1 : Int32) (σ : bSto) (r : Int32) (σ' : bSto) (hF : f_J9_min_7cf53 x0 x1 σ = some (r, σ')) : bEv l G bSHf ρ A yJ9_min_7cf53 cJ9_min_7cf53 2 (some .int) (d + 0) [.int x0, .int x1] σ (some (.int r)) σ' := b_met (d := d + 0) (by decide +kernel) (Nat.le_of_ble_eq_true rfl) rfl (fun X C Rt h1 h2 h3 => e_J9_min_7cf53_0 C ⟨fun o q h => by rw [h1]; exact h, fun i h => by rw [h2]; exact h, h3⟩ Rt _ _ _ hF)
/-! java/lang/Math.max -/
def f_J9_max_7cf53 (x0 : Int32) (x1 : Int32) (σ : bSto) : Option (Int32 × bSto) := (if x0 < x1 then some (x1, σ) else some (x0, σ))
set_option maxHeartbeats 4000000 in
set_option maxRecDepth 20000 in
theorem e_J9_max_7cf53_0 {X : bX} {l : Launch} {G : bG} {ρ : Nat → Nat} {A : Nat → Prop} {d : Nat} {r : Int32} {σ' : bSto} (C : bCX X cJ9_max_7cf53 RJ9 (d + 0)) (Hh : bH X l G bSHf ρ A 2) (Rt : bRX X (some .int) (some (.int r)) σ') (x0 : Int32) (x1 : Int32) (σ : bSto) (hF : f_J9_max_7cf53 x0 x1 σ = some (r, σ')) : bAJ X 0 [(0, .int x0), (1, .int x1)] [] σ := by
  rw [f_J9_max_7cf53] at hF
  refine b_iload_n (pc := 0) C dJ9_max_7cf53_0 rfl 0 rfl ?_
  refine b_iload_n (pc := 1) C dJ9_max_7cf53_1 rfl 1 rfl ?_
  refine b_icmp_lt (tgt := 9) (pc := 2) C dJ9_max_7cf53_2 rfl (fun hc1 => ?_) (fun hc1 => ?_)
  · rw [if_pos hc1] at hF
    refine b_iload_n (pc := 9) C dJ9_max_7cf53_9 rfl 1 rfl ?_
    exact b_iret (pc := 10) C Rt dJ9_max_7cf53_10 hF
  · rw [if_neg hc1] at hF
    refine b_iload_n (pc := 5) C dJ9_max_7cf53_5 rfl 0 rfl ?_
    refine b_goto (tgt := 10) (pc := 6) C dJ9_max_7cf53_6 rfl ?_
    exact b_iret (pc := 10) C Rt dJ9_max_7cf53_10 hF
set_option maxHeartbeats 4000000 in
set_option maxRecDepth 20000 in
theorem e_J9_max_7cf53 {l : Launch} {G : bG} {ρ : Nat → Nat} {A : Nat → Prop} (d : Nat) (x0 : Int32) (x1 : Int32) (σ : bSto) (r : Int32) (σ' : bSto) (hF : f_J9_max_7cf53 x0 x1 σ = some (r, σ')) : bEv l G bSHf ρ A yJ9_max_7cf53 cJ9_max_7cf53 2 (some .int) (d + 0) [.int x0, .int x1] σ (some (.int r)) σ' := b_met (d := d + 0) (by decide +kernel) (Nat.le_of_ble_eq_true rfl) rfl (fun X C Rt h1 h2 h3 => e_J9_max_7cf53_0 C ⟨fun o q h => by rw [h1]; exact h, fun i h => by rw [h2]; exact h, h3⟩ Rt _ _ _ hF)
/-! java/lang/Integer.bitCount -/
def f_J6_bitCount_0f7a4 (x0 : Int32) (σ : bSto) : Option (Int32 × bSto) := blet (x0 - (((x0.toUInt32 >>> ((1 : Int32).toUInt32 &&& Int32.toUInt32 31)).toInt32) &&& (1431655765 : Int32))) (fun x0_1 => blet ((x0_1 &&& (858993459 : Int32)) + (((x0_1.toUInt32 >>> ((2 : Int32).toUInt32 &&& Int32.toUInt32 31)).toInt32) &&& (858993459 : Int32))) (fun x0_3 => blet ((x0_3 + ((x0_3.toUInt32 >>> ((4 : Int32).toUInt32 &&& Int32.toUInt32 31)).toInt32)) &&& (252645135 : Int32)) (fun x0_5 => blet (x0_5 + ((x0_5.toUInt32 >>> ((8 : Int32).toUInt32 &&& Int32.toUInt32 31)).toInt32)) (fun x0_7 => blet (x0_7 + ((x0_7.toUInt32 >>> ((16 : Int32).toUInt32 &&& Int32.toUInt32 31)).toInt32)) (fun x0_9 => some ((x0_9 &&& (63 : Int32)), σ))))))
set_option maxHeartbeats 4000000 in
set_option maxRecDepth 20000 in
theorem e_J6_bitCount_0f7a4_0 {X : bX} {l : Launch} {G : bG} {ρ : Nat → Nat} {A : Nat → Prop} {d : Nat} {r : Int32} {σ' : bSto} (C : bCX X cJ6_bitCount_0f7a4 RJ6 (d + 0)) (Hh : bH X l G bSHf ρ A 1) (Rt : bRX X (some .int) (some (.int r)) σ') (x0 : Int32) (σ : bSto) (hF : f_J6_bitCount_0f7a4 x0 σ = some (r, σ')) : bAJ X 0 [(0, .int x0)] [] σ := by
  rw [f_J6_bitCount_0f7a4] at hF
  refine b_iload_n (pc := 0) C dJ6_bitCount_0f7a4_0 rfl 0 rfl ?_
  refine b_iload_n (pc := 1) C dJ6_bitCount_0f7a4_1 rfl 0 rfl ?_
  refine b_iconst (pc := 2) C dJ6_bitCount_0f7a4_2 ic_1 ?_
  refine b_iushr (pc := 3) C dJ6_bitCount_0f7a4_3 ?_
  refine b_ldcw (pc := 4) C dJ6_bitCount_0f7a4_4 ww_J6_265 ?_
  refine b_iand (pc := 7) C dJ6_bitCount_0f7a4_7 ?_
  refine b_isub (pc := 8) C dJ6_bitCount_0f7a4_8 ?_
  obtain ⟨x0_1, e2, hF⟩ := blet_e hF
  refine b_istore_n (L' := [(0, .int x0_1)]) (pc := 9) C dJ6_bitCount_0f7a4_9 rfl e2 (Hh.2.1 _ (Nat.le_of_ble_eq_true rfl)) rfl ?_
  refine b_iload_n (pc := 10) C dJ6_bitCount_0f7a4_10 rfl 0 rfl ?_
  refine b_ldcw (pc := 11) C dJ6_bitCount_0f7a4_11 ww_J6_266 ?_
  refine b_iand (pc := 14) C dJ6_bitCount_0f7a4_14 ?_
  refine b_iload_n (pc := 15) C dJ6_bitCount_0f7a4_15 rfl 0 rfl ?_
  refine b_iconst (pc := 16) C dJ6_bitCount_0f7a4_16 ic_2 ?_
  refine b_iushr (pc := 17) C dJ6_bitCount_0f7a4_17 ?_
  refine b_ldcw (pc := 18) C dJ6_bitCount_0f7a4_18 ww_J6_266 ?_
  refine b_iand (pc := 21) C dJ6_bitCount_0f7a4_21 ?_
  refine b_iadd (pc := 22) C dJ6_bitCount_0f7a4_22 ?_
  obtain ⟨x0_3, e4, hF⟩ := blet_e hF
  refine b_istore_n (L' := [(0, .int x0_3)]) (pc := 23) C dJ6_bitCount_0f7a4_23 rfl e4 (Hh.2.1 _ (Nat.le_of_ble_eq_true rfl)) rfl ?_
  refine b_iload_n (pc := 24) C dJ6_bitCount_0f7a4_24 rfl 0 rfl ?_
  refine b_iload_n (pc := 25) C dJ6_bitCount_0f7a4_25 rfl 0 rfl ?_
  refine b_iconst (pc := 26) C dJ6_bitCount_0f7a4_26 ic_4 ?_
  refine b_iushr (pc := 27) C dJ6_bitCount_0f7a4_27 ?_
  refine b_iadd (pc := 28) C dJ6_bitCount_0f7a4_28 ?_
  refine b_ldcw (pc := 29) C dJ6_bitCount_0f7a4_29 ww_J6_267 ?_
  refine b_iand (pc := 32) C dJ6_bitCount_0f7a4_32 ?_
  obtain ⟨x0_5, e6, hF⟩ := blet_e hF
  refine b_istore_n (L' := [(0, .int x0_5)]) (pc := 33) C dJ6_bitCount_0f7a4_33 rfl e6 (Hh.2.1 _ (Nat.le_of_ble_eq_true rfl)) rfl ?_
  refine b_iload_n (pc := 34) C dJ6_bitCount_0f7a4_34 rfl 0 rfl ?_
  refine b_iload_n (pc := 35) C dJ6_bitCount_0f7a4_35 rfl 0 rfl ?_
  refine b_bipush (pc := 36) C dJ6_bitCount_0f7a4_36 bp_8 ?_
  refine b_iushr (pc := 38) C dJ6_bitCount_0f7a4_38 ?_
  refine b_iadd (pc := 39) C dJ6_bitCount_0f7a4_39 ?_
  obtain ⟨x0_7, e8, hF⟩ := blet_e hF
  refine b_istore_n (L' := [(0, .int x0_7)]) (pc := 40) C dJ6_bitCount_0f7a4_40 rfl e8 (Hh.2.1 _ (Nat.le_of_ble_eq_true rfl)) rfl ?_
  refine b_iload_n (pc := 41) C dJ6_bitCount_0f7a4_41 rfl 0 rfl ?_
  refine b_iload_n (pc := 42) C dJ6_bitCount_0f7a4_42 rfl 0 rfl ?_
  refine b_bipush (pc := 43) C dJ6_bitCount_0f7a4_43 bp_16 ?_
  refine b_iushr (pc := 45) C dJ6_bitCount_0f7a4_45 ?_
  refine b_iadd (pc := 46) C dJ6_bitCount_0f7a4_46 ?_
  obtain ⟨x0_9, e10, hF⟩ := blet_e hF
  refine b_istore_n (L' := [(0, .int x0_9)]) (pc := 47) C dJ6_bitCount_0f7a4_47 rfl e10 (Hh.2.1 _ (Nat.le_of_ble_eq_true rfl)) rfl ?_
  refine b_iload_n (pc := 48) C dJ6_bitCount_0f7a4_48 rfl 0 rfl ?_
  refine b_bipush (pc := 49) C dJ6_bitCount_0f7a4_49 bp_63 ?_
  refine b_iand (pc := 51) C dJ6_bitCount_0f7a4_51 ?_
  exact b_iret (pc := 52) C Rt dJ6_bitCount_0f7a4_52 hF
set_option maxHeartbeats 4000000 in
set_option maxRecDepth 20000 in
theorem e_J6_bitCount_0f7a4 {l : Launch} {G : bG} {ρ : Nat → Nat} {A : Nat → Prop} (d : Nat) (x0 : Int32) (σ : bSto) (r : Int32) (σ' : bSto) (hF : f_J6_bitCount_0f7a4 x0 σ = some (r, σ')) : bEv l G bSHf ρ A yJ6_bitCount_0f7a4 cJ6_bitCount_0f7a4 1 (some .int) (d + 0) [.int x0] σ (some (.int r)) σ' := b_met (d := d + 0) (by decide +kernel) (Nat.le_of_ble_eq_true rfl) rfl (fun X C Rt h1 h2 h3 => e_J6_bitCount_0f7a4_0 C ⟨fun o q h => by rw [h1]; exact h, fun i h => by rw [h2]; exact h, h3⟩ Rt _ _ hF)
/-! java/lang/Math.abs -/
def f_J9_abs_0f7a4 (x0 : Int32) (σ : bSto) : Option (Int32 × bSto) := (if 0 ≤ x0 then some (x0, σ) else some ((-x0), σ))
set_option maxHeartbeats 4000000 in
set_option maxRecDepth 20000 in
theorem e_J9_abs_0f7a4_0 {X : bX} {l : Launch} {G : bG} {ρ : Nat → Nat} {A : Nat → Prop} {d : Nat} {r : Int32} {σ' : bSto} (C : bCX X cJ9_abs_0f7a4 RJ9 (d + 0)) (Hh : bH X l G bSHf ρ A 1) (Rt : bRX X (some .int) (some (.int r)) σ') (x0 : Int32) (σ : bSto) (hF : f_J9_abs_0f7a4 x0 σ = some (r, σ')) : bAJ X 0 [(0, .int x0)] [] σ := by
  rw [f_J9_abs_0f7a4] at hF
  refine b_iload_n (pc := 0) C dJ9_abs_0f7a4_0 rfl 0 rfl ?_
  refine b_if_ge (tgt := 9) (pc := 1) C dJ9_abs_0f7a4_1 rfl (fun hc1 => ?_) (fun hc1 => ?_)
  · rw [if_pos hc1] at hF
    refine b_iload_n (pc := 9) C dJ9_abs_0f7a4_9 rfl 0 rfl ?_
    exact b_iret (pc := 10) C Rt dJ9_abs_0f7a4_10 hF
  · rw [if_neg hc1] at hF
    refine b_iload_n (pc := 4) C dJ9_abs_0f7a4_4 rfl 0 rfl ?_
    refine b_ineg (pc := 5) C dJ9_abs_0f7a4_5 ?_
    refine b_goto (tgt := 10) (pc := 6) C dJ9_abs_0f7a4_6 rfl ?_
    exact b_iret (pc := 10) C Rt dJ9_abs_0f7a4_10 hF
set_option maxHeartbeats 4000000 in
set_option maxRecDepth 20000 in
theorem e_J9_abs_0f7a4 {l : Launch} {G : bG} {ρ : Nat → Nat} {A : Nat → Prop} (d : Nat) (x0 : Int32) (σ : bSto) (r : Int32) (σ' : bSto) (hF : f_J9_abs_0f7a4 x0 σ = some (r, σ')) : bEv l G bSHf ρ A yJ9_abs_0f7a4 cJ9_abs_0f7a4 1 (some .int) (d + 0) [.int x0] σ (some (.int r)) σ' := b_met (d := d + 0) (by decide +kernel) (Nat.le_of_ble_eq_true rfl) rfl (fun X C Rt h1 h2 h3 => e_J9_abs_0f7a4_0 C ⟨fun o q h => by rw [h1]; exact h, fun i h => by rw [h2]; exact h, h3⟩ Rt _ _ hF)
/-! java/lang/Integer.numberOfTrailingZeros -/
def f_J6_numberOfTrailingZeros_0f7a4_J74 (x0 : Int32) (x1 : Int32) (σ : bSto) : Option (Int32 × bSto) := some ((x1 + ((x0.toUInt32 >>> ((1 : Int32).toUInt32 &&& Int32.toUInt32 31)).toInt32)), σ)
def f_J6_numberOfTrailingZeros_0f7a4_J62 (x0 : Int32) (x1 : Int32) (σ : bSto) : Option (Int32 × bSto) := (if x0 ≤ (4 : Int32) then f_J6_numberOfTrailingZeros_0f7a4_J74 x0 x1 σ else blet (x1 + (2 : Int32)) (fun x1_2 => blet ((x0.toUInt32 >>> ((2 : Int32).toUInt32 &&& Int32.toUInt32 31)).toInt32) (fun x0_4 => f_J6_numberOfTrailingZeros_0f7a4_J74 x0_4 x1_2 σ)))
def f_J6_numberOfTrailingZeros_0f7a4_J49 (x0 : Int32) (x1 : Int32) (σ : bSto) : Option (Int32 × bSto) := (if x0 ≤ (16 : Int32) then f_J6_numberOfTrailingZeros_0f7a4_J62 x0 x1 σ else blet (x1 + (4 : Int32)) (fun x1_2 => blet ((x0.toUInt32 >>> ((4 : Int32).toUInt32 &&& Int32.toUInt32 31)).toInt32) (fun x0_4 => f_J6_numberOfTrailingZeros_0f7a4_J62 x0_4 x1_2 σ)))
def f_J6_numberOfTrailingZeros_0f7a4_J34 (x0 : Int32) (x1 : Int32) (σ : bSto) : Option (Int32 × bSto) := (if x0 ≤ (256 : Int32) then f_J6_numberOfTrailingZeros_0f7a4_J49 x0 x1 σ else blet (x1 + (8 : Int32)) (fun x1_2 => blet ((x0.toUInt32 >>> ((8 : Int32).toUInt32 &&& Int32.toUInt32 31)).toInt32) (fun x0_4 => f_J6_numberOfTrailingZeros_0f7a4_J49 x0_4 x1_2 σ)))
def f_J6_numberOfTrailingZeros_0f7a4 (x0 : Int32) (σ : bSto) : Option (Int32 × bSto) := blet ((x0 ^^^ (-1 : Int32)) &&& (x0 - (1 : Int32))) (fun x0_1 => (if 0 < x0_1 then (if x0_1 ≤ (65536 : Int32) then f_J6_numberOfTrailingZeros_0f7a4_J34 x0_1 (1 : Int32) σ else blet ((1 : Int32) + (16 : Int32)) (fun x1_5 => blet ((x0_1.toUInt32 >>> ((16 : Int32).toUInt32 &&& Int32.toUInt32 31)).toInt32) (fun x0_7 => f_J6_numberOfTrailingZeros_0f7a4_J34 x0_7 x1_5 σ))) else some ((x0_1 &&& (32 : Int32)), σ)))
set_option maxHeartbeats 4000000 in
set_option maxRecDepth 20000 in
theorem e_J6_numberOfTrailingZeros_0f7a4_J74 {X : bX} {l : Launch} {G : bG} {ρ : Nat → Nat} {A : Nat → Prop} {d : Nat} {r : Int32} {σ' : bSto} (C : bCX X cJ6_numberOfTrailingZeros_0f7a4 RJ6 (d + 0)) (Hh : bH X l G bSHf ρ A 2) (Rt : bRX X (some .int) (some (.int r)) σ') (x0 : Int32) (x1 : Int32) (σ : bSto) (hF : f_J6_numberOfTrailingZeros_0f7a4_J74 x0 x1 σ = some (r, σ')) : bAJ X 74 [(0, .int x0), (1, .int x1)] [] σ := by
  rw [f_J6_numberOfTrailingZeros_0f7a4_J74] at hF
  refine b_iload_n (pc := 74) C dJ6_numberOfTrailingZeros_0f7a4_74 rfl 1 rfl ?_
  refine b_iload_n (pc := 75) C dJ6_numberOfTrailingZeros_0f7a4_75 rfl 0 rfl ?_
  refine b_iconst (pc := 76) C dJ6_numberOfTrailingZeros_0f7a4_76 ic_1 ?_
  refine b_iushr (pc := 77) C dJ6_numberOfTrailingZeros_0f7a4_77 ?_
  refine b_iadd (pc := 78) C dJ6_numberOfTrailingZeros_0f7a4_78 ?_
  exact b_iret (pc := 79) C Rt dJ6_numberOfTrailingZeros_0f7a4_79 hF
set_option maxHeartbeats 4000000 in
set_option maxRecDepth 20000 in
theorem e_J6_numberOfTrailingZeros_0f7a4_J62 {X : bX} {l : Launch} {G : bG} {ρ : Nat → Nat} {A : Nat → Prop} {d : Nat} {r : Int32} {σ' : bSto} (C : bCX X cJ6_numberOfTrailingZeros_0f7a4 RJ6 (d + 0)) (Hh : bH X l G bSHf ρ A 2) (Rt : bRX X (some .int) (some (.int r)) σ') (x0 : Int32) (x1 : Int32) (σ : bSto) (hF : f_J6_numberOfTrailingZeros_0f7a4_J62 x0 x1 σ = some (r, σ')) : bAJ X 62 [(0, .int x0), (1, .int x1)] [] σ := by
  rw [f_J6_numberOfTrailingZeros_0f7a4_J62] at hF
  refine b_iload_n (pc := 62) C dJ6_numberOfTrailingZeros_0f7a4_62 rfl 0 rfl ?_
  refine b_iconst (pc := 63) C dJ6_numberOfTrailingZeros_0f7a4_63 ic_4 ?_
  refine b_icmp_le (tgt := 74) (pc := 64) C dJ6_numberOfTrailingZeros_0f7a4_64 rfl (fun hc1 => ?_) (fun hc1 => ?_)
  · rw [if_pos hc1] at hF
    exact b_sub [0, 1] rfl (e_J6_numberOfTrailingZeros_0f7a4_J74 C Hh Rt x0 x1 _ hF)
  · rw [if_neg hc1] at hF
    obtain ⟨x1_2, e3, hF⟩ := blet_e hF
    refine b_iinc (L' := [(1, .int x1_2), (0, .int x0)]) (pc := 67) C dJ6_numberOfTrailingZeros_0f7a4_67 1 rfl ic_2 e3 (Hh.2.1 _ (Nat.le_of_ble_eq_true rfl)) rfl ?_
    refine b_iload_n (pc := 70) C dJ6_numberOfTrailingZeros_0f7a4_70 rfl 1 rfl ?_
    refine b_iconst (pc := 71) C dJ6_numberOfTrailingZeros_0f7a4_71 ic_2 ?_
    refine b_iushr (pc := 72) C dJ6_numberOfTrailingZeros_0f7a4_72 ?_
    obtain ⟨x0_4, e5, hF⟩ := blet_e hF
    refine b_istore_n (L' := [(0, .int x0_4), (1, .int x1_2)]) (pc := 73) C dJ6_numberOfTrailingZeros_0f7a4_73 rfl e5 (Hh.2.1 _ (Nat.le_of_ble_eq_true rfl)) rfl ?_
    exact b_sub [0, 1] rfl (e_J6_numberOfTrailingZeros_0f7a4_J74 C Hh Rt x0_4 x1_2 _ hF)
set_option maxHeartbeats 4000000 in
set_option maxRecDepth 20000 in
theorem e_J6_numberOfTrailingZeros_0f7a4_J49 {X : bX} {l : Launch} {G : bG} {ρ : Nat → Nat} {A : Nat → Prop} {d : Nat} {r : Int32} {σ' : bSto} (C : bCX X cJ6_numberOfTrailingZeros_0f7a4 RJ6 (d + 0)) (Hh : bH X l G bSHf ρ A 2) (Rt : bRX X (some .int) (some (.int r)) σ') (x0 : Int32) (x1 : Int32) (σ : bSto) (hF : f_J6_numberOfTrailingZeros_0f7a4_J49 x0 x1 σ = some (r, σ')) : bAJ X 49 [(0, .int x0), (1, .int x1)] [] σ := by
  rw [f_J6_numberOfTrailingZeros_0f7a4_J49] at hF
  refine b_iload_n (pc := 49) C dJ6_numberOfTrailingZeros_0f7a4_49 rfl 0 rfl ?_
  refine b_bipush (pc := 50) C dJ6_numberOfTrailingZeros_0f7a4_50 bp_16 ?_
  refine b_icmp_le (tgt := 62) (pc := 52) C dJ6_numberOfTrailingZeros_0f7a4_52 rfl (fun hc1 => ?_) (fun hc1 => ?_)
  · rw [if_pos hc1] at hF
    exact b_sub [0, 1] rfl (e_J6_numberOfTrailingZeros_0f7a4_J62 C Hh Rt x0 x1 _ hF)
  · rw [if_neg hc1] at hF
    obtain ⟨x1_2, e3, hF⟩ := blet_e hF
    refine b_iinc (L' := [(1, .int x1_2), (0, .int x0)]) (pc := 55) C dJ6_numberOfTrailingZeros_0f7a4_55 1 rfl ic_4 e3 (Hh.2.1 _ (Nat.le_of_ble_eq_true rfl)) rfl ?_
    refine b_iload_n (pc := 58) C dJ6_numberOfTrailingZeros_0f7a4_58 rfl 1 rfl ?_
    refine b_iconst (pc := 59) C dJ6_numberOfTrailingZeros_0f7a4_59 ic_4 ?_
    refine b_iushr (pc := 60) C dJ6_numberOfTrailingZeros_0f7a4_60 ?_
    obtain ⟨x0_4, e5, hF⟩ := blet_e hF
    refine b_istore_n (L' := [(0, .int x0_4), (1, .int x1_2)]) (pc := 61) C dJ6_numberOfTrailingZeros_0f7a4_61 rfl e5 (Hh.2.1 _ (Nat.le_of_ble_eq_true rfl)) rfl ?_
    exact b_sub [0, 1] rfl (e_J6_numberOfTrailingZeros_0f7a4_J62 C Hh Rt x0_4 x1_2 _ hF)
set_option maxHeartbeats 4000000 in
set_option maxRecDepth 20000 in
theorem e_J6_numberOfTrailingZeros_0f7a4_J34 {X : bX} {l : Launch} {G : bG} {ρ : Nat → Nat} {A : Nat → Prop} {d : Nat} {r : Int32} {σ' : bSto} (C : bCX X cJ6_numberOfTrailingZeros_0f7a4 RJ6 (d + 0)) (Hh : bH X l G bSHf ρ A 2) (Rt : bRX X (some .int) (some (.int r)) σ') (x0 : Int32) (x1 : Int32) (σ : bSto) (hF : f_J6_numberOfTrailingZeros_0f7a4_J34 x0 x1 σ = some (r, σ')) : bAJ X 34 [(0, .int x0), (1, .int x1)] [] σ := by
  rw [f_J6_numberOfTrailingZeros_0f7a4_J34] at hF
  refine b_iload_n (pc := 34) C dJ6_numberOfTrailingZeros_0f7a4_34 rfl 0 rfl ?_
  refine b_sipush (pc := 35) C dJ6_numberOfTrailingZeros_0f7a4_35 sp_256 ?_
  refine b_icmp_le (tgt := 49) (pc := 38) C dJ6_numberOfTrailingZeros_0f7a4_38 rfl (fun hc1 => ?_) (fun hc1 => ?_)
  · rw [if_pos hc1] at hF
    exact b_sub [0, 1] rfl (e_J6_numberOfTrailingZeros_0f7a4_J49 C Hh Rt x0 x1 _ hF)
  · rw [if_neg hc1] at hF
    obtain ⟨x1_2, e3, hF⟩ := blet_e hF
    refine b_iinc (L' := [(1, .int x1_2), (0, .int x0)]) (pc := 41) C dJ6_numberOfTrailingZeros_0f7a4_41 1 rfl ic_8 e3 (Hh.2.1 _ (Nat.le_of_ble_eq_true rfl)) rfl ?_
    refine b_iload_n (pc := 44) C dJ6_numberOfTrailingZeros_0f7a4_44 rfl 1 rfl ?_
    refine b_bipush (pc := 45) C dJ6_numberOfTrailingZeros_0f7a4_45 bp_8 ?_
    refine b_iushr (pc := 47) C dJ6_numberOfTrailingZeros_0f7a4_47 ?_
    obtain ⟨x0_4, e5, hF⟩ := blet_e hF
    refine b_istore_n (L' := [(0, .int x0_4), (1, .int x1_2)]) (pc := 48) C dJ6_numberOfTrailingZeros_0f7a4_48 rfl e5 (Hh.2.1 _ (Nat.le_of_ble_eq_true rfl)) rfl ?_
    exact b_sub [0, 1] rfl (e_J6_numberOfTrailingZeros_0f7a4_J49 C Hh Rt x0_4 x1_2 _ hF)
set_option maxHeartbeats 4000000 in
set_option maxRecDepth 20000 in
theorem e_J6_numberOfTrailingZeros_0f7a4_0 {X : bX} {l : Launch} {G : bG} {ρ : Nat → Nat} {A : Nat → Prop} {d : Nat} {r : Int32} {σ' : bSto} (C : bCX X cJ6_numberOfTrailingZeros_0f7a4 RJ6 (d + 0)) (Hh : bH X l G bSHf ρ A 2) (Rt : bRX X (some .int) (some (.int r)) σ') (x0 : Int32) (σ : bSto) (hF : f_J6_numberOfTrailingZeros_0f7a4 x0 σ = some (r, σ')) : bAJ X 0 [(0, .int x0)] [] σ := by
  rw [f_J6_numberOfTrailingZeros_0f7a4] at hF
  refine b_iload_n (pc := 0) C dJ6_numberOfTrailingZeros_0f7a4_0 rfl 0 rfl ?_
  refine b_iconst (pc := 1) C dJ6_numberOfTrailingZeros_0f7a4_1 ic_m1 ?_
  refine b_ixor (pc := 2) C dJ6_numberOfTrailingZeros_0f7a4_2 ?_
  refine b_iload_n (pc := 3) C dJ6_numberOfTrailingZeros_0f7a4_3 rfl 0 rfl ?_
  refine b_iconst (pc := 4) C dJ6_numberOfTrailingZeros_0f7a4_4 ic_1 ?_
  refine b_isub (pc := 5) C dJ6_numberOfTrailingZeros_0f7a4_5 ?_
  refine b_iand (pc := 6) C dJ6_numberOfTrailingZeros_0f7a4_6 ?_
  obtain ⟨x0_1, e2, hF⟩ := blet_e hF
  refine b_istore_n (L' := [(0, .int x0_1)]) (pc := 7) C dJ6_numberOfTrailingZeros_0f7a4_7 rfl e2 (Hh.2.1 _ (Nat.le_of_ble_eq_true rfl)) rfl ?_
  refine b_iload_n (pc := 8) C dJ6_numberOfTrailingZeros_0f7a4_8 rfl 0 rfl ?_
  refine b_if_gt (tgt := 17) (pc := 9) C dJ6_numberOfTrailingZeros_0f7a4_9 rfl (fun hc3 => ?_) (fun hc3 => ?_)
  · rw [if_pos hc3] at hF
    refine b_iconst (pc := 17) C dJ6_numberOfTrailingZeros_0f7a4_17 ic_1 ?_
    refine b_istore_n (L' := [(1, .int (1 : Int32)), (0, .int x0_1)]) (pc := 18) C dJ6_numberOfTrailingZeros_0f7a4_18 rfl rfl (Hh.2.1 _ (Nat.le_of_ble_eq_true rfl)) rfl ?_
    refine b_iload_n (pc := 19) C dJ6_numberOfTrailingZeros_0f7a4_19 rfl 1 rfl ?_
    refine b_ldcw (pc := 20) C dJ6_numberOfTrailingZeros_0f7a4_20 ww_J6_264 ?_
    refine b_icmp_le (tgt := 34) (pc := 23) C dJ6_numberOfTrailingZeros_0f7a4_23 rfl (fun hc4 => ?_) (fun hc4 => ?_)
    · rw [if_pos hc4] at hF
      exact b_sub [1, 0] rfl (e_J6_numberOfTrailingZeros_0f7a4_J34 C Hh Rt x0_1 (1 : Int32) _ hF)
    · rw [if_neg hc4] at hF
      obtain ⟨x1_5, e6, hF⟩ := blet_e hF
      refine b_iinc (L' := [(1, .int x1_5), (0, .int x0_1)]) (pc := 26) C dJ6_numberOfTrailingZeros_0f7a4_26 0 rfl ic_16 e6 (Hh.2.1 _ (Nat.le_of_ble_eq_true rfl)) rfl ?_
      refine b_iload_n (pc := 29) C dJ6_numberOfTrailingZeros_0f7a4_29 rfl 1 rfl ?_
      refine b_bipush (pc := 30) C dJ6_numberOfTrailingZeros_0f7a4_30 bp_16 ?_
      refine b_iushr (pc := 32) C dJ6_numberOfTrailingZeros_0f7a4_32 ?_
      obtain ⟨x0_7, e8, hF⟩ := blet_e hF
      refine b_istore_n (L' := [(0, .int x0_7), (1, .int x1_5)]) (pc := 33) C dJ6_numberOfTrailingZeros_0f7a4_33 rfl e8 (Hh.2.1 _ (Nat.le_of_ble_eq_true rfl)) rfl ?_
      exact b_sub [0, 1] rfl (e_J6_numberOfTrailingZeros_0f7a4_J34 C Hh Rt x0_7 x1_5 _ hF)
  · rw [if_neg hc3] at hF
    refine b_iload_n (pc := 12) C dJ6_numberOfTrailingZeros_0f7a4_12 rfl 0 rfl ?_
    refine b_bipush (pc := 13) C dJ6_numberOfTrailingZeros_0f7a4_13 bp_32 ?_
    refine b_iand (pc := 15) C dJ6_numberOfTrailingZeros_0f7a4_15 ?_
    exact b_iret (pc := 16) C Rt dJ6_numberOfTrailingZeros_0f7a4_16 hF
set_option maxHeartbeats 4000000 in
set_option maxRecDepth 20000 in
theorem e_J6_numberOfTrailingZeros_0f7a4 {l : Launch} {G : bG} {ρ : Nat → Nat} {A : Nat → Prop} (d : Nat) (x0 : Int32) (σ : bSto) (r : Int32) (σ' : bSto) (hF : f_J6_numberOfTrailingZeros_0f7a4 x0 σ = some (r, σ')) : bEv l G bSHf ρ A yJ6_numberOfTrailingZeros_0f7a4 cJ6_numberOfTrailingZeros_0f7a4 2 (some .int) (d + 0) [.int x0] σ (some (.int r)) σ' := b_met (d := d + 0) (by decide +kernel) (Nat.le_of_ble_eq_true rfl) rfl (fun X C Rt h1 h2 h3 => e_J6_numberOfTrailingZeros_0f7a4_0 C ⟨fun o q h => by rw [h1]; exact h, fun i h => by rw [h2]; exact h, h3⟩ Rt _ _ hF)
/-! java/lang/Math.floorMod -/
def f_J9_floorMod_7cf53 (x0 : Int32) (x1 : Int32) (σ : bSto) : Option (Int32 × bSto) := if x1 = 0 then none else blet (x0 - x0 / x1 * x1) (fun x2_2 => (if 0 ≤ (x0 ^^^ x1) then some (x2_2, σ) else (if x2_2 = 0 then some (x2_2, σ) else some ((x2_2 + x1), σ))))
set_option maxHeartbeats 4000000 in
set_option maxRecDepth 20000 in
theorem e_J9_floorMod_7cf53_0 {X : bX} {l : Launch} {G : bG} {ρ : Nat → Nat} {A : Nat → Prop} {d : Nat} {r : Int32} {σ' : bSto} (C : bCX X cJ9_floorMod_7cf53 RJ9 (d + 0)) (Hh : bH X l G bSHf ρ A 3) (Rt : bRX X (some .int) (some (.int r)) σ') (x0 : Int32) (x1 : Int32) (σ : bSto) (hF : f_J9_floorMod_7cf53 x0 x1 σ = some (r, σ')) : bAJ X 0 [(0, .int x0), (1, .int x1)] [] σ := by
  rw [f_J9_floorMod_7cf53] at hF
  refine b_iload_n (pc := 0) C dJ9_floorMod_7cf53_0 rfl 0 rfl ?_
  refine b_iload_n (pc := 1) C dJ9_floorMod_7cf53_1 rfl 1 rfl ?_
  obtain ⟨hz1, hF⟩ := bif_n hF
  refine b_irem (pc := 2) C dJ9_floorMod_7cf53_2 hz1 ?_
  obtain ⟨x2_2, e3, hF⟩ := blet_e hF
  refine b_istore_n (L' := [(2, .int x2_2), (0, .int x0), (1, .int x1)]) (pc := 3) C dJ9_floorMod_7cf53_3 rfl e3 (Hh.2.1 _ (Nat.le_of_ble_eq_true rfl)) rfl ?_
  refine b_iload_n (pc := 4) C dJ9_floorMod_7cf53_4 rfl 1 rfl ?_
  refine b_iload_n (pc := 5) C dJ9_floorMod_7cf53_5 rfl 2 rfl ?_
  refine b_ixor (pc := 6) C dJ9_floorMod_7cf53_6 ?_
  refine b_if_ge (tgt := 18) (pc := 7) C dJ9_floorMod_7cf53_7 rfl (fun hc4 => ?_) (fun hc4 => ?_)
  · rw [if_pos hc4] at hF
    refine b_iload_n (pc := 18) C dJ9_floorMod_7cf53_18 rfl 0 rfl ?_
    exact b_iret (pc := 19) C Rt dJ9_floorMod_7cf53_19 hF
  · rw [if_neg hc4] at hF
    refine b_iload_n (pc := 10) C dJ9_floorMod_7cf53_10 rfl 0 rfl ?_
    refine b_if_eq (tgt := 18) (pc := 11) C dJ9_floorMod_7cf53_11 rfl (fun hc5 => ?_) (fun hc5 => ?_)
    · rw [if_pos hc5] at hF
      refine b_iload_n (pc := 18) C dJ9_floorMod_7cf53_18 rfl 0 rfl ?_
      exact b_iret (pc := 19) C Rt dJ9_floorMod_7cf53_19 hF
    · rw [if_neg hc5] at hF
      refine b_iload_n (pc := 14) C dJ9_floorMod_7cf53_14 rfl 0 rfl ?_
      refine b_iload_n (pc := 15) C dJ9_floorMod_7cf53_15 rfl 2 rfl ?_
      refine b_iadd (pc := 16) C dJ9_floorMod_7cf53_16 ?_
      exact b_iret (pc := 17) C Rt dJ9_floorMod_7cf53_17 hF
set_option maxHeartbeats 4000000 in
set_option maxRecDepth 20000 in
theorem e_J9_floorMod_7cf53 {l : Launch} {G : bG} {ρ : Nat → Nat} {A : Nat → Prop} (d : Nat) (x0 : Int32) (x1 : Int32) (σ : bSto) (r : Int32) (σ' : bSto) (hF : f_J9_floorMod_7cf53 x0 x1 σ = some (r, σ')) : bEv l G bSHf ρ A yJ9_floorMod_7cf53 cJ9_floorMod_7cf53 3 (some .int) (d + 0) [.int x0, .int x1] σ (some (.int r)) σ' := b_met (d := d + 0) (by decide +kernel) (Nat.le_of_ble_eq_true rfl) rfl (fun X C Rt h1 h2 h3 => e_J9_floorMod_7cf53_0 C ⟨fun o q h => by rw [h1]; exact h, fun i h => by rw [h2]; exact h, h3⟩ Rt _ _ _ hF)
