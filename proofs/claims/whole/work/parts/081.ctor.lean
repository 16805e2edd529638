/-! ===== the constructors (own work, printed by wip/whole/gen) ===== -/
theorem tm_0 : ¬ (0 : Int32) < 0 ∧ (0 : Int32).toNatClampNeg = 0 := by decide
theorem tm_1 : ¬ (1 : Int32) < 0 ∧ (1 : Int32).toNatClampNeg = 1 := by decide
theorem tm_2 : ¬ (2 : Int32) < 0 ∧ (2 : Int32).toNatClampNeg = 2 := by decide
theorem tm_3 : ¬ (3 : Int32) < 0 ∧ (3 : Int32).toNatClampNeg = 3 := by decide
theorem tm_4 : ¬ (4 : Int32) < 0 ∧ (4 : Int32).toNatClampNeg = 4 := by decide
theorem tm_5 : ¬ (5 : Int32) < 0 ∧ (5 : Int32).toNatClampNeg = 5 := by decide
theorem tm_6 : ¬ (6 : Int32) < 0 ∧ (6 : Int32).toNatClampNeg = 6 := by decide
theorem tm_7 : ¬ (7 : Int32) < 0 ∧ (7 : Int32).toNatClampNeg = 7 := by decide
theorem tm_8 : ¬ (8 : Int32) < 0 ∧ (8 : Int32).toNatClampNeg = 8 := by decide
theorem tm_9 : ¬ (9 : Int32) < 0 ∧ (9 : Int32).toNatClampNeg = 9 := by decide
theorem tm_10 : ¬ (10 : Int32) < 0 ∧ (10 : Int32).toNatClampNeg = 10 := by decide
theorem tm_16 : ¬ (16 : Int32) < 0 ∧ (16 : Int32).toNatClampNeg = 16 := by decide
theorem tm_48 : ¬ (48 : Int32) < 0 ∧ (48 : Int32).toNatClampNeg = 48 := by decide
theorem tm_77 : ¬ (77 : Int32) < 0 ∧ (77 : Int32).toNatClampNeg = 77 := by decide
theorem tm_100 : ¬ (100 : Int32) < 0 ∧ (100 : Int32).toNatClampNeg = 100 := by decide
theorem tm_128 : ¬ (128 : Int32) < 0 ∧ (128 : Int32).toNatClampNeg = 128 := by decide
theorem tm_256 : ¬ (256 : Int32) < 0 ∧ (256 : Int32).toNatClampNeg = 256 := by decide
theorem tm_406 : ¬ (406 : Int32) < 0 ∧ (406 : Int32).toNatClampNeg = 406 := by decide
theorem tm_1000 : ¬ (1000 : Int32) < 0 ∧ (1000 : Int32).toNatClampNeg = 1000 := by decide
theorem sp_128 : (Int16.ofInt 128).toInt32 = (128 : Int32) := by decide
theorem mm_X9_37 : bMS RX9 37 yX8_codeOf cX8_codeOf 4 (some .long) 1 := ⟨(bTB_in (List.mem_append_right _ (List.mem_of_getElem? (i := 303) (by decide +kernel))) rfl), (bTB_in (List.mem_append_right _ (List.mem_of_getElem? (i := 304) (by decide +kernel))) rfl), (bTB_in (List.mem_append_right _ (List.mem_of_getElem? (i := 3) (by decide +kernel))) rfl), (bTB_in (List.mem_append_right _ (List.mem_of_getElem? (i := 305) (by decide +kernel))) rfl), by decide, by decide +kernel, by decide +kernel, by decide +kernel⟩
theorem wac_0 : Cond.arrayClass .int ∈ bTB := (bTB_in (List.mem_append_right _ (List.mem_of_getElem? (i := 152) (by decide +kernel))) rfl)
theorem wac_1 : Cond.arrayClass .byte ∈ bTB := (bTB_in (List.mem_append_right _ (List.mem_of_getElem? (i := 76) (by decide +kernel))) rfl)
theorem wac_2 : Cond.arrayClass .boolean ∈ bTB := (bTB_in (List.mem_append_right _ (List.mem_of_getElem? (i := 245) (by decide +kernel))) rfl)
theorem wac_3 : Cond.arrayClass .long ∈ bTB := (bTB_in (List.mem_append_right _ (List.mem_of_getElem? (i := 151) (by decide +kernel))) rfl)
def bKW : Nat → Int64 := vp_updL (vp_updL (vp_updL (vp_updL (vp_updL (vp_updL (vp_updL (vp_updL (vp_updL (vp_updL (fun _ => 0) 0 605677) 1 2275432) 2 542723566) 3 11566) 4 8557715) 5 74500462771) 6 139928755) 7 626428293) 8 18523316) 9 494
theorem kw_0 : ∃ σ', f_X8_codeOf 19 bz0 = some (605677, σ') := by
  have h : (f_X8_codeOf 19 bz0).map (fun q => q.1) = some 605677 := by decide +kernel
  cases hf : f_X8_codeOf 19 bz0 with
  | none => rw [hf] at h; cases h
  | some q => rw [hf] at h; exact ⟨q.2, by rw [← Option.some.inj h]⟩
theorem kw_1 : ∃ σ', f_X8_codeOf 3 bz0 = some (2275432, σ') := by
  have h : (f_X8_codeOf 3 bz0).map (fun q => q.1) = some 2275432 := by decide +kernel
  cases hf : f_X8_codeOf 3 bz0 with
  | none => rw [hf] at h; cases h
  | some q => rw [hf] at h; exact ⟨q.2, by rw [← Option.some.inj h]⟩
theorem kw_2 : ∃ σ', f_X8_codeOf 16 bz0 = some (542723566, σ') := by
  have h : (f_X8_codeOf 16 bz0).map (fun q => q.1) = some 542723566 := by decide +kernel
  cases hf : f_X8_codeOf 16 bz0 with
  | none => rw [hf] at h; cases h
  | some q => rw [hf] at h; exact ⟨q.2, by rw [← Option.some.inj h]⟩
theorem kw_3 : ∃ σ', f_X8_codeOf 12 bz0 = some (11566, σ') := by
  have h : (f_X8_codeOf 12 bz0).map (fun q => q.1) = some 11566 := by decide +kernel
  cases hf : f_X8_codeOf 12 bz0 with
  | none => rw [hf] at h; cases h
  | some q => rw [hf] at h; exact ⟨q.2, by rw [← Option.some.inj h]⟩
theorem kw_4 : ∃ σ', f_X8_codeOf 10 bz0 = some (8557715, σ') := by
  have h : (f_X8_codeOf 10 bz0).map (fun q => q.1) = some 8557715 := by decide +kernel
  cases hf : f_X8_codeOf 10 bz0 with
  | none => rw [hf] at h; cases h
  | some q => rw [hf] at h; exact ⟨q.2, by rw [← Option.some.inj h]⟩
theorem kw_5 : ∃ σ', f_X8_codeOf 2 bz0 = some (74500462771, σ') := by
  have h : (f_X8_codeOf 2 bz0).map (fun q => q.1) = some 74500462771 := by decide +kernel
  cases hf : f_X8_codeOf 2 bz0 with
  | none => rw [hf] at h; cases h
  | some q => rw [hf] at h; exact ⟨q.2, by rw [← Option.some.inj h]⟩
theorem kw_6 : ∃ σ', f_X8_codeOf 6 bz0 = some (139928755, σ') := by
  have h : (f_X8_codeOf 6 bz0).map (fun q => q.1) = some 139928755 := by decide +kernel
  cases hf : f_X8_codeOf 6 bz0 with
  | none => rw [hf] at h; cases h
  | some q => rw [hf] at h; exact ⟨q.2, by rw [← Option.some.inj h]⟩
theorem kw_7 : ∃ σ', f_X8_codeOf 20 bz0 = some (626428293, σ') := by
  have h : (f_X8_codeOf 20 bz0).map (fun q => q.1) = some 626428293 := by decide +kernel
  cases hf : f_X8_codeOf 20 bz0 with
  | none => rw [hf] at h; cases h
  | some q => rw [hf] at h; exact ⟨q.2, by rw [← Option.some.inj h]⟩
theorem kw_8 : ∃ σ', f_X8_codeOf 17 bz0 = some (18523316, σ') := by
  have h : (f_X8_codeOf 17 bz0).map (fun q => q.1) = some 18523316 := by decide +kernel
  cases hf : f_X8_codeOf 17 bz0 with
  | none => rw [hf] at h; cases h
  | some q => rw [hf] at h; exact ⟨q.2, by rw [← Option.some.inj h]⟩
theorem kw_9 : ∃ σ', f_X8_codeOf 14 bz0 = some (494, σ') := by
  have h : (f_X8_codeOf 14 bz0).map (fun q => q.1) = some 494 := by decide +kernel
  cases hf : f_X8_codeOf 14 bz0 with
  | none => rw [hf] at h; cases h
  | some q => rw [hf] at h; exact ⟨q.2, by rw [← Option.some.inj h]⟩
def Wp3 (G : bG) (h0 : Nat) (w : va_W) : Prop := ∃ (a1 : Nat) (a2 : Nat) (a3 : Nat) (a4 : Nat) (a5 : Nat), w = [(h0, .inr (3, [.ref a1, .ref a2, .ref a3, .ref a4, .ref a5, .int 0, .int 0, .int 0, .int 0, .int 0, .int 0])), (a1, .inl (G.2 0, 6, .inl (fun _ => 0))), (a2, .inl (G.2 0, 6, .inl (fun _ => 0))), (a3, .inl (G.2 0, 6, .inl (fun _ => 0))), (a4, .inl (G.2 0, 6, .inl (fun _ => 0))), (a5, .inl (G.2 0, 6, .inl (fun _ => 0)))]
theorem df3 : ∀ j, j < 11 → defaultValue (tyX3 j) = vp_V [.null, .null, .null, .null, .null, .int 0, .int 0, .int 0, .int 0, .int 0, .int 0] j := by decide
set_option maxHeartbeats 4000000 in
set_option maxRecDepth 20000 in
theorem c3 {l : Launch} {G : bG} {ρ : Nat → Nat} {A0 : Nat → Prop} : bCt l G ρ A0 ⟨RX3, "<init>", "()V"⟩ cX3_init 3 [.null, .null, .null, .null, .null, .int 0, .int 0, .int 0, .int 0, .int 0, .int 0] 0 5 30 (Wp3 G) := by
  refine k_met (by decide +kernel) rfl (fun K C hQ el eG eρ eA eci => ?_)
  refine k_aload0 (pc := 0) C dX3_init_0 ?_
  refine k_objinit (pc := 1) C dX3_init_1 ⟨(bTB_in (List.mem_append_right _ (List.mem_of_getElem? (i := 88) (by decide +kernel))) rfl), (bTB_in (List.mem_append_right _ (List.mem_of_getElem? (i := 32) (by decide +kernel))) rfl), (bTB_in (List.mem_append_right _ (List.mem_of_getElem? (i := 33) (by decide +kernel))) rfl)⟩ ?_
  refine k_aload0 (pc := 4) C dX3_init_4 ?_
  refine k_bipush (pc := 5) C dX3_init_5 bp_6 ?_
  refine k_newa (t := 0) (ty := .int) (a0 := (6, .inl (fun _ => 0))) (pc := 7) C dX3_init_7 wac_0 rfl rfl (fun _ h => by cases h) (fun _ => rfl) tm_6 (by decide) ⟨Nat.le_of_ble_eq_true rfl, Nat.le_of_ble_eq_true rfl⟩ (fun a1 => ?_)
  refine k_putF (kf := 0) (pc := 9) C dX3_init_9 (by rw [eci]; rfl) inX3 tyX3_ok nmX3 (by decide) (bTB_in (List.mem_append_right _ (List.mem_of_getElem? (i := 89) (by decide +kernel))) rfl) rfl rfl (tyX3_ok 0 (by decide)) rfl rfl (Nat.le_of_ble_eq_true rfl) ?_
  refine k_aload0 (pc := 12) C dX3_init_12 ?_
  refine k_bipush (pc := 13) C dX3_init_13 bp_6 ?_
  refine k_newa (t := 0) (ty := .int) (a0 := (6, .inl (fun _ => 0))) (pc := 15) C dX3_init_15 wac_0 rfl rfl (fun _ h => by cases h) (fun _ => rfl) tm_6 (by decide) ⟨Nat.le_of_ble_eq_true rfl, Nat.le_of_ble_eq_true rfl⟩ (fun a2 => ?_)
  refine k_putF (kf := 1) (pc := 17) C dX3_init_17 (by rw [eci]; rfl) inX3 tyX3_ok nmX3 (by decide) (bTB_in (List.mem_append_right _ (List.mem_of_getElem? (i := 93) (by decide +kernel))) rfl) rfl rfl (tyX3_ok 1 (by decide)) rfl rfl (Nat.le_of_ble_eq_true rfl) ?_
  refine k_aload0 (pc := 20) C dX3_init_20 ?_
  refine k_bipush (pc := 21) C dX3_init_21 bp_6 ?_
  refine k_newa (t := 0) (ty := .int) (a0 := (6, .inl (fun _ => 0))) (pc := 23) C dX3_init_23 wac_0 rfl rfl (fun _ h => by cases h) (fun _ => rfl) tm_6 (by decide) ⟨Nat.le_of_ble_eq_true rfl, Nat.le_of_ble_eq_true rfl⟩ (fun a3 => ?_)
  refine k_putF (kf := 2) (pc := 25) C dX3_init_25 (by rw [eci]; rfl) inX3 tyX3_ok nmX3 (by decide) (bTB_in (List.mem_append_right _ (List.mem_of_getElem? (i := 96) (by decide +kernel))) rfl) rfl rfl (tyX3_ok 2 (by decide)) rfl rfl (Nat.le_of_ble_eq_true rfl) ?_
  refine k_aload0 (pc := 28) C dX3_init_28 ?_
  refine k_bipush (pc := 29) C dX3_init_29 bp_6 ?_
  refine k_newa (t := 0) (ty := .int) (a0 := (6, .inl (fun _ => 0))) (pc := 31) C dX3_init_31 wac_0 rfl rfl (fun _ h => by cases h) (fun _ => rfl) tm_6 (by decide) ⟨Nat.le_of_ble_eq_true rfl, Nat.le_of_ble_eq_true rfl⟩ (fun a4 => ?_)
  refine k_putF (kf := 3) (pc := 33) C dX3_init_33 (by rw [eci]; rfl) inX3 tyX3_ok nmX3 (by decide) (bTB_in (List.mem_append_right _ (List.mem_of_getElem? (i := 99) (by decide +kernel))) rfl) rfl rfl (tyX3_ok 3 (by decide)) rfl rfl (Nat.le_of_ble_eq_true rfl) ?_
  refine k_aload0 (pc := 36) C dX3_init_36 ?_
  refine k_bipush (pc := 37) C dX3_init_37 bp_6 ?_
  refine k_newa (t := 0) (ty := .int) (a0 := (6, .inl (fun _ => 0))) (pc := 39) C dX3_init_39 wac_0 rfl rfl (fun _ h => by cases h) (fun _ => rfl) tm_6 (by decide) ⟨Nat.le_of_ble_eq_true rfl, Nat.le_of_ble_eq_true rfl⟩ (fun a5 => ?_)
  refine k_putF (kf := 4) (pc := 41) C dX3_init_41 (by rw [eci]; rfl) inX3 tyX3_ok nmX3 (by decide) (bTB_in (List.mem_append_right _ (List.mem_of_getElem? (i := 104) (by decide +kernel))) rfl) rfl rfl (tyX3_ok 4 (by decide)) rfl rfl (Nat.le_of_ble_eq_true rfl) ?_
  exact k_ret (pc := 44) C hQ dX3_init_44 ⟨Nat.le_refl _, Nat.le_refl _⟩ ⟨a1, a2, a3, a4, a5, by rw [eci]; first | (rw [eG]; rfl) | rfl⟩
def Wp2 (G : bG) (h0 : Nat) (w : va_W) : Prop := ∃ (a1 : Nat) (a2 : Nat) (a3 : Nat) (a4 : Nat) (a5 : Nat) (a6 : Nat) (a7 : Nat), w = [(h0, .inr (2, [.ref a1, .ref a2, .ref a3, .ref a4, .ref a5, .ref a6, .ref a7, .int 0, .int 0, .int 0])), (a1, .inl (G.2 0, 7, .inl (fun _ => 0))), (a2, .inl (G.2 3, 7, .inr (.inl (fun _ => 0)))), (a3, .inl (G.2 0, 7, .inl (fun _ => 0))), (a4, .inl (G.2 0, 7, .inl (fun _ => 0))), (a5, .inl (G.2 0, 9, .inl (fun _ => 0))), (a6, .inl (G.2 0, 9, .inl (fun _ => 0))), (a7, .inl (G.2 0, 9, .inl (fun _ => 0)))]
theorem df2 : ∀ j, j < 10 → defaultValue (tyX2 j) = vp_V [.null, .null, .null, .null, .null, .null, .null, .int 0, .int 0, .int 0] j := by decide
set_option maxHeartbeats 4000000 in
set_option maxRecDepth 20000 in
theorem c2 {l : Launch} {G : bG} {ρ : Nat → Nat} {A0 : Nat → Prop} : bCt l G ρ A0 ⟨RX2, "<init>", "()V"⟩ cX2_init 2 [.null, .null, .null, .null, .null, .null, .null, .int 0, .int 0, .int 0] 0 7 55 (Wp2 G) := by
  refine k_met (by decide +kernel) rfl (fun K C hQ el eG eρ eA eci => ?_)
  refine k_aload0 (pc := 0) C dX2_init_0 ?_
  refine k_objinit (pc := 1) C dX2_init_1 ⟨(bTB_in (List.mem_append_right _ (List.mem_of_getElem? (i := 158) (by decide +kernel))) rfl), (bTB_in (List.mem_append_right _ (List.mem_of_getElem? (i := 32) (by decide +kernel))) rfl), (bTB_in (List.mem_append_right _ (List.mem_of_getElem? (i := 33) (by decide +kernel))) rfl)⟩ ?_
  refine k_aload0 (pc := 4) C dX2_init_4 ?_
  refine k_bipush (pc := 5) C dX2_init_5 bp_7 ?_
  refine k_newa (t := 0) (ty := .int) (a0 := (7, .inl (fun _ => 0))) (pc := 7) C dX2_init_7 wac_0 rfl rfl (fun _ h => by cases h) (fun _ => rfl) tm_7 (by decide) ⟨Nat.le_of_ble_eq_true rfl, Nat.le_of_ble_eq_true rfl⟩ (fun a1 => ?_)
  refine k_putF (kf := 0) (pc := 9) C dX2_init_9 (by rw [eci]; rfl) inX2 tyX2_ok nmX2 (by decide) (bTB_in (List.mem_append_right _ (List.mem_of_getElem? (i := 159) (by decide +kernel))) rfl) rfl rfl (tyX2_ok 0 (by decide)) rfl rfl (Nat.le_of_ble_eq_true rfl) ?_
  refine k_aload0 (pc := 12) C dX2_init_12 ?_
  refine k_bipush (pc := 13) C dX2_init_13 bp_7 ?_
  refine k_newa (t := 3) (ty := .long) (a0 := (7, .inr (.inl (fun _ => 0)))) (pc := 15) C dX2_init_15 wac_3 rfl rfl (fun _ h => by cases h) (fun _ => rfl) tm_7 (by decide) ⟨Nat.le_of_ble_eq_true rfl, Nat.le_of_ble_eq_true rfl⟩ (fun a2 => ?_)
  refine k_putF (kf := 1) (pc := 17) C dX2_init_17 (by rw [eci]; rfl) inX2 tyX2_ok nmX2 (by decide) (bTB_in (List.mem_append_right _ (List.mem_of_getElem? (i := 164) (by decide +kernel))) rfl) rfl rfl (tyX2_ok 1 (by decide)) rfl rfl (Nat.le_of_ble_eq_true rfl) ?_
  refine k_aload0 (pc := 20) C dX2_init_20 ?_
  refine k_bipush (pc := 21) C dX2_init_21 bp_7 ?_
  refine k_newa (t := 0) (ty := .int) (a0 := (7, .inl (fun _ => 0))) (pc := 23) C dX2_init_23 wac_0 rfl rfl (fun _ h => by cases h) (fun _ => rfl) tm_7 (by decide) ⟨Nat.le_of_ble_eq_true rfl, Nat.le_of_ble_eq_true rfl⟩ (fun a3 => ?_)
  refine k_putF (kf := 2) (pc := 25) C dX2_init_25 (by rw [eci]; rfl) inX2 tyX2_ok nmX2 (by decide) (bTB_in (List.mem_append_right _ (List.mem_of_getElem? (i := 166) (by decide +kernel))) rfl) rfl rfl (tyX2_ok 2 (by decide)) rfl rfl (Nat.le_of_ble_eq_true rfl) ?_
  refine k_aload0 (pc := 28) C dX2_init_28 ?_
  refine k_bipush (pc := 29) C dX2_init_29 bp_7 ?_
  refine k_newa (t := 0) (ty := .int) (a0 := (7, .inl (fun _ => 0))) (pc := 31) C dX2_init_31 wac_0 rfl rfl (fun _ h => by cases h) (fun _ => rfl) tm_7 (by decide) ⟨Nat.le_of_ble_eq_true rfl, Nat.le_of_ble_eq_true rfl⟩ (fun a4 => ?_)
  refine k_putF (kf := 3) (pc := 33) C dX2_init_33 (by rw [eci]; rfl) inX2 tyX2_ok nmX2 (by decide) (bTB_in (List.mem_append_right _ (List.mem_of_getElem? (i := 170) (by decide +kernel))) rfl) rfl rfl (tyX2_ok 3 (by decide)) rfl rfl (Nat.le_of_ble_eq_true rfl) ?_
  refine k_aload0 (pc := 36) C dX2_init_36 ?_
  refine k_bipush (pc := 37) C dX2_init_37 bp_9 ?_
  refine k_newa (t := 0) (ty := .int) (a0 := (9, .inl (fun _ => 0))) (pc := 39) C dX2_init_39 wac_0 rfl rfl (fun _ h => by cases h) (fun _ => rfl) tm_9 (by decide) ⟨Nat.le_of_ble_eq_true rfl, Nat.le_of_ble_eq_true rfl⟩ (fun a5 => ?_)
  refine k_putF (kf := 4) (pc := 41) C dX2_init_41 (by rw [eci]; rfl) inX2 tyX2_ok nmX2 (by decide) (bTB_in (List.mem_append_right _ (List.mem_of_getElem? (i := 171) (by decide +kernel))) rfl) rfl rfl (tyX2_ok 4 (by decide)) rfl rfl (Nat.le_of_ble_eq_true rfl) ?_
  refine k_aload0 (pc := 44) C dX2_init_44 ?_
  refine k_bipush (pc := 45) C dX2_init_45 bp_9 ?_
  refine k_newa (t := 0) (ty := .int) (a0 := (9, .inl (fun _ => 0))) (pc := 47) C dX2_init_47 wac_0 rfl rfl (fun _ h => by cases h) (fun _ => rfl) tm_9 (by decide) ⟨Nat.le_of_ble_eq_true rfl, Nat.le_of_ble_eq_true rfl⟩ (fun a6 => ?_)
  refine k_putF (kf := 5) (pc := 49) C dX2_init_49 (by rw [eci]; rfl) inX2 tyX2_ok nmX2 (by decide) (bTB_in (List.mem_append_right _ (List.mem_of_getElem? (i := 173) (by decide +kernel))) rfl) rfl rfl (tyX2_ok 5 (by decide)) rfl rfl (Nat.le_of_ble_eq_true rfl) ?_
  refine k_aload0 (pc := 52) C dX2_init_52 ?_
  refine k_bipush (pc := 53) C dX2_init_53 bp_9 ?_
  refine k_newa (t := 0) (ty := .int) (a0 := (9, .inl (fun _ => 0))) (pc := 55) C dX2_init_55 wac_0 rfl rfl (fun _ h => by cases h) (fun _ => rfl) tm_9 (by decide) ⟨Nat.le_of_ble_eq_true rfl, Nat.le_of_ble_eq_true rfl⟩ (fun a7 => ?_)
  refine k_putF (kf := 6) (pc := 57) C dX2_init_57 (by rw [eci]; rfl) inX2 tyX2_ok nmX2 (by decide) (bTB_in (List.mem_append_right _ (List.mem_of_getElem? (i := 175) (by decide +kernel))) rfl) rfl rfl (tyX2_ok 6 (by decide)) rfl rfl (Nat.le_of_ble_eq_true rfl) ?_
  exact k_ret (pc := 60) C hQ dX2_init_60 ⟨Nat.le_refl _, Nat.le_refl _⟩ ⟨a1, a2, a3, a4, a5, a6, a7, by rw [eci]; first | (rw [eG]; rfl) | rfl⟩
def Wp10 (G : bG) (h0 : Nat) (w : va_W) : Prop := ∃ (a1 : Nat) (a2 : Nat) (a3 : Nat) (a4 : Nat), w = [(h0, .inr (10, [.ref a1, .ref a2, .ref a3, .ref a4, .int 0, .int 0, .int 0])), (a1, .inl (G.2 0, 8, .inl (fun _ => 0))), (a2, .inl (G.2 2, 8, .inl (fun _ => 0))), (a3, .inl (G.2 0, 77, .inl (fun _ => 0))), (a4, .inl (G.2 0, 100, .inl (fun _ => 0)))]
theorem df10 : ∀ j, j < 7 → defaultValue (tyX10 j) = vp_V [.null, .null, .null, .null, .int 0, .int 0, .int 0] j := by decide
set_option maxHeartbeats 4000000 in
set_option maxRecDepth 20000 in
theorem c10 {l : Launch} {G : bG} {ρ : Nat → Nat} {A0 : Nat → Prop} : bCt l G ρ A0 ⟨RX10, "<init>", "()V"⟩ cX10_init 10 [.null, .null, .null, .null, .int 0, .int 0, .int 0] 0 4 193 (Wp10 G) := by
  refine k_met (by decide +kernel) rfl (fun K C hQ el eG eρ eA eci => ?_)
  refine k_aload0 (pc := 0) C dX10_init_0 ?_
  refine k_objinit (pc := 1) C dX10_init_1 ⟨(bTB_in (List.mem_append_right _ (List.mem_of_getElem? (i := 217) (by decide +kernel))) rfl), (bTB_in (List.mem_append_right _ (List.mem_of_getElem? (i := 32) (by decide +kernel))) rfl), (bTB_in (List.mem_append_right _ (List.mem_of_getElem? (i := 33) (by decide +kernel))) rfl)⟩ ?_
  refine k_aload0 (pc := 4) C dX10_init_4 ?_
  refine k_bipush (pc := 5) C dX10_init_5 bp_8 ?_
  refine k_newa (t := 0) (ty := .int) (a0 := (8, .inl (fun _ => 0))) (pc := 7) C dX10_init_7 wac_0 rfl rfl (fun _ h => by cases h) (fun _ => rfl) tm_8 (by decide) ⟨Nat.le_of_ble_eq_true rfl, Nat.le_of_ble_eq_true rfl⟩ (fun a1 => ?_)
  refine k_putF (kf := 0) (pc := 9) C dX10_init_9 (by rw [eci]; rfl) inX10 tyX10_ok nmX10 (by decide) (bTB_in (List.mem_append_right _ (List.mem_of_getElem? (i := 218) (by decide +kernel))) rfl) rfl rfl (tyX10_ok 0 (by decide)) rfl rfl (Nat.le_of_ble_eq_true rfl) ?_
  refine k_aload0 (pc := 12) C dX10_init_12 ?_
  refine k_bipush (pc := 13) C dX10_init_13 bp_8 ?_
  refine k_newa (t := 2) (ty := .boolean) (a0 := (8, .inl (fun _ => 0))) (pc := 15) C dX10_init_15 wac_2 rfl rfl (fun _ h => by cases h) (fun _ => rfl) tm_8 (by decide) ⟨Nat.le_of_ble_eq_true rfl, Nat.le_of_ble_eq_true rfl⟩ (fun a2 => ?_)
  refine k_putF (kf := 1) (pc := 17) C dX10_init_17 (by rw [eci]; rfl) inX10 tyX10_ok nmX10 (by decide) (bTB_in (List.mem_append_right _ (List.mem_of_getElem? (i := 219) (by decide +kernel))) rfl) rfl rfl (tyX10_ok 1 (by decide)) rfl rfl (Nat.le_of_ble_eq_true rfl) ?_
  refine k_aload0 (pc := 20) C dX10_init_20 ?_
  refine k_bipush (pc := 21) C dX10_init_21 bp_77 ?_
  refine k_newa (t := 0) (ty := .int) (a0 := (77, .inl (fun _ => 0))) (pc := 23) C dX10_init_23 wac_0 rfl rfl (fun _ h => by cases h) (fun _ => rfl) tm_77 (by decide) ⟨Nat.le_of_ble_eq_true rfl, Nat.le_of_ble_eq_true rfl⟩ (fun a3 => ?_)
  refine k_putF (kf := 2) (pc := 25) C dX10_init_25 (by rw [eci]; rfl) inX10 tyX10_ok nmX10 (by decide) (bTB_in (List.mem_append_right _ (List.mem_of_getElem? (i := 220) (by decide +kernel))) rfl) rfl rfl (tyX10_ok 2 (by decide)) rfl rfl (Nat.le_of_ble_eq_true rfl) ?_
  refine k_aload0 (pc := 28) C dX10_init_28 ?_
  refine k_bipush (pc := 29) C dX10_init_29 bp_100 ?_
  refine k_newa (t := 0) (ty := .int) (a0 := (100, .inl (fun _ => 0))) (pc := 31) C dX10_init_31 wac_0 rfl rfl (fun _ h => by cases h) (fun _ => rfl) tm_100 (by decide) ⟨Nat.le_of_ble_eq_true rfl, Nat.le_of_ble_eq_true rfl⟩ (fun a4 => ?_)
  refine k_putF (kf := 3) (pc := 33) C dX10_init_33 (by rw [eci]; rfl) inX10 tyX10_ok nmX10 (by decide) (bTB_in (List.mem_append_right _ (List.mem_of_getElem? (i := 222) (by decide +kernel))) rfl) rfl rfl (tyX10_ok 3 (by decide)) rfl rfl (Nat.le_of_ble_eq_true rfl) ?_
  exact k_ret (pc := 36) C hQ dX10_init_36 ⟨Nat.le_refl _, Nat.le_refl _⟩ ⟨a1, a2, a3, a4, by rw [eci]; first | (rw [eG]; rfl) | rfl⟩
def Wp4 (G : bG) (h0 : Nat) (w : va_W) : Prop := ∃ (a1 : Nat) (a2 : Nat), w = [(h0, .inr (4, [.ref a1, .ref a2, .int 0, .int 0])), (a1, .inl (G.2 0, 7, .inl (fun _ => 0))), (a2, .inl (G.2 0, 7, .inl (fun _ => 0)))]
theorem df4 : ∀ j, j < 4 → defaultValue (tyX4 j) = vp_V [.null, .null, .int 0, .int 0] j := by decide
set_option maxHeartbeats 4000000 in
set_option maxRecDepth 20000 in
theorem c4 {l : Launch} {G : bG} {ρ : Nat → Nat} {A0 : Nat → Prop} : bCt l G ρ A0 ⟨RX4, "<init>", "()V"⟩ cX4_init 4 [.null, .null, .int 0, .int 0] 0 2 14 (Wp4 G) := by
  refine k_met (by decide +kernel) rfl (fun K C hQ el eG eρ eA eci => ?_)
  refine k_aload0 (pc := 0) C dX4_init_0 ?_
  refine k_objinit (pc := 1) C dX4_init_1 ⟨(bTB_in (List.mem_append_right _ (List.mem_of_getElem? (i := 251) (by decide +kernel))) rfl), (bTB_in (List.mem_append_right _ (List.mem_of_getElem? (i := 32) (by decide +kernel))) rfl), (bTB_in (List.mem_append_right _ (List.mem_of_getElem? (i := 33) (by decide +kernel))) rfl)⟩ ?_
  refine k_aload0 (pc := 4) C dX4_init_4 ?_
  refine k_bipush (pc := 5) C dX4_init_5 bp_7 ?_
  refine k_newa (t := 0) (ty := .int) (a0 := (7, .inl (fun _ => 0))) (pc := 7) C dX4_init_7 wac_0 rfl rfl (fun _ h => by cases h) (fun _ => rfl) tm_7 (by decide) ⟨Nat.le_of_ble_eq_true rfl, Nat.le_of_ble_eq_true rfl⟩ (fun a1 => ?_)
  refine k_putF (kf := 0) (pc := 9) C dX4_init_9 (by rw [eci]; rfl) inX4 tyX4_ok nmX4 (by decide) (bTB_in (List.mem_append_right _ (List.mem_of_getElem? (i := 252) (by decide +kernel))) rfl) rfl rfl (tyX4_ok 0 (by decide)) rfl rfl (Nat.le_of_ble_eq_true rfl) ?_
  refine k_aload0 (pc := 12) C dX4_init_12 ?_
  refine k_bipush (pc := 13) C dX4_init_13 bp_7 ?_
  refine k_newa (t := 0) (ty := .int) (a0 := (7, .inl (fun _ => 0))) (pc := 15) C dX4_init_15 wac_0 rfl rfl (fun _ h => by cases h) (fun _ => rfl) tm_7 (by decide) ⟨Nat.le_of_ble_eq_true rfl, Nat.le_of_ble_eq_true rfl⟩ (fun a2 => ?_)
  refine k_putF (kf := 1) (pc := 17) C dX4_init_17 (by rw [eci]; rfl) inX4 tyX4_ok nmX4 (by decide) (bTB_in (List.mem_append_right _ (List.mem_of_getElem? (i := 256) (by decide +kernel))) rfl) rfl rfl (tyX4_ok 1 (by decide)) rfl rfl (Nat.le_of_ble_eq_true rfl) ?_
  exact k_ret (pc := 20) C hQ dX4_init_20 ⟨Nat.le_refl _, Nat.le_refl _⟩ ⟨a1, a2, by rw [eci]; first | (rw [eG]; rfl) | rfl⟩
def Wp8 (G : bG) (h0 : Nat) (w : va_W) : Prop := ∃ (a1 : Nat), w = [(h0, .inr (8, [.ref a1, .int 0, .int 0, .int 0, .int 0, .int 0, .int 0, .long 0])), (a1, .inl (G.2 1, 1000, .inl (fun _ => 0)))]
theorem df8 : ∀ j, j < 8 → defaultValue (tyX8 j) = vp_V [.null, .int 0, .int 0, .int 0, .int 0, .int 0, .int 0, .long 0] j := by decide
set_option maxHeartbeats 4000000 in
set_option maxRecDepth 20000 in
theorem c8 {l : Launch} {G : bG} {ρ : Nat → Nat} {A0 : Nat → Prop} : bCt l G ρ A0 ⟨RX8, "<init>", "()V"⟩ cX8_init 8 [.null, .int 0, .int 0, .int 0, .int 0, .int 0, .int 0, .long 0] 0 1 1000 (Wp8 G) := by
  refine k_met (by decide +kernel) rfl (fun K C hQ el eG eρ eA eci => ?_)
  refine k_aload0 (pc := 0) C dX8_init_0 ?_
  refine k_objinit (pc := 1) C dX8_init_1 ⟨(bTB_in (List.mem_append_right _ (List.mem_of_getElem? (i := 45) (by decide +kernel))) rfl), (bTB_in (List.mem_append_right _ (List.mem_of_getElem? (i := 32) (by decide +kernel))) rfl), (bTB_in (List.mem_append_right _ (List.mem_of_getElem? (i := 33) (by decide +kernel))) rfl)⟩ ?_
  refine k_aload0 (pc := 4) C dX8_init_4 ?_
  refine k_sipush (pc := 5) C dX8_init_5 sp_1000 ?_
  refine k_newa (t := 1) (ty := .byte) (a0 := (1000, .inl (fun _ => 0))) (pc := 8) C dX8_init_8 wac_1 rfl rfl (fun _ h => by cases h) (fun _ => rfl) tm_1000 (by decide) ⟨Nat.le_of_ble_eq_true rfl, Nat.le_of_ble_eq_true rfl⟩ (fun a1 => ?_)
  refine k_putF (kf := 0) (pc := 10) C dX8_init_10 (by rw [eci]; rfl) inX8 tyX8_ok nmX8 (by decide) (bTB_in (List.mem_append_right _ (List.mem_of_getElem? (i := 46) (by decide +kernel))) rfl) rfl rfl (tyX8_ok 0 (by decide)) rfl rfl (Nat.le_of_ble_eq_true rfl) ?_
  exact k_ret (pc := 13) C hQ dX8_init_13 ⟨Nat.le_refl _, Nat.le_refl _⟩ ⟨a1, by rw [eci]; first | (rw [eG]; rfl) | rfl⟩
def Wp5 (G : bG) (h0 : Nat) (w : va_W) : Prop := ∃ (a1 : Nat) (a2 : Nat) (a3 : Nat) (a4 : Nat), w = [(h0, .inr (5, [.ref a1, .ref a2, .ref a3, .ref a4, .int 0, .int 0, .int 0])), (a1, .inl (G.2 0, 6, .inl (fun _ => 0))), (a2, .inl (G.2 0, 6, .inl (fun _ => 0))), (a3, .inl (G.2 0, 7, .inl (fun _ => 0))), (a4, .inl (G.2 0, 7, .inl (fun _ => 0)))]
theorem df5 : ∀ j, j < 7 → defaultValue (tyX5 j) = vp_V [.null, .null, .null, .null, .int 0, .int 0, .int 0] j := by decide
set_option maxHeartbeats 4000000 in
set_option maxRecDepth 20000 in
theorem c5 {l : Launch} {G : bG} {ρ : Nat → Nat} {A0 : Nat → Prop} : bCt l G ρ A0 ⟨RX5, "<init>", "()V"⟩ cX5_init 5 [.null, .null, .null, .null, .int 0, .int 0, .int 0] 0 4 26 (Wp5 G) := by
  refine k_met (by decide +kernel) rfl (fun K C hQ el eG eρ eA eci => ?_)
  refine k_aload0 (pc := 0) C dX5_init_0 ?_
  refine k_objinit (pc := 1) C dX5_init_1 ⟨(bTB_in (List.mem_append_right _ (List.mem_of_getElem? (i := 426) (by decide +kernel))) rfl), (bTB_in (List.mem_append_right _ (List.mem_of_getElem? (i := 32) (by decide +kernel))) rfl), (bTB_in (List.mem_append_right _ (List.mem_of_getElem? (i := 33) (by decide +kernel))) rfl)⟩ ?_
  refine k_aload0 (pc := 4) C dX5_init_4 ?_
  refine k_bipush (pc := 5) C dX5_init_5 bp_6 ?_
  refine k_newa (t := 0) (ty := .int) (a0 := (6, .inl (fun _ => 0))) (pc := 7) C dX5_init_7 wac_0 rfl rfl (fun _ h => by cases h) (fun _ => rfl) tm_6 (by decide) ⟨Nat.le_of_ble_eq_true rfl, Nat.le_of_ble_eq_true rfl⟩ (fun a1 => ?_)
  refine k_putF (kf := 0) (pc := 9) C dX5_init_9 (by rw [eci]; rfl) inX5 tyX5_ok nmX5 (by decide) (bTB_in (List.mem_append_right _ (List.mem_of_getElem? (i := 427) (by decide +kernel))) rfl) rfl rfl (tyX5_ok 0 (by decide)) rfl rfl (Nat.le_of_ble_eq_true rfl) ?_
  refine k_aload0 (pc := 12) C dX5_init_12 ?_
  refine k_bipush (pc := 13) C dX5_init_13 bp_6 ?_
  refine k_newa (t := 0) (ty := .int) (a0 := (6, .inl (fun _ => 0))) (pc := 15) C dX5_init_15 wac_0 rfl rfl (fun _ h => by cases h) (fun _ => rfl) tm_6 (by decide) ⟨Nat.le_of_ble_eq_true rfl, Nat.le_of_ble_eq_true rfl⟩ (fun a2 => ?_)
  refine k_putF (kf := 1) (pc := 17) C dX5_init_17 (by rw [eci]; rfl) inX5 tyX5_ok nmX5 (by decide) (bTB_in (List.mem_append_right _ (List.mem_of_getElem? (i := 428) (by decide +kernel))) rfl) rfl rfl (tyX5_ok 1 (by decide)) rfl rfl (Nat.le_of_ble_eq_true rfl) ?_
  refine k_aload0 (pc := 20) C dX5_init_20 ?_
  refine k_bipush (pc := 21) C dX5_init_21 bp_7 ?_
  refine k_newa (t := 0) (ty := .int) (a0 := (7, .inl (fun _ => 0))) (pc := 23) C dX5_init_23 wac_0 rfl rfl (fun _ h => by cases h) (fun _ => rfl) tm_7 (by decide) ⟨Nat.le_of_ble_eq_true rfl, Nat.le_of_ble_eq_true rfl⟩ (fun a3 => ?_)
  refine k_putF (kf := 2) (pc := 25) C dX5_init_25 (by rw [eci]; rfl) inX5 tyX5_ok nmX5 (by decide) (bTB_in (List.mem_append_right _ (List.mem_of_getElem? (i := 429) (by decide +kernel))) rfl) rfl rfl (tyX5_ok 2 (by decide)) rfl rfl (Nat.le_of_ble_eq_true rfl) ?_
  refine k_aload0 (pc := 28) C dX5_init_28 ?_
  refine k_bipush (pc := 29) C dX5_init_29 bp_7 ?_
  refine k_newa (t := 0) (ty := .int) (a0 := (7, .inl (fun _ => 0))) (pc := 31) C dX5_init_31 wac_0 rfl rfl (fun _ h => by cases h) (fun _ => rfl) tm_7 (by decide) ⟨Nat.le_of_ble_eq_true rfl, Nat.le_of_ble_eq_true rfl⟩ (fun a4 => ?_)
  refine k_putF (kf := 3) (pc := 33) C dX5_init_33 (by rw [eci]; rfl) inX5 tyX5_ok nmX5 (by decide) (bTB_in (List.mem_append_right _ (List.mem_of_getElem? (i := 430) (by decide +kernel))) rfl) rfl rfl (tyX5_ok 3 (by decide)) rfl rfl (Nat.le_of_ble_eq_true rfl) ?_
  exact k_ret (pc := 36) C hQ dX5_init_36 ⟨Nat.le_refl _, Nat.le_refl _⟩ ⟨a1, a2, a3, a4, by rw [eci]; first | (rw [eG]; rfl) | rfl⟩
def Wp0 (G : bG) (h0 : Nat) (w : va_W) : Prop := ∃ (a1 : Nat) (a2 : Nat), w = [(h0, .inr (0, [.ref a1, .ref a2])), (a1, .inl (G.2 0, 128, .inl (fun _ => 0))), (a2, .inl (G.2 0, 7, .inl (fun _ => 0)))]
theorem df0 : ∀ j, j < 2 → defaultValue (tyX0 j) = vp_V [.null, .null] j := by decide
set_option maxHeartbeats 4000000 in
set_option maxRecDepth 20000 in
theorem c0 {l : Launch} {G : bG} {ρ : Nat → Nat} {A0 : Nat → Prop} : bCt l G ρ A0 ⟨RX0, "<init>", "()V"⟩ cX0_init 0 [.null, .null] 0 2 135 (Wp0 G) := by
  refine k_met (by decide +kernel) rfl (fun K C hQ el eG eρ eA eci => ?_)
  refine k_aload0 (pc := 0) C dX0_init_0 ?_
  refine k_objinit (pc := 1) C dX0_init_1 ⟨(bTB_in (List.mem_append_right _ (List.mem_of_getElem? (i := 454) (by decide +kernel))) rfl), (bTB_in (List.mem_append_right _ (List.mem_of_getElem? (i := 32) (by decide +kernel))) rfl), (bTB_in (List.mem_append_right _ (List.mem_of_getElem? (i := 33) (by decide +kernel))) rfl)⟩ ?_
  refine k_aload0 (pc := 4) C dX0_init_4 ?_
  refine k_sipush (pc := 5) C dX0_init_5 sp_128 ?_
  refine k_newa (t := 0) (ty := .int) (a0 := (128, .inl (fun _ => 0))) (pc := 8) C dX0_init_8 wac_0 rfl rfl (fun _ h => by cases h) (fun _ => rfl) tm_128 (by decide) ⟨Nat.le_of_ble_eq_true rfl, Nat.le_of_ble_eq_true rfl⟩ (fun a1 => ?_)
  refine k_putF (kf := 0) (pc := 10) C dX0_init_10 (by rw [eci]; rfl) inX0 tyX0_ok nmX0 (by decide) (bTB_in (List.mem_append_right _ (List.mem_of_getElem? (i := 455) (by decide +kernel))) rfl) rfl rfl (tyX0_ok 0 (by decide)) rfl rfl (Nat.le_of_ble_eq_true rfl) ?_
  refine k_aload0 (pc := 13) C dX0_init_13 ?_
  refine k_bipush (pc := 14) C dX0_init_14 bp_7 ?_
  refine k_newa (t := 0) (ty := .int) (a0 := (7, .inl (fun _ => 0))) (pc := 16) C dX0_init_16 wac_0 rfl rfl (fun _ h => by cases h) (fun _ => rfl) tm_7 (by decide) ⟨Nat.le_of_ble_eq_true rfl, Nat.le_of_ble_eq_true rfl⟩ (fun a2 => ?_)
  refine k_putF (kf := 1) (pc := 18) C dX0_init_18 (by rw [eci]; rfl) inX0 tyX0_ok nmX0 (by decide) (bTB_in (List.mem_append_right _ (List.mem_of_getElem? (i := 456) (by decide +kernel))) rfl) rfl rfl (tyX0_ok 1 (by decide)) rfl rfl (Nat.le_of_ble_eq_true rfl) ?_
  exact k_ret (pc := 21) C hQ dX0_init_21 ⟨Nat.le_refl _, Nat.le_refl _⟩ ⟨a1, a2, by rw [eci]; first | (rw [eG]; rfl) | rfl⟩
def Wp1 (G : bG) (h0 : Nat) (w : va_W) : Prop := ∃ (a1 : Nat) (a2 : Nat), w = [(h0, .inr (1, [.ref a1, .ref a2])), (a1, .inl (G.2 0, 7, .inl (fun _ => 0))), (a2, .inl (G.2 0, 7, .inl (fun _ => 0)))]
theorem df1 : ∀ j, j < 2 → defaultValue (tyX1 j) = vp_V [.null, .null] j := by decide
set_option maxHeartbeats 4000000 in
set_option maxRecDepth 20000 in
theorem c1 {l : Launch} {G : bG} {ρ : Nat → Nat} {A0 : Nat → Prop} : bCt l G ρ A0 ⟨RX1, "<init>", "()V"⟩ cX1_init 1 [.null, .null] 0 2 14 (Wp1 G) := by
  refine k_met (by decide +kernel) rfl (fun K C hQ el eG eρ eA eci => ?_)
  refine k_aload0 (pc := 0) C dX1_init_0 ?_
  refine k_objinit (pc := 1) C dX1_init_1 ⟨(bTB_in (List.mem_append_right _ (List.mem_of_getElem? (i := 468) (by decide +kernel))) rfl), (bTB_in (List.mem_append_right _ (List.mem_of_getElem? (i := 32) (by decide +kernel))) rfl), (bTB_in (List.mem_append_right _ (List.mem_of_getElem? (i := 33) (by decide +kernel))) rfl)⟩ ?_
  refine k_aload0 (pc := 4) C dX1_init_4 ?_
  refine k_bipush (pc := 5) C dX1_init_5 bp_7 ?_
  refine k_newa (t := 0) (ty := .int) (a0 := (7, .inl (fun _ => 0))) (pc := 7) C dX1_init_7 wac_0 rfl rfl (fun _ h => by cases h) (fun _ => rfl) tm_7 (by decide) ⟨Nat.le_of_ble_eq_true rfl, Nat.le_of_ble_eq_true rfl⟩ (fun a1 => ?_)
  refine k_putF (kf := 0) (pc := 9) C dX1_init_9 (by rw [eci]; rfl) inX1 tyX1_ok nmX1 (by decide) (bTB_in (List.mem_append_right _ (List.mem_of_getElem? (i := 469) (by decide +kernel))) rfl) rfl rfl (tyX1_ok 0 (by decide)) rfl rfl (Nat.le_of_ble_eq_true rfl) ?_
  refine k_aload0 (pc := 12) C dX1_init_12 ?_
  refine k_bipush (pc := 13) C dX1_init_13 bp_7 ?_
  refine k_newa (t := 0) (ty := .int) (a0 := (7, .inl (fun _ => 0))) (pc := 15) C dX1_init_15 wac_0 rfl rfl (fun _ h => by cases h) (fun _ => rfl) tm_7 (by decide) ⟨Nat.le_of_ble_eq_true rfl, Nat.le_of_ble_eq_true rfl⟩ (fun a2 => ?_)
  refine k_putF (kf := 1) (pc := 17) C dX1_init_17 (by rw [eci]; rfl) inX1 tyX1_ok nmX1 (by decide) (bTB_in (List.mem_append_right _ (List.mem_of_getElem? (i := 470) (by decide +kernel))) rfl) rfl rfl (tyX1_ok 1 (by decide)) rfl rfl (Nat.le_of_ble_eq_true rfl) ?_
  exact k_ret (pc := 20) C hQ dX1_init_20 ⟨Nat.le_refl _, Nat.le_refl _⟩ ⟨a1, a2, by rw [eci]; first | (rw [eG]; rfl) | rfl⟩
def Wp7 (G : bG) (h0 : Nat) (w : va_W) : Prop := ∃ (a1 : Nat) (a2 : Nat) (a3 : Nat) (a4 : Nat) (a5 : Nat) (a6 : Nat) (a7 : Nat) (a8 : Nat) (a9 : Nat) (a10 : Nat) (a11 : Nat) (a12 : Nat) (a13 : Nat) (a14 : Nat) (a15 : Nat) (a16 : Nat) (a17 : Nat) (a18 : Nat) (a19 : Nat) (a20 : Nat) (a21 : Nat) (a22 : Nat), w = [(h0, .inr (7, [.ref a1, .ref a7, .ref a15, .ref a20, .int 0])), (a1, .inr (3, [.ref a2, .ref a3, .ref a4, .ref a5, .ref a6, .int 0, .int 0, .int 0, .int 0, .int 0, .int 0])), (a2, .inl (G.2 0, 6, .inl (fun _ => 0))), (a3, .inl (G.2 0, 6, .inl (fun _ => 0))), (a4, .inl (G.2 0, 6, .inl (fun _ => 0))), (a5, .inl (G.2 0, 6, .inl (fun _ => 0))), (a6, .inl (G.2 0, 6, .inl (fun _ => 0))), (a7, .inr (2, [.ref a8, .ref a9, .ref a10, .ref a11, .ref a12, .ref a13, .ref a14, .int 0, .int 0, .int 0])), (a8, .inl (G.2 0, 7, .inl (fun _ => 0))), (a9, .inl (G.2 3, 7, .inr (.inl (fun _ => 0)))), (a10, .inl (G.2 0, 7, .inl (fun _ => 0))), (a11, .inl (G.2 0, 7, .inl (fun _ => 0))), (a12, .inl (G.2 0, 9, .inl (fun _ => 0))), (a13, .inl (G.2 0, 9, .inl (fun _ => 0))), (a14, .inl (G.2 0, 9, .inl (fun _ => 0))), (a15, .inr (10, [.ref a16, .ref a17, .ref a18, .ref a19, .int 0, .int 0, .int 0])), (a16, .inl (G.2 0, 8, .inl (fun _ => 0))), (a17, .inl (G.2 2, 8, .inl (fun _ => 0))), (a18, .inl (G.2 0, 77, .inl (fun _ => 0))), (a19, .inl (G.2 0, 100, .inl (fun _ => 0))), (a20, .inr (4, [.ref a21, .ref a22, .int 0, .int 0])), (a21, .inl (G.2 0, 7, .inl (fun _ => 0))), (a22, .inl (G.2 0, 7, .inl (fun _ => 0)))]
theorem df7 : ∀ j, j < 5 → defaultValue (tyX7 j) = vp_V [.null, .null, .null, .null, .int 0] j := by decide
set_option maxHeartbeats 4000000 in
set_option maxRecDepth 20000 in
theorem c7 {l : Launch} {G : bG} {ρ : Nat → Nat} {A0 : Nat → Prop} : bCt l G ρ A0 ⟨RX7, "<init>", "()V"⟩ cX7_init 7 [.null, .null, .null, .null, .int 0] 1 22 324 (Wp7 G) := by
  refine k_met (by decide +kernel) rfl (fun K C hQ el eG eρ eA eci => ?_)
  refine k_aload0 (pc := 0) C dX7_init_0 ?_
  refine k_objinit (pc := 1) C dX7_init_1 ⟨(bTB_in (List.mem_append_right _ (List.mem_of_getElem? (i := 82) (by decide +kernel))) rfl), (bTB_in (List.mem_append_right _ (List.mem_of_getElem? (i := 32) (by decide +kernel))) rfl), (bTB_in (List.mem_append_right _ (List.mem_of_getElem? (i := 33) (by decide +kernel))) rfl)⟩ ?_
  refine k_aload0 (pc := 4) C dX7_init_4 ?_
  refine k_mk (cj := 3) (Cn := RX3) (T := TX3) (tyf := tyX3) (fs1 := [.null, .null, .null, .null, .null, .int 0, .int 0, .int 0, .int 0, .int 0, .int 0]) (bytes := cX3_init) (host := "BenchColony") (Wp := Wp3 G) (d1 := 0) (mc1 := 5) (ms1 := 30) (pc := 5) C dX7_init_5 dX7_init_8 dX7_init_9 rfl inX3 tyX3_ok ⟨(bTB_in (List.mem_append_right _ (List.mem_of_getElem? (i := 83) (by decide +kernel))) rfl), (bTB_in (List.mem_append_right _ (List.mem_of_getElem? (i := 84) (by decide +kernel))) rfl), (bTB_in (List.mem_append_right _ (List.mem_of_getElem? (i := 5) (by decide +kernel))) rfl), (bTB_in (List.mem_append_right _ (List.mem_of_getElem? (i := 86) (by decide +kernel))) rfl), (bTB_in (List.mem_append_right _ (List.mem_of_getElem? (i := 87) (by decide +kernel))) rfl)⟩ (Or.inr (List.mem_of_getElem? (i := 3) rfl)) (by decide +kernel) (df3) ⟨Nat.le_of_ble_eq_true rfl, Nat.le_of_ble_eq_true rfl⟩ (by decide) (Nat.le_of_ble_eq_true rfl) (by rw [el, eG, eρ, eA]; exact c3) (fun a1 w hw => ?_)
  obtain ⟨a2, a3, a4, a5, a6, rfl⟩ := hw
  refine k_putF (kf := 0) (pc := 12) C dX7_init_12 (by rw [eci]; rfl) inX7 tyX7_ok nmX7 (by decide) (bTB_in (List.mem_append_right _ (List.mem_of_getElem? (i := 274) (by decide +kernel))) rfl) rfl rfl (tyX7_ok 0 (by decide)) rfl rfl (Nat.le_of_ble_eq_true rfl) ?_
  refine k_aload0 (pc := 15) C dX7_init_15 ?_
  refine k_mk (cj := 2) (Cn := RX2) (T := TX2) (tyf := tyX2) (fs1 := [.null, .null, .null, .null, .null, .null, .null, .int 0, .int 0, .int 0]) (bytes := cX2_init) (host := "BenchColony") (Wp := Wp2 G) (d1 := 0) (mc1 := 7) (ms1 := 55) (pc := 16) C dX7_init_16 dX7_init_19 dX7_init_20 rfl inX2 tyX2_ok ⟨(bTB_in (List.mem_append_right _ (List.mem_of_getElem? (i := 153) (by decide +kernel))) rfl), (bTB_in (List.mem_append_right _ (List.mem_of_getElem? (i := 154) (by decide +kernel))) rfl), (bTB_in (List.mem_append_right _ (List.mem_of_getElem? (i := 6) (by decide +kernel))) rfl), (bTB_in (List.mem_append_right _ (List.mem_of_getElem? (i := 156) (by decide +kernel))) rfl), (bTB_in (List.mem_append_right _ (List.mem_of_getElem? (i := 157) (by decide +kernel))) rfl)⟩ (Or.inr (List.mem_of_getElem? (i := 4) rfl)) (by decide +kernel) (df2) ⟨Nat.le_of_ble_eq_true rfl, Nat.le_of_ble_eq_true rfl⟩ (by decide) (Nat.le_of_ble_eq_true rfl) (by rw [el, eG, eρ, eA]; exact c2) (fun a7 w hw => ?_)
  obtain ⟨a8, a9, a10, a11, a12, a13, a14, rfl⟩ := hw
  refine k_putF (kf := 1) (pc := 23) C dX7_init_23 (by rw [eci]; rfl) inX7 tyX7_ok nmX7 (by decide) (bTB_in (List.mem_append_right _ (List.mem_of_getElem? (i := 278) (by decide +kernel))) rfl) rfl rfl (tyX7_ok 1 (by decide)) rfl rfl (Nat.le_of_ble_eq_true rfl) ?_
  refine k_aload0 (pc := 26) C dX7_init_26 ?_
  refine k_mk (cj := 10) (Cn := RX10) (T := TX10) (tyf := tyX10) (fs1 := [.null, .null, .null, .null, .int 0, .int 0, .int 0]) (bytes := cX10_init) (host := "BenchColony") (Wp := Wp10 G) (d1 := 0) (mc1 := 4) (ms1 := 193) (pc := 27) C dX7_init_27 dX7_init_30 dX7_init_31 rfl inX10 tyX10_ok ⟨(bTB_in (List.mem_append_right _ (List.mem_of_getElem? (i := 212) (by decide +kernel))) rfl), (bTB_in (List.mem_append_right _ (List.mem_of_getElem? (i := 213) (by decide +kernel))) rfl), (bTB_in (List.mem_append_right _ (List.mem_of_getElem? (i := 7) (by decide +kernel))) rfl), (bTB_in (List.mem_append_right _ (List.mem_of_getElem? (i := 215) (by decide +kernel))) rfl), (bTB_in (List.mem_append_right _ (List.mem_of_getElem? (i := 216) (by decide +kernel))) rfl)⟩ (Or.inr (List.mem_of_getElem? (i := 5) rfl)) (by decide +kernel) (df10) ⟨Nat.le_of_ble_eq_true rfl, Nat.le_of_ble_eq_true rfl⟩ (by decide) (Nat.le_of_ble_eq_true rfl) (by rw [el, eG, eρ, eA]; exact c10) (fun a15 w hw => ?_)
  obtain ⟨a16, a17, a18, a19, rfl⟩ := hw
  refine k_putF (kf := 2) (pc := 34) C dX7_init_34 (by rw [eci]; rfl) inX7 tyX7_ok nmX7 (by decide) (bTB_in (List.mem_append_right _ (List.mem_of_getElem? (i := 282) (by decide +kernel))) rfl) rfl rfl (tyX7_ok 2 (by decide)) rfl rfl (Nat.le_of_ble_eq_true rfl) ?_
  refine k_aload0 (pc := 37) C dX7_init_37 ?_
  refine k_mk (cj := 4) (Cn := RX4) (T := TX4) (tyf := tyX4) (fs1 := [.null, .null, .int 0, .int 0]) (bytes := cX4_init) (host := "BenchColony") (Wp := Wp4 G) (d1 := 0) (mc1 := 2) (ms1 := 14) (pc := 38) C dX7_init_38 dX7_init_41 dX7_init_42 rfl inX4 tyX4_ok ⟨(bTB_in (List.mem_append_right _ (List.mem_of_getElem? (i := 246) (by decide +kernel))) rfl), (bTB_in (List.mem_append_right _ (List.mem_of_getElem? (i := 247) (by decide +kernel))) rfl), (bTB_in (List.mem_append_right _ (List.mem_of_getElem? (i := 8) (by decide +kernel))) rfl), (bTB_in (List.mem_append_right _ (List.mem_of_getElem? (i := 249) (by decide +kernel))) rfl), (bTB_in (List.mem_append_right _ (List.mem_of_getElem? (i := 250) (by decide +kernel))) rfl)⟩ (Or.inr (List.mem_of_getElem? (i := 6) rfl)) (by decide +kernel) (df4) ⟨Nat.le_of_ble_eq_true rfl, Nat.le_of_ble_eq_true rfl⟩ (by decide) (Nat.le_of_ble_eq_true rfl) (by rw [el, eG, eρ, eA]; exact c4) (fun a20 w hw => ?_)
  obtain ⟨a21, a22, rfl⟩ := hw
  refine k_putF (kf := 3) (pc := 45) C dX7_init_45 (by rw [eci]; rfl) inX7 tyX7_ok nmX7 (by decide) (bTB_in (List.mem_append_right _ (List.mem_of_getElem? (i := 285) (by decide +kernel))) rfl) rfl rfl (tyX7_ok 3 (by decide)) rfl rfl (Nat.le_of_ble_eq_true rfl) ?_
  exact k_ret (pc := 48) C hQ dX7_init_48 ⟨Nat.le_refl _, Nat.le_refl _⟩ ⟨a1, a2, a3, a4, a5, a6, a7, a8, a9, a10, a11, a12, a13, a14, a15, a16, a17, a18, a19, a20, a21, a22, by rw [eci]; first | (rw [eG]; rfl) | rfl⟩
def Wp6 (G : bG) (h0 : Nat) (w : va_W) : Prop := ∃ (a1 : Nat) (r1 : Nat → Nat) (a18 : Nat) (r18 : Nat → Nat), w = [(h0, .inr (6, [.ref a1, .ref a18, .int 0, .int 0, .int 0])), (a1, .inl (G.2 4, 16, .inr (.inr (.inr (.inr (fun i => if i < 16 then some (r1 i) else none))))))] ++ (List.range 16).map (fun i => (r1 i, .inl (G.2 0, 16, .inl (fun _ => 0)))) ++ [(a18, .inl (G.2 4, 3, .inr (.inr (.inr (.inr (fun i => if i < 3 then some (r18 i) else none))))))] ++ (List.range 3).map (fun i => (r18 i, .inl (G.2 0, 16, .inl (fun _ => 0))))
theorem df6 : ∀ j, j < 5 → defaultValue (tyX6 j) = vp_V [.null, .null, .int 0, .int 0, .int 0] j := by decide
def Wp9 (G : bG) (h0 : Nat) (w : va_W) : Prop := ∃ (a1 : Nat) (a2 : Nat) (a3 : Nat) (a4 : Nat) (a5 : Nat) (a6 : Nat) (a7 : Nat) (a8 : Nat) (a9 : Nat) (a10 : Nat) (a11 : Nat) (a12 : Nat) (a13 : Nat) (a14 : Nat) (a15 : Nat) (a16 : Nat) (a17 : Nat) (a18 : Nat) (a19 : Nat) (a20 : Nat) (a21 : Nat) (a22 : Nat) (a23 : Nat) (a24 : Nat) (a25 : Nat) (a26 : Nat) (a27 : Nat) (a28 : Nat), w = [(h0, .inr (9, [.ref a1, .ref a3, .ref a4, .ref a5, .ref a6, .int 0, .int 0, .int 0])), (a1, .inr (8, [.ref a2, .int 0, .int 0, .int 0, .int 0, .int 0, .int 0, .long 0])), (a2, .inl (G.2 1, 1000, .inl (fun _ => 0))), (a3, .inl (G.2 3, 10, .inr (.inl bKW))), (a4, .inl (G.2 3, 6, .inr (.inl (fun _ => 0)))), (a5, .inl (G.2 3, 7, .inr (.inl (fun _ => 0)))), (a6, .inr (7, [.ref a7, .ref a13, .ref a21, .ref a26, .int 0])), (a7, .inr (3, [.ref a8, .ref a9, .ref a10, .ref a11, .ref a12, .int 0, .int 0, .int 0, .int 0, .int 0, .int 0])), (a8, .inl (G.2 0, 6, .inl (fun _ => 0))), (a9, .inl (G.2 0, 6, .inl (fun _ => 0))), (a10, .inl (G.2 0, 6, .inl (fun _ => 0))), (a11, .inl (G.2 0, 6, .inl (fun _ => 0))), (a12, .inl (G.2 0, 6, .inl (fun _ => 0))), (a13, .inr (2, [.ref a14, .ref a15, .ref a16, .ref a17, .ref a18, .ref a19, .ref a20, .int 0, .int 0, .int 0])), (a14, .inl (G.2 0, 7, .inl (fun _ => 0))), (a15, .inl (G.2 3, 7, .inr (.inl (fun _ => 0)))), (a16, .inl (G.2 0, 7, .inl (fun _ => 0))), (a17, .inl (G.2 0, 7, .inl (fun _ => 0))), (a18, .inl (G.2 0, 9, .inl (fun _ => 0))), (a19, .inl (G.2 0, 9, .inl (fun _ => 0))), (a20, .inl (G.2 0, 9, .inl (fun _ => 0))), (a21, .inr (10, [.ref a22, .ref a23, .ref a24, .ref a25, .int 0, .int 0, .int 0])), (a22, .inl (G.2 0, 8, .inl (fun _ => 0))), (a23, .inl (G.2 2, 8, .inl (fun _ => 0))), (a24, .inl (G.2 0, 77, .inl (fun _ => 0))), (a25, .inl (G.2 0, 100, .inl (fun _ => 0))), (a26, .inr (4, [.ref a27, .ref a28, .int 0, .int 0])), (a27, .inl (G.2 0, 7, .inl (fun _ => 0))), (a28, .inl (G.2 0, 7, .inl (fun _ => 0)))]
theorem df9 : ∀ j, j < 8 → defaultValue (tyX9 j) = vp_V [.null, .null, .null, .null, .null, .int 0, .int 0, .int 0] j := by decide
set_option maxHeartbeats 4000000 in
set_option maxRecDepth 20000 in
theorem c9 {l : Launch} {G : bG} {ρ : Nat → Nat} {A0 : Nat → Prop} : bCt l G ρ A0 ⟨RX9, "<init>", "()V"⟩ cX9_init 9 [.null, .null, .null, .null, .null, .int 0, .int 0, .int 0] 10 28 1360 (Wp9 G) := by
  refine k_met (by decide +kernel) rfl (fun K C hQ el eG eρ eA eci => ?_)
  refine k_aload0 (pc := 0) C dX9_init_0 ?_
  refine k_objinit (pc := 1) C dX9_init_1 ⟨(bTB_in (List.mem_append_right _ (List.mem_of_getElem? (i := 39) (by decide +kernel))) rfl), (bTB_in (List.mem_append_right _ (List.mem_of_getElem? (i := 32) (by decide +kernel))) rfl), (bTB_in (List.mem_append_right _ (List.mem_of_getElem? (i := 33) (by decide +kernel))) rfl)⟩ ?_
  refine k_aload0 (pc := 4) C dX9_init_4 ?_
  refine k_mk (cj := 8) (Cn := RX8) (T := TX8) (tyf := tyX8) (fs1 := [.null, .int 0, .int 0, .int 0, .int 0, .int 0, .int 0, .long 0]) (bytes := cX8_init) (host := "BenchColony") (Wp := Wp8 G) (d1 := 0) (mc1 := 1) (ms1 := 1000) (pc := 5) C dX9_init_5 dX9_init_8 dX9_init_9 rfl inX8 tyX8_ok ⟨(bTB_in (List.mem_append_right _ (List.mem_of_getElem? (i := 40) (by decide +kernel))) rfl), (bTB_in (List.mem_append_right _ (List.mem_of_getElem? (i := 41) (by decide +kernel))) rfl), (bTB_in (List.mem_append_right _ (List.mem_of_getElem? (i := 3) (by decide +kernel))) rfl), (bTB_in (List.mem_append_right _ (List.mem_of_getElem? (i := 43) (by decide +kernel))) rfl), (bTB_in (List.mem_append_right _ (List.mem_of_getElem? (i := 44) (by decide +kernel))) rfl)⟩ (Or.inr (List.mem_of_getElem? (i := 1) rfl)) (by decide +kernel) (df8) ⟨Nat.le_of_ble_eq_true rfl, Nat.le_of_ble_eq_true rfl⟩ (by decide) (Nat.le_of_ble_eq_true rfl) (by rw [el, eG, eρ, eA]; exact c8) (fun a1 w hw => ?_)
  obtain ⟨a2, rfl⟩ := hw
  refine k_putF (kf := 0) (pc := 12) C dX9_init_12 (by rw [eci]; rfl) inX9 tyX9_ok nmX9 (by decide) (bTB_in (List.mem_append_right _ (List.mem_of_getElem? (i := 364) (by decide +kernel))) rfl) rfl rfl (tyX9_ok 0 (by decide)) rfl rfl (Nat.le_of_ble_eq_true rfl) ?_
  refine k_aload0 (pc := 15) C dX9_init_15 ?_
  refine k_bipush (pc := 16) C dX9_init_16 bp_10 ?_
  refine k_newa (t := 3) (ty := .long) (a0 := (10, .inr (.inl (fun _ => 0)))) (pc := 18) C dX9_init_18 wac_3 rfl rfl (fun _ h => by cases h) (fun _ => rfl) tm_10 (by decide) ⟨Nat.le_of_ble_eq_true rfl, Nat.le_of_ble_eq_true rfl⟩ (fun a3 => ?_)
  refine k_putF (kf := 1) (pc := 20) C dX9_init_20 (by rw [eci]; rfl) inX9 tyX9_ok nmX9 (by decide) (bTB_in (List.mem_append_right _ (List.mem_of_getElem? (i := 366) (by decide +kernel))) rfl) rfl rfl (tyX9_ok 1 (by decide)) rfl rfl (Nat.le_of_ble_eq_true rfl) ?_
  refine k_aload0 (pc := 23) C dX9_init_23 ?_
  refine k_bipush (pc := 24) C dX9_init_24 bp_6 ?_
  refine k_newa (t := 3) (ty := .long) (a0 := (6, .inr (.inl (fun _ => 0)))) (pc := 26) C dX9_init_26 wac_3 rfl rfl (fun _ h => by cases h) (fun _ => rfl) tm_6 (by decide) ⟨Nat.le_of_ble_eq_true rfl, Nat.le_of_ble_eq_true rfl⟩ (fun a4 => ?_)
  refine k_putF (kf := 2) (pc := 28) C dX9_init_28 (by rw [eci]; rfl) inX9 tyX9_ok nmX9 (by decide) (bTB_in (List.mem_append_right _ (List.mem_of_getElem? (i := 367) (by decide +kernel))) rfl) rfl rfl (tyX9_ok 2 (by decide)) rfl rfl (Nat.le_of_ble_eq_true rfl) ?_
  refine k_aload0 (pc := 31) C dX9_init_31 ?_
  refine k_bipush (pc := 32) C dX9_init_32 bp_7 ?_
  refine k_newa (t := 3) (ty := .long) (a0 := (7, .inr (.inl (fun _ => 0)))) (pc := 34) C dX9_init_34 wac_3 rfl rfl (fun _ h => by cases h) (fun _ => rfl) tm_7 (by decide) ⟨Nat.le_of_ble_eq_true rfl, Nat.le_of_ble_eq_true rfl⟩ (fun a5 => ?_)
  refine k_putF (kf := 3) (pc := 36) C dX9_init_36 (by rw [eci]; rfl) inX9 tyX9_ok nmX9 (by decide) (bTB_in (List.mem_append_right _ (List.mem_of_getElem? (i := 368) (by decide +kernel))) rfl) rfl rfl (tyX9_ok 3 (by decide)) rfl rfl (Nat.le_of_ble_eq_true rfl) ?_
  refine k_aload0 (pc := 39) C dX9_init_39 ?_
  refine k_mk (cj := 7) (Cn := RX7) (T := TX7) (tyf := tyX7) (fs1 := [.null, .null, .null, .null, .int 0]) (bytes := cX7_init) (host := "BenchColony") (Wp := Wp7 G) (d1 := 1) (mc1 := 22) (ms1 := 324) (pc := 40) C dX9_init_40 dX9_init_43 dX9_init_44 rfl inX7 tyX7_ok ⟨(bTB_in (List.mem_append_right _ (List.mem_of_getElem? (i := 77) (by decide +kernel))) rfl), (bTB_in (List.mem_append_right _ (List.mem_of_getElem? (i := 78) (by decide +kernel))) rfl), (bTB_in (List.mem_append_right _ (List.mem_of_getElem? (i := 4) (by decide +kernel))) rfl), (bTB_in (List.mem_append_right _ (List.mem_of_getElem? (i := 80) (by decide +kernel))) rfl), (bTB_in (List.mem_append_right _ (List.mem_of_getElem? (i := 81) (by decide +kernel))) rfl)⟩ (Or.inr (List.mem_of_getElem? (i := 2) rfl)) (by decide +kernel) (df7) ⟨Nat.le_of_ble_eq_true rfl, Nat.le_of_ble_eq_true rfl⟩ (by decide) (Nat.le_of_ble_eq_true rfl) (by rw [el, eG, eρ, eA]; exact c7) (fun a6 w hw => ?_)
  obtain ⟨a7, a8, a9, a10, a11, a12, a13, a14, a15, a16, a17, a18, a19, a20, a21, a22, a23, a24, a25, a26, a27, a28, rfl⟩ := hw
  refine k_put (kf := 4) (pc := 47) C dX9_init_47 (by rw [eci]; rfl) inX9 tyX9_ok nmX9 (by decide) (bTB_in (List.mem_append_right _ (List.mem_of_getElem? (i := 369) (by decide +kernel))) rfl) rfl (tyX9_ok 4 (by decide)) rfl rfl (Nat.le_of_ble_eq_true rfl) ?_
  refine k_aload0 (pc := 50) C dX9_init_50 ?_
  refine k_get (kf := 1) (pc := 51) C dX9_init_51 (by rw [eci]; rfl) inX9 (by decide) (bTB_in (List.mem_append_right _ (List.mem_of_getElem? (i := 366) (by decide +kernel))) rfl) rfl ?_
  refine k_iconst (pc := 54) C dX9_init_54 ic_0 ?_
  refine k_ldcS (pc := 55) C dX9_init_55 "room" 18 rfl ?_
  obtain ⟨σk0, hk0⟩ := kw_0
  refine k_codeOf (pc := 57) C dX9_init_57 mm_X9_37 (by decide) hk0 (by decide) (Nat.le_of_ble_eq_true rfl) ⟨Nat.le_of_ble_eq_true rfl, Nat.le_of_ble_eq_true rfl⟩ ?_
  refine k_last (q0 := 2) (pc := 60) C dX9_init_60 rfl tm_0 (by decide) rfl ?_
  refine k_aload0 (pc := 61) C dX9_init_61 ?_
  refine k_get (kf := 1) (pc := 62) C dX9_init_62 (by rw [eci]; rfl) inX9 (by decide) (bTB_in (List.mem_append_right _ (List.mem_of_getElem? (i := 366) (by decide +kernel))) rfl) rfl ?_
  refine k_iconst (pc := 65) C dX9_init_65 ic_1 ?_
  refine k_ldcS (pc := 66) C dX9_init_66 "bench" 19 rfl ?_
  obtain ⟨σk1, hk1⟩ := kw_1
  refine k_codeOf (pc := 68) C dX9_init_68 mm_X9_37 (by decide) hk1 (by decide) (Nat.le_of_ble_eq_true rfl) ⟨Nat.le_of_ble_eq_true rfl, Nat.le_of_ble_eq_true rfl⟩ ?_
  refine k_last (q0 := 2) (pc := 71) C dX9_init_71 rfl tm_1 (by decide) rfl ?_
  refine k_aload0 (pc := 72) C dX9_init_72 ?_
  refine k_get (kf := 1) (pc := 73) C dX9_init_73 (by rw [eci]; rfl) inX9 (by decide) (bTB_in (List.mem_append_right _ (List.mem_of_getElem? (i := 366) (by decide +kernel))) rfl) rfl ?_
  refine k_iconst (pc := 76) C dX9_init_76 ic_2 ?_
  refine k_ldcS (pc := 77) C dX9_init_77 "person" 20 rfl ?_
  obtain ⟨σk2, hk2⟩ := kw_2
  refine k_codeOf (pc := 79) C dX9_init_79 mm_X9_37 (by decide) hk2 (by decide) (Nat.le_of_ble_eq_true rfl) ⟨Nat.le_of_ble_eq_true rfl, Nat.le_of_ble_eq_true rfl⟩ ?_
  refine k_last (q0 := 2) (pc := 82) C dX9_init_82 rfl tm_2 (by decide) rfl ?_
  refine k_aload0 (pc := 83) C dX9_init_83 ?_
  refine k_get (kf := 1) (pc := 84) C dX9_init_84 (by rw [eci]; rfl) inX9 (by decide) (bTB_in (List.mem_append_right _ (List.mem_of_getElem? (i := 366) (by decide +kernel))) rfl) rfl ?_
  refine k_iconst (pc := 87) C dX9_init_87 ic_3 ?_
  refine k_ldcS (pc := 88) C dX9_init_88 "kin" 21 rfl ?_
  obtain ⟨σk3, hk3⟩ := kw_3
  refine k_codeOf (pc := 90) C dX9_init_90 mm_X9_37 (by decide) hk3 (by decide) (Nat.le_of_ble_eq_true rfl) ⟨Nat.le_of_ble_eq_true rfl, Nat.le_of_ble_eq_true rfl⟩ ?_
  refine k_last (q0 := 2) (pc := 93) C dX9_init_93 rfl tm_3 (by decide) rfl ?_
  refine k_aload0 (pc := 94) C dX9_init_94 ?_
  refine k_get (kf := 1) (pc := 95) C dX9_init_95 (by rw [eci]; rfl) inX9 (by decide) (bTB_in (List.mem_append_right _ (List.mem_of_getElem? (i := 366) (by decide +kernel))) rfl) rfl ?_
  refine k_iconst (pc := 98) C dX9_init_98 ic_4 ?_
  refine k_ldcS (pc := 99) C dX9_init_99 "heeds" 22 rfl ?_
  obtain ⟨σk4, hk4⟩ := kw_4
  refine k_codeOf (pc := 101) C dX9_init_101 mm_X9_37 (by decide) hk4 (by decide) (Nat.le_of_ble_eq_true rfl) ⟨Nat.le_of_ble_eq_true rfl, Nat.le_of_ble_eq_true rfl⟩ ?_
  refine k_last (q0 := 2) (pc := 104) C dX9_init_104 rfl tm_4 (by decide) rfl ?_
  refine k_aload0 (pc := 105) C dX9_init_105 ?_
  refine k_get (kf := 1) (pc := 106) C dX9_init_106 (by rw [eci]; rfl) inX9 (by decide) (bTB_in (List.mem_append_right _ (List.mem_of_getElem? (i := 366) (by decide +kernel))) rfl) rfl ?_
  refine k_iconst (pc := 109) C dX9_init_109 ic_5 ?_
  refine k_ldcS (pc := 110) C dX9_init_110 "believes" 23 rfl ?_
  obtain ⟨σk5, hk5⟩ := kw_5
  refine k_codeOf (pc := 112) C dX9_init_112 mm_X9_37 (by decide) hk5 (by decide) (Nat.le_of_ble_eq_true rfl) ⟨Nat.le_of_ble_eq_true rfl, Nat.le_of_ble_eq_true rfl⟩ ?_
  refine k_last (q0 := 2) (pc := 115) C dX9_init_115 rfl tm_5 (by decide) rfl ?_
  refine k_aload0 (pc := 116) C dX9_init_116 ?_
  refine k_get (kf := 1) (pc := 117) C dX9_init_117 (by rw [eci]; rfl) inX9 (by decide) (bTB_in (List.mem_append_right _ (List.mem_of_getElem? (i := 366) (by decide +kernel))) rfl) rfl ?_
  refine k_bipush (pc := 120) C dX9_init_120 bp_6 ?_
  refine k_ldcS (pc := 122) C dX9_init_122 "denies" 24 rfl ?_
  obtain ⟨σk6, hk6⟩ := kw_6
  refine k_codeOf (pc := 124) C dX9_init_124 mm_X9_37 (by decide) hk6 (by decide) (Nat.le_of_ble_eq_true rfl) ⟨Nat.le_of_ble_eq_true rfl, Nat.le_of_ble_eq_true rfl⟩ ?_
  refine k_last (q0 := 2) (pc := 127) C dX9_init_127 rfl tm_6 (by decide) rfl ?_
  refine k_aload0 (pc := 128) C dX9_init_128 ?_
  refine k_get (kf := 1) (pc := 129) C dX9_init_129 (by rw [eci]; rfl) inX9 (by decide) (bTB_in (List.mem_append_right _ (List.mem_of_getElem? (i := 366) (by decide +kernel))) rfl) rfl ?_
  refine k_bipush (pc := 132) C dX9_init_132 bp_7 ?_
  refine k_ldcS (pc := 134) C dX9_init_134 "rumble" 25 rfl ?_
  obtain ⟨σk7, hk7⟩ := kw_7
  refine k_codeOf (pc := 136) C dX9_init_136 mm_X9_37 (by decide) hk7 (by decide) (Nat.le_of_ble_eq_true rfl) ⟨Nat.le_of_ble_eq_true rfl, Nat.le_of_ble_eq_true rfl⟩ ?_
  refine k_last (q0 := 2) (pc := 139) C dX9_init_139 rfl tm_7 (by decide) rfl ?_
  refine k_aload0 (pc := 140) C dX9_init_140 ?_
  refine k_get (kf := 1) (pc := 141) C dX9_init_141 (by rw [eci]; rfl) inX9 (by decide) (bTB_in (List.mem_append_right _ (List.mem_of_getElem? (i := 366) (by decide +kernel))) rfl) rfl ?_
  refine k_bipush (pc := 144) C dX9_init_144 bp_8 ?_
  refine k_ldcS (pc := 146) C dX9_init_146 "quiet" 26 rfl ?_
  obtain ⟨σk8, hk8⟩ := kw_8
  refine k_codeOf (pc := 148) C dX9_init_148 mm_X9_37 (by decide) hk8 (by decide) (Nat.le_of_ble_eq_true rfl) ⟨Nat.le_of_ble_eq_true rfl, Nat.le_of_ble_eq_true rfl⟩ ?_
  refine k_last (q0 := 2) (pc := 151) C dX9_init_151 rfl tm_8 (by decide) rfl ?_
  refine k_aload0 (pc := 152) C dX9_init_152 ?_
  refine k_get (kf := 1) (pc := 153) C dX9_init_153 (by rw [eci]; rfl) inX9 (by decide) (bTB_in (List.mem_append_right _ (List.mem_of_getElem? (i := 366) (by decide +kernel))) rfl) rfl ?_
  refine k_bipush (pc := 156) C dX9_init_156 bp_9 ?_
  refine k_ldcS (pc := 158) C dX9_init_158 "on" 27 rfl ?_
  obtain ⟨σk9, hk9⟩ := kw_9
  refine k_codeOf (pc := 160) C dX9_init_160 mm_X9_37 (by decide) hk9 (by decide) (Nat.le_of_ble_eq_true rfl) ⟨Nat.le_of_ble_eq_true rfl, Nat.le_of_ble_eq_true rfl⟩ ?_
  refine k_last (q0 := 2) (pc := 163) C dX9_init_163 rfl tm_9 (by decide) rfl ?_
  exact k_ret (pc := 164) C hQ dX9_init_164 ⟨Nat.le_refl _, Nat.le_refl _⟩ ⟨a1, a2, a3, a4, a5, a6, a7, a8, a9, a10, a11, a12, a13, a14, a15, a16, a17, a18, a19, a20, a21, a22, a23, a24, a25, a26, a27, a28, by rw [eci]; first | (rw [eG]; rfl) | rfl⟩
def Wp11 (G : bG) (h0 : Nat) (w : va_W) : Prop := ∃ (a1 : Nat) (a2 : Nat) (a3 : Nat) (a4 : Nat) (a5 : Nat) (a6 : Nat) (a7 : Nat) (a8 : Nat) (a9 : Nat) (a10 : Nat) (a11 : Nat) (a12 : Nat) (a13 : Nat) (a14 : Nat) (a15 : Nat) (a16 : Nat) (a17 : Nat) (a18 : Nat) (a19 : Nat) (a20 : Nat) (a21 : Nat) (a22 : Nat) (a23 : Nat) (a24 : Nat) (a25 : Nat) (a26 : Nat) (a27 : Nat) (a28 : Nat) (a29 : Nat) (a30 : Nat) (a31 : Nat) (a32 : Nat) (a33 : Nat) (a34 : Nat) (a35 : Nat) (a36 : Nat) (a37 : Nat) (r37 : Nat → Nat) (a54 : Nat) (r54 : Nat → Nat) (a58 : Nat) (a59 : Nat) (a60 : Nat) (a61 : Nat) (a62 : Nat) (a63 : Nat) (a64 : Nat) (a65 : Nat) (a66 : Nat) (a67 : Nat) (a68 : Nat) (a69 : Nat) (a70 : Nat) (a71 : Nat) (a72 : Nat) (a73 : Nat) (a74 : Nat) (a75 : Nat) (a76 : Nat) (a77 : Nat) (a78 : Nat) (a79 : Nat) (a80 : Nat) (a81 : Nat) (a82 : Nat) (a83 : Nat) (a84 : Nat) (a85 : Nat) (a86 : Nat) (a87 : Nat) (a88 : Nat) (a89 : Nat) (a90 : Nat) (a91 : Nat), w = [(h0, .inr (11, [.ref a1, .ref a30, .ref a33, .ref a36, .ref a58, .ref a63, .ref a66, .ref a69, .int 0, .int 0, .int 0])), (a1, .inr (9, [.ref a2, .ref a4, .ref a5, .ref a6, .ref a7, .int 0, .int 0, .int 0])), (a2, .inr (8, [.ref a3, .int 0, .int 0, .int 0, .int 0, .int 0, .int 0, .long 0])), (a3, .inl (G.2 1, 1000, .inl (fun _ => 0))), (a4, .inl (G.2 3, 10, .inr (.inl bKW))), (a5, .inl (G.2 3, 6, .inr (.inl (fun _ => 0)))), (a6, .inl (G.2 3, 7, .inr (.inl (fun _ => 0)))), (a7, .inr (7, [.ref a8, .ref a14, .ref a22, .ref a27, .int 0])), (a8, .inr (3, [.ref a9, .ref a10, .ref a11, .ref a12, .ref a13, .int 0, .int 0, .int 0, .int 0, .int 0, .int 0])), (a9, .inl (G.2 0, 6, .inl (fun _ => 0))), (a10, .inl (G.2 0, 6, .inl (fun _ => 0))), (a11, .inl (G.2 0, 6, .inl (fun _ => 0))), (a12, .inl (G.2 0, 6, .inl (fun _ => 0))), (a13, .inl (G.2 0, 6, .inl (fun _ => 0))), (a14, .inr (2, [.ref a15, .ref a16, .ref a17, .ref a18, .ref a19, .ref a20, .ref a21, .int 0, .int 0, .int 0])), (a15, .inl (G.2 0, 7, .inl (fun _ => 0))), (a16, .inl (G.2 3, 7, .inr (.inl (fun _ => 0)))), (a17, .inl (G.2 0, 7, .inl (fun _ => 0))), (a18, .inl (G.2 0, 7, .inl (fun _ => 0))), (a19, .inl (G.2 0, 9, .inl (fun _ => 0))), (a20, .inl (G.2 0, 9, .inl (fun _ => 0))), (a21, .inl (G.2 0, 9, .inl (fun _ => 0))), (a22, .inr (10, [.ref a23, .ref a24, .ref a25, .ref a26, .int 0, .int 0, .int 0])), (a23, .inl (G.2 0, 8, .inl (fun _ => 0))), (a24, .inl (G.2 2, 8, .inl (fun _ => 0))), (a25, .inl (G.2 0, 77, .inl (fun _ => 0))), (a26, .inl (G.2 0, 100, .inl (fun _ => 0))), (a27, .inr (4, [.ref a28, .ref a29, .int 0, .int 0])), (a28, .inl (G.2 0, 7, .inl (fun _ => 0))), (a29, .inl (G.2 0, 7, .inl (fun _ => 0))), (a30, .inr (4, [.ref a31, .ref a32, .int 0, .int 0])), (a31, .inl (G.2 0, 7, .inl (fun _ => 0))), (a32, .inl (G.2 0, 7, .inl (fun _ => 0))), (a33, .inr (4, [.ref a34, .ref a35, .int 0, .int 0])), (a34, .inl (G.2 0, 7, .inl (fun _ => 0))), (a35, .inl (G.2 0, 7, .inl (fun _ => 0))), (a36, .inr (6, [.ref a37, .ref a54, .int 0, .int 0, .int 0])), (a37, .inl (G.2 4, 16, .inr (.inr (.inr (.inr (fun i => if i < 16 then some (r37 i) else none))))))] ++ (List.range 16).map (fun i => (r37 i, .inl (G.2 0, 16, .inl (fun _ => 0)))) ++ [(a54, .inl (G.2 4, 3, .inr (.inr (.inr (.inr (fun i => if i < 3 then some (r54 i) else none))))))] ++ (List.range 3).map (fun i => (r54 i, .inl (G.2 0, 16, .inl (fun _ => 0)))) ++ [(a58, .inr (5, [.ref a59, .ref a60, .ref a61, .ref a62, .int 0, .int 0, .int 0])), (a59, .inl (G.2 0, 6, .inl (fun _ => 0))), (a60, .inl (G.2 0, 6, .inl (fun _ => 0))), (a61, .inl (G.2 0, 7, .inl (fun _ => 0))), (a62, .inl (G.2 0, 7, .inl (fun _ => 0))), (a63, .inr (0, [.ref a64, .ref a65])), (a64, .inl (G.2 0, 128, .inl (fun _ => 0))), (a65, .inl (G.2 0, 7, .inl (fun _ => 0))), (a66, .inr (1, [.ref a67, .ref a68])), (a67, .inl (G.2 0, 7, .inl (fun _ => 0))), (a68, .inl (G.2 0, 7, .inl (fun _ => 0))), (a69, .inr (7, [.ref a70, .ref a76, .ref a84, .ref a89, .int 0])), (a70, .inr (3, [.ref a71, .ref a72, .ref a73, .ref a74, .ref a75, .int 0, .int 0, .int 0, .int 0, .int 0, .int 0])), (a71, .inl (G.2 0, 6, .inl (fun _ => 0))), (a72, .inl (G.2 0, 6, .inl (fun _ => 0))), (a73, .inl (G.2 0, 6, .inl (fun _ => 0))), (a74, .inl (G.2 0, 6, .inl (fun _ => 0))), (a75, .inl (G.2 0, 6, .inl (fun _ => 0))), (a76, .inr (2, [.ref a77, .ref a78, .ref a79, .ref a80, .ref a81, .ref a82, .ref a83, .int 0, .int 0, .int 0])), (a77, .inl (G.2 0, 7, .inl (fun _ => 0))), (a78, .inl (G.2 3, 7, .inr (.inl (fun _ => 0)))), (a79, .inl (G.2 0, 7, .inl (fun _ => 0))), (a80, .inl (G.2 0, 7, .inl (fun _ => 0))), (a81, .inl (G.2 0, 9, .inl (fun _ => 0))), (a82, .inl (G.2 0, 9, .inl (fun _ => 0))), (a83, .inl (G.2 0, 9, .inl (fun _ => 0))), (a84, .inr (10, [.ref a85, .ref a86, .ref a87, .ref a88, .int 0, .int 0, .int 0])), (a85, .inl (G.2 0, 8, .inl (fun _ => 0))), (a86, .inl (G.2 2, 8, .inl (fun _ => 0))), (a87, .inl (G.2 0, 77, .inl (fun _ => 0))), (a88, .inl (G.2 0, 100, .inl (fun _ => 0))), (a89, .inr (4, [.ref a90, .ref a91, .int 0, .int 0])), (a90, .inl (G.2 0, 7, .inl (fun _ => 0))), (a91, .inl (G.2 0, 7, .inl (fun _ => 0)))]
theorem df11 : ∀ j, j < 11 → defaultValue (tyX11 j) = vp_V [.null, .null, .null, .null, .null, .null, .null, .null, .int 0, .int 0, .int 0] j := by decide
def Wp12 (G : bG) (h0 : Nat) (w : va_W) : Prop := ∃ (a1 : Nat) (a2 : Nat) (a3 : Nat) (a4 : Nat) (a5 : Nat) (a6 : Nat) (a7 : Nat) (a8 : Nat) (a9 : Nat) (a10 : Nat) (a11 : Nat) (a12 : Nat) (a13 : Nat) (a14 : Nat) (a15 : Nat) (a16 : Nat) (a17 : Nat), w = [(h0, .inr (12, [.int 0, .ref a1, .int 0, .int 0, .int 0, .int 0, .int 0, .int 0, .int 0, .int 0, .int (-1 : Int32), .int 0, .ref a2, .int 0, .int 0, .ref a3, .ref a4, .ref a5, .ref a6, .ref a7, .int 0, .int 0, .ref a8, .ref a9, .ref a10, .int 0, .int 0, .ref a11, .ref a12, .ref a13, .int 0, .ref a14, .ref a15, .int 0, .ref a16, .ref a17])), (a1, .inl (G.2 0, 1000, .inl (fun _ => 0))), (a2, .inl (G.2 0, 8, .inl (fun _ => 0))), (a3, .inl (G.2 0, 406, .inl (fun _ => 0))), (a4, .inl (G.2 0, 406, .inl (fun _ => 0))), (a5, .inl (G.2 0, 16, .inl (fun _ => 0))), (a6, .inl (G.2 0, 256, .inl (fun _ => 0))), (a7, .inl (G.2 0, 48, .inl (fun _ => 0))), (a8, .inl (G.2 0, 7, .inl (fun _ => 0))), (a9, .inl (G.2 0, 7, .inl (fun _ => 0))), (a10, .inl (G.2 0, 6, .inl (fun _ => 0))), (a11, .inl (G.2 0, 6, .inl (fun _ => 0))), (a12, .inl (G.2 0, 7, .inl (fun _ => 0))), (a13, .inl (G.2 0, 7, .inl (fun _ => 0))), (a14, .inl (G.2 0, 7, .inl (fun _ => 0))), (a15, .inl (G.2 0, 7, .inl (fun _ => 0))), (a16, .inl (G.2 0, 7, .inl (fun _ => 0))), (a17, .inl (G.2 0, 7, .inl (fun _ => 0)))]
theorem df12 : ∀ j, j < 36 → defaultValue (tyX12 j) = vp_V [.int 0, .null, .int 0, .int 0, .int 0, .int 0, .int 0, .int 0, .int 0, .int 0, .int 0, .int 0, .null, .int 0, .int 0, .null, .null, .null, .null, .null, .int 0, .int 0, .null, .null, .null, .int 0, .int 0, .null, .null, .null, .int 0, .null, .null, .int 0, .null, .null] j := by decide
set_option maxHeartbeats 4000000 in
set_option maxRecDepth 20000 in
theorem c12 {l : Launch} {G : bG} {ρ : Nat → Nat} {A0 : Nat → Prop} : bCt l G ρ A0 ⟨RX12, "<init>", "()V"⟩ cX12_init 12 [.int 0, .null, .int 0, .int 0, .int 0, .int 0, .int 0, .int 0, .int 0, .int 0, .int 0, .int 0, .null, .int 0, .int 0, .null, .null, .null, .null, .null, .int 0, .int 0, .null, .null, .null, .int 0, .int 0, .null, .null, .null, .int 0, .null, .null, .int 0, .null, .null] 0 17 2208 (Wp12 G) := by
  refine k_met (by decide +kernel) rfl (fun K C hQ el eG eρ eA eci => ?_)
  refine k_aload0 (pc := 0) C dX12_init_0 ?_
  refine k_objinit (pc := 1) C dX12_init_1 ⟨(bTB_in (List.mem_append_right _ (List.mem_of_getElem? (i := 1332) (by decide +kernel))) rfl), (bTB_in (List.mem_append_right _ (List.mem_of_getElem? (i := 32) (by decide +kernel))) rfl), (bTB_in (List.mem_append_right _ (List.mem_of_getElem? (i := 33) (by decide +kernel))) rfl)⟩ ?_
  refine k_aload0 (pc := 4) C dX12_init_4 ?_
  refine k_sipush (pc := 5) C dX12_init_5 sp_1000 ?_
  refine k_newa (t := 0) (ty := .int) (a0 := (1000, .inl (fun _ => 0))) (pc := 8) C dX12_init_8 wac_0 rfl rfl (fun _ h => by cases h) (fun _ => rfl) tm_1000 (by decide) ⟨Nat.le_of_ble_eq_true rfl, Nat.le_of_ble_eq_true rfl⟩ (fun a1 => ?_)
  refine k_putF (kf := 1) (pc := 10) C dX12_init_10 (by rw [eci]; rfl) inX12 tyX12_ok nmX12 (by decide) (bTB_in (List.mem_append_right _ (List.mem_of_getElem? (i := 1334) (by decide +kernel))) rfl) rfl rfl (tyX12_ok 1 (by decide)) rfl rfl (Nat.le_of_ble_eq_true rfl) ?_
  refine k_aload0 (pc := 13) C dX12_init_13 ?_
  refine k_iconst (pc := 14) C dX12_init_14 ic_m1 ?_
  refine k_put (kf := 10) (pc := 15) C dX12_init_15 (by rw [eci]; rfl) inX12 tyX12_ok nmX12 (by decide) (bTB_in (List.mem_append_right _ (List.mem_of_getElem? (i := 1343) (by decide +kernel))) rfl) rfl (tyX12_ok 10 (by decide)) rfl rfl (Nat.le_of_ble_eq_true rfl) ?_
  refine k_aload0 (pc := 18) C dX12_init_18 ?_
  refine k_bipush (pc := 19) C dX12_init_19 bp_8 ?_
  refine k_newa (t := 0) (ty := .int) (a0 := (8, .inl (fun _ => 0))) (pc := 21) C dX12_init_21 wac_0 rfl rfl (fun _ h => by cases h) (fun _ => rfl) tm_8 (by decide) ⟨Nat.le_of_ble_eq_true rfl, Nat.le_of_ble_eq_true rfl⟩ (fun a2 => ?_)
  refine k_putF (kf := 12) (pc := 23) C dX12_init_23 (by rw [eci]; rfl) inX12 tyX12_ok nmX12 (by decide) (bTB_in (List.mem_append_right _ (List.mem_of_getElem? (i := 1345) (by decide +kernel))) rfl) rfl rfl (tyX12_ok 12 (by decide)) rfl rfl (Nat.le_of_ble_eq_true rfl) ?_
  refine k_aload0 (pc := 26) C dX12_init_26 ?_
  refine k_sipush (pc := 27) C dX12_init_27 sp_406 ?_
  refine k_newa (t := 0) (ty := .int) (a0 := (406, .inl (fun _ => 0))) (pc := 30) C dX12_init_30 wac_0 rfl rfl (fun _ h => by cases h) (fun _ => rfl) tm_406 (by decide) ⟨Nat.le_of_ble_eq_true rfl, Nat.le_of_ble_eq_true rfl⟩ (fun a3 => ?_)
  refine k_putF (kf := 15) (pc := 32) C dX12_init_32 (by rw [eci]; rfl) inX12 tyX12_ok nmX12 (by decide) (bTB_in (List.mem_append_right _ (List.mem_of_getElem? (i := 1348) (by decide +kernel))) rfl) rfl rfl (tyX12_ok 15 (by decide)) rfl rfl (Nat.le_of_ble_eq_true rfl) ?_
  refine k_aload0 (pc := 35) C dX12_init_35 ?_
  refine k_sipush (pc := 36) C dX12_init_36 sp_406 ?_
  refine k_newa (t := 0) (ty := .int) (a0 := (406, .inl (fun _ => 0))) (pc := 39) C dX12_init_39 wac_0 rfl rfl (fun _ h => by cases h) (fun _ => rfl) tm_406 (by decide) ⟨Nat.le_of_ble_eq_true rfl, Nat.le_of_ble_eq_true rfl⟩ (fun a4 => ?_)
  refine k_putF (kf := 16) (pc := 41) C dX12_init_41 (by rw [eci]; rfl) inX12 tyX12_ok nmX12 (by decide) (bTB_in (List.mem_append_right _ (List.mem_of_getElem? (i := 1349) (by decide +kernel))) rfl) rfl rfl (tyX12_ok 16 (by decide)) rfl rfl (Nat.le_of_ble_eq_true rfl) ?_
  refine k_aload0 (pc := 44) C dX12_init_44 ?_
  refine k_bipush (pc := 45) C dX12_init_45 bp_16 ?_
  refine k_newa (t := 0) (ty := .int) (a0 := (16, .inl (fun _ => 0))) (pc := 47) C dX12_init_47 wac_0 rfl rfl (fun _ h => by cases h) (fun _ => rfl) tm_16 (by decide) ⟨Nat.le_of_ble_eq_true rfl, Nat.le_of_ble_eq_true rfl⟩ (fun a5 => ?_)
  refine k_putF (kf := 17) (pc := 49) C dX12_init_49 (by rw [eci]; rfl) inX12 tyX12_ok nmX12 (by decide) (bTB_in (List.mem_append_right _ (List.mem_of_getElem? (i := 1350) (by decide +kernel))) rfl) rfl rfl (tyX12_ok 17 (by decide)) rfl rfl (Nat.le_of_ble_eq_true rfl) ?_
  refine k_aload0 (pc := 52) C dX12_init_52 ?_
  refine k_sipush (pc := 53) C dX12_init_53 sp_256 ?_
  refine k_newa (t := 0) (ty := .int) (a0 := (256, .inl (fun _ => 0))) (pc := 56) C dX12_init_56 wac_0 rfl rfl (fun _ h => by cases h) (fun _ => rfl) tm_256 (by decide) ⟨Nat.le_of_ble_eq_true rfl, Nat.le_of_ble_eq_true rfl⟩ (fun a6 => ?_)
  refine k_putF (kf := 18) (pc := 58) C dX12_init_58 (by rw [eci]; rfl) inX12 tyX12_ok nmX12 (by decide) (bTB_in (List.mem_append_right _ (List.mem_of_getElem? (i := 1351) (by decide +kernel))) rfl) rfl rfl (tyX12_ok 18 (by decide)) rfl rfl (Nat.le_of_ble_eq_true rfl) ?_
  refine k_aload0 (pc := 61) C dX12_init_61 ?_
  refine k_bipush (pc := 62) C dX12_init_62 bp_48 ?_
  refine k_newa (t := 0) (ty := .int) (a0 := (48, .inl (fun _ => 0))) (pc := 64) C dX12_init_64 wac_0 rfl rfl (fun _ h => by cases h) (fun _ => rfl) tm_48 (by decide) ⟨Nat.le_of_ble_eq_true rfl, Nat.le_of_ble_eq_true rfl⟩ (fun a7 => ?_)
  refine k_putF (kf := 19) (pc := 66) C dX12_init_66 (by rw [eci]; rfl) inX12 tyX12_ok nmX12 (by decide) (bTB_in (List.mem_append_right _ (List.mem_of_getElem? (i := 1352) (by decide +kernel))) rfl) rfl rfl (tyX12_ok 19 (by decide)) rfl rfl (Nat.le_of_ble_eq_true rfl) ?_
  refine k_aload0 (pc := 69) C dX12_init_69 ?_
  refine k_bipush (pc := 70) C dX12_init_70 bp_7 ?_
  refine k_newa (t := 0) (ty := .int) (a0 := (7, .inl (fun _ => 0))) (pc := 72) C dX12_init_72 wac_0 rfl rfl (fun _ h => by cases h) (fun _ => rfl) tm_7 (by decide) ⟨Nat.le_of_ble_eq_true rfl, Nat.le_of_ble_eq_true rfl⟩ (fun a8 => ?_)
  refine k_putF (kf := 22) (pc := 74) C dX12_init_74 (by rw [eci]; rfl) inX12 tyX12_ok nmX12 (by decide) (bTB_in (List.mem_append_right _ (List.mem_of_getElem? (i := 1355) (by decide +kernel))) rfl) rfl rfl (tyX12_ok 22 (by decide)) rfl rfl (Nat.le_of_ble_eq_true rfl) ?_
  refine k_aload0 (pc := 77) C dX12_init_77 ?_
  refine k_bipush (pc := 78) C dX12_init_78 bp_7 ?_
  refine k_newa (t := 0) (ty := .int) (a0 := (7, .inl (fun _ => 0))) (pc := 80) C dX12_init_80 wac_0 rfl rfl (fun _ h => by cases h) (fun _ => rfl) tm_7 (by decide) ⟨Nat.le_of_ble_eq_true rfl, Nat.le_of_ble_eq_true rfl⟩ (fun a9 => ?_)
  refine k_putF (kf := 23) (pc := 82) C dX12_init_82 (by rw [eci]; rfl) inX12 tyX12_ok nmX12 (by decide) (bTB_in (List.mem_append_right _ (List.mem_of_getElem? (i := 1356) (by decide +kernel))) rfl) rfl rfl (tyX12_ok 23 (by decide)) rfl rfl (Nat.le_of_ble_eq_true rfl) ?_
  refine k_aload0 (pc := 85) C dX12_init_85 ?_
  refine k_bipush (pc := 86) C dX12_init_86 bp_6 ?_
  refine k_newa (t := 0) (ty := .int) (a0 := (6, .inl (fun _ => 0))) (pc := 88) C dX12_init_88 wac_0 rfl rfl (fun _ h => by cases h) (fun _ => rfl) tm_6 (by decide) ⟨Nat.le_of_ble_eq_true rfl, Nat.le_of_ble_eq_true rfl⟩ (fun a10 => ?_)
  refine k_putF (kf := 24) (pc := 90) C dX12_init_90 (by rw [eci]; rfl) inX12 tyX12_ok nmX12 (by decide) (bTB_in (List.mem_append_right _ (List.mem_of_getElem? (i := 1357) (by decide +kernel))) rfl) rfl rfl (tyX12_ok 24 (by decide)) rfl rfl (Nat.le_of_ble_eq_true rfl) ?_
  refine k_aload0 (pc := 93) C dX12_init_93 ?_
  refine k_bipush (pc := 94) C dX12_init_94 bp_6 ?_
  refine k_newa (t := 0) (ty := .int) (a0 := (6, .inl (fun _ => 0))) (pc := 96) C dX12_init_96 wac_0 rfl rfl (fun _ h => by cases h) (fun _ => rfl) tm_6 (by decide) ⟨Nat.le_of_ble_eq_true rfl, Nat.le_of_ble_eq_true rfl⟩ (fun a11 => ?_)
  refine k_putF (kf := 27) (pc := 98) C dX12_init_98 (by rw [eci]; rfl) inX12 tyX12_ok nmX12 (by decide) (bTB_in (List.mem_append_right _ (List.mem_of_getElem? (i := 1360) (by decide +kernel))) rfl) rfl rfl (tyX12_ok 27 (by decide)) rfl rfl (Nat.le_of_ble_eq_true rfl) ?_
  refine k_aload0 (pc := 101) C dX12_init_101 ?_
  refine k_bipush (pc := 102) C dX12_init_102 bp_7 ?_
  refine k_newa (t := 0) (ty := .int) (a0 := (7, .inl (fun _ => 0))) (pc := 104) C dX12_init_104 wac_0 rfl rfl (fun _ h => by cases h) (fun _ => rfl) tm_7 (by decide) ⟨Nat.le_of_ble_eq_true rfl, Nat.le_of_ble_eq_true rfl⟩ (fun a12 => ?_)
  refine k_putF (kf := 28) (pc := 106) C dX12_init_106 (by rw [eci]; rfl) inX12 tyX12_ok nmX12 (by decide) (bTB_in (List.mem_append_right _ (List.mem_of_getElem? (i := 1361) (by decide +kernel))) rfl) rfl rfl (tyX12_ok 28 (by decide)) rfl rfl (Nat.le_of_ble_eq_true rfl) ?_
  refine k_aload0 (pc := 109) C dX12_init_109 ?_
  refine k_bipush (pc := 110) C dX12_init_110 bp_7 ?_
  refine k_newa (t := 0) (ty := .int) (a0 := (7, .inl (fun _ => 0))) (pc := 112) C dX12_init_112 wac_0 rfl rfl (fun _ h => by cases h) (fun _ => rfl) tm_7 (by decide) ⟨Nat.le_of_ble_eq_true rfl, Nat.le_of_ble_eq_true rfl⟩ (fun a13 => ?_)
  refine k_putF (kf := 29) (pc := 114) C dX12_init_114 (by rw [eci]; rfl) inX12 tyX12_ok nmX12 (by decide) (bTB_in (List.mem_append_right _ (List.mem_of_getElem? (i := 1362) (by decide +kernel))) rfl) rfl rfl (tyX12_ok 29 (by decide)) rfl rfl (Nat.le_of_ble_eq_true rfl) ?_
  refine k_aload0 (pc := 117) C dX12_init_117 ?_
  refine k_bipush (pc := 118) C dX12_init_118 bp_7 ?_
  refine k_newa (t := 0) (ty := .int) (a0 := (7, .inl (fun _ => 0))) (pc := 120) C dX12_init_120 wac_0 rfl rfl (fun _ h => by cases h) (fun _ => rfl) tm_7 (by decide) ⟨Nat.le_of_ble_eq_true rfl, Nat.le_of_ble_eq_true rfl⟩ (fun a14 => ?_)
  refine k_putF (kf := 31) (pc := 122) C dX12_init_122 (by rw [eci]; rfl) inX12 tyX12_ok nmX12 (by decide) (bTB_in (List.mem_append_right _ (List.mem_of_getElem? (i := 1364) (by decide +kernel))) rfl) rfl rfl (tyX12_ok 31 (by decide)) rfl rfl (Nat.le_of_ble_eq_true rfl) ?_
  refine k_aload0 (pc := 125) C dX12_init_125 ?_
  refine k_bipush (pc := 126) C dX12_init_126 bp_7 ?_
  refine k_newa (t := 0) (ty := .int) (a0 := (7, .inl (fun _ => 0))) (pc := 128) C dX12_init_128 wac_0 rfl rfl (fun _ h => by cases h) (fun _ => rfl) tm_7 (by decide) ⟨Nat.le_of_ble_eq_true rfl, Nat.le_of_ble_eq_true rfl⟩ (fun a15 => ?_)
  refine k_putF (kf := 32) (pc := 130) C dX12_init_130 (by rw [eci]; rfl) inX12 tyX12_ok nmX12 (by decide) (bTB_in (List.mem_append_right _ (List.mem_of_getElem? (i := 1365) (by decide +kernel))) rfl) rfl rfl (tyX12_ok 32 (by decide)) rfl rfl (Nat.le_of_ble_eq_true rfl) ?_
  refine k_aload0 (pc := 133) C dX12_init_133 ?_
  refine k_bipush (pc := 134) C dX12_init_134 bp_7 ?_
  refine k_newa (t := 0) (ty := .int) (a0 := (7, .inl (fun _ => 0))) (pc := 136) C dX12_init_136 wac_0 rfl rfl (fun _ h => by cases h) (fun _ => rfl) tm_7 (by decide) ⟨Nat.le_of_ble_eq_true rfl, Nat.le_of_ble_eq_true rfl⟩ (fun a16 => ?_)
  refine k_putF (kf := 34) (pc := 138) C dX12_init_138 (by rw [eci]; rfl) inX12 tyX12_ok nmX12 (by decide) (bTB_in (List.mem_append_right _ (List.mem_of_getElem? (i := 1367) (by decide +kernel))) rfl) rfl rfl (tyX12_ok 34 (by decide)) rfl rfl (Nat.le_of_ble_eq_true rfl) ?_
  refine k_aload0 (pc := 141) C dX12_init_141 ?_
  refine k_bipush (pc := 142) C dX12_init_142 bp_7 ?_
  refine k_newa (t := 0) (ty := .int) (a0 := (7, .inl (fun _ => 0))) (pc := 144) C dX12_init_144 wac_0 rfl rfl (fun _ h => by cases h) (fun _ => rfl) tm_7 (by decide) ⟨Nat.le_of_ble_eq_true rfl, Nat.le_of_ble_eq_true rfl⟩ (fun a17 => ?_)
  refine k_putF (kf := 35) (pc := 146) C dX12_init_146 (by rw [eci]; rfl) inX12 tyX12_ok nmX12 (by decide) (bTB_in (List.mem_append_right _ (List.mem_of_getElem? (i := 1368) (by decide +kernel))) rfl) rfl rfl (tyX12_ok 35 (by decide)) rfl rfl (Nat.le_of_ble_eq_true rfl) ?_
  exact k_ret (pc := 149) C hQ dX12_init_149 ⟨Nat.le_refl _, Nat.le_refl _⟩ ⟨a1, a2, a3, a4, a5, a6, a7, a8, a9, a10, a11, a12, a13, a14, a15, a16, a17, by rw [eci]; first | (rw [eG]; rfl) | rfl⟩
