theorem mm_J0_335 : bMV RJ0 335 yJ0_coder_7d493 cJ0_coder_7d493 1 (some .byte) 0 := ⟨(bTB_in (List.mem_append_right _ (List.mem_of_getElem? (i := 310) (by decide +kernel))) rfl), (bTB_in (List.mem_append_right _ (List.mem_of_getElem? (i := 311) (by decide +kernel))) rfl), (bTB_in (List.mem_append_right _ (List.mem_of_getElem? (i := 312) (by decide +kernel))) rfl), (bTB_in (List.mem_append_right _ (List.mem_of_getElem? (i := 9) (by decide +kernel))) rfl), (bTB_in (List.mem_append_right _ (List.mem_of_getElem? (i := 313) (by decide +kernel))) rfl), by decide, by decide +kernel, by decide +kernel, by decide +kernel⟩
theorem ww_J0_9 : Cond.fieldLink RJ0 9 "java/lang/String" "value" "[B" ∈ bTB := (bTB_in (List.mem_append_right _ (List.mem_of_getElem? (i := 1986) (by decide +kernel))) rfl)
theorem ww_J0_15 : Cond.fieldLink RJ0 15 "java/lang/String" "code\x72" "B" ∈ bTB := (bTB_in (List.mem_append_right _ (List.mem_of_getElem? (i := 1987) (by decide +kernel))) rfl)
theorem ww_J0_38 : Cond.fieldLink RJ0 38 "java/lang/String" "COMPACT_STRINGS" "Z" ∈ bTB := (bTB_in (List.mem_append_right _ (List.mem_of_getElem? (i := 314) (by decide +kernel))) rfl)
theorem mm_J0_492 : bMV RJ0 492 yJ0_isLatin1_aae02 cJ0_isLatin1_aae02 1 (some .boolean) 0 := ⟨(bTB_in (List.mem_append_right _ (List.mem_of_getElem? (i := 321) (by decide +kernel))) rfl), (bTB_in (List.mem_append_right _ (List.mem_of_getElem? (i := 322) (by decide +kernel))) rfl), (bTB_in (List.mem_append_right _ (List.mem_of_getElem? (i := 323) (by decide +kernel))) rfl), (bTB_in (List.mem_append_right _ (List.mem_of_getElem? (i := 9) (by decide +kernel))) rfl), (bTB_in (List.mem_append_right _ (List.mem_of_getElem? (i := 324) (by decide +kernel))) rfl), by decide, by decide +kernel, by decide +kernel, by decide +kernel⟩
theorem mm_J0_495 : bMS RJ0 495 yJ1_charAt_3b067 cJ1_charAt_3b067 2 (some .char) 2 := ⟨(bTB_in (List.mem_append_right _ (List.mem_of_getElem? (i := 325) (by decide +kernel))) rfl), (bTB_in (List.mem_append_right _ (List.mem_of_getElem? (i := 326) (by decide +kernel))) rfl), (bTB_in (List.mem_append_right _ (List.mem_of_getElem? (i := 10) (by decide +kernel))) rfl), (bTB_in (List.mem_append_right _ (List.mem_of_getElem? (i := 327) (by decide +kernel))) rfl), by decide, by decide +kernel, by decide +kernel, by decide +kernel⟩
theorem mm_J1_9 : bMS RJ1 9 yJ0_checkIndex_df160 cJ0_checkIndex_df160 2 none 2 := ⟨(bTB_in (List.mem_append_right _ (List.mem_of_getElem? (i := 328) (by decide +kernel))) rfl), (bTB_in (List.mem_append_right _ (List.mem_of_getElem? (i := 329) (by decide +kernel))) rfl), (bTB_in (List.mem_append_right _ (List.mem_of_getElem? (i := 9) (by decide +kernel))) rfl), (bTB_in (List.mem_append_right _ (List.mem_of_getElem? (i := 330) (by decide +kernel))) rfl), by decide, by decide +kernel, by decide +kernel, by decide +kernel⟩
theorem ww_J0_1053 : Cond.fieldLink RJ0 1053 "jdk/internal/util/Preconditions" "SIOOBE_FORMATTER" "Ljava/util/function/BiFunction;" ∈ bTB := (bTB_in (List.mem_append_right _ (List.mem_of_getElem? (i := 331) (by decide +kernel))) rfl)
theorem mm_J0_1059 : bMS RJ0 1059 yJ3_checkIndex_8e157 cJ3_checkIndex_8e157 3 (some .int) 3 := ⟨(bTB_in (List.mem_append_right _ (List.mem_of_getElem? (i := 333) (by decide +kernel))) rfl), (bTB_in (List.mem_append_right _ (List.mem_of_getElem? (i := 334) (by decide +kernel))) rfl), (bTB_in (List.mem_append_right _ (List.mem_of_getElem? (i := 11) (by decide +kernel))) rfl), (bTB_in (List.mem_append_right _ (List.mem_of_getElem? (i := 335) (by decide +kernel))) rfl), by decide, by decide +kernel, by decide +kernel, by decide +kernel⟩
/-! String.length and String.charAt of a constant (own work) -/
set_option maxHeartbeats 4000000 in
theorem e_strcoder {l : Launch} {G : bG} {SH : bShp} {ρ : Nat → Nat} {A : Nat → Prop} (d k : Nat) (hk : k < bnS) (σ : bSto) : bEv l G SH ρ A yJ0_coder_7d493 cJ0_coder_7d493 1 (some .byte) d [.ref (1000 + k)] σ (some (.int 0)) σ := by
  refine b_met (by decide +kernel) (Nat.le_of_ble_eq_true rfl) rfl (fun X C Rt h1 h2 h3 => ?_)
  refine b_gcs (pc := 0) C dJ0_coder_7d493_0 ww_J0_38 ?_
  refine b_if_eq (tgt := 13) (pc := 3) C dJ0_coder_7d493_3 rfl (fun h => absurd h (by decide)) (fun _ => ?_)
  refine b_aload_n (pc := 6) C dJ0_coder_7d493_6 rfl 0 rfl ?_
  refine b_scod (pc := 7) C dJ0_coder_7d493_7 ww_J0_15 hk ?_
  refine b_goto (tgt := 14) (pc := 10) C dJ0_coder_7d493_10 rfl ?_
  exact b_zret (pc := 14) C Rt dJ0_coder_7d493_14 rfl rfl
set_option maxHeartbeats 4000000 in
theorem e_strlat {l : Launch} {G : bG} {SH : bShp} {ρ : Nat → Nat} {A : Nat → Prop} (d k : Nat) (hk : k < bnS) (σ : bSto) : bEv l G SH ρ A yJ0_isLatin1_aae02 cJ0_isLatin1_aae02 1 (some .boolean) d [.ref (1000 + k)] σ (some (.int 1)) σ := by
  refine b_met (by decide +kernel) (Nat.le_of_ble_eq_true rfl) rfl (fun X C Rt h1 h2 h3 => ?_)
  refine b_gcs (pc := 0) C dJ0_isLatin1_aae02_0 ww_J0_38 ?_
  refine b_if_eq (tgt := 17) (pc := 3) C dJ0_isLatin1_aae02_3 rfl (fun h => absurd h (by decide)) (fun _ => ?_)
  refine b_aload_n (pc := 6) C dJ0_isLatin1_aae02_6 rfl 0 rfl ?_
  refine b_scod (pc := 7) C dJ0_isLatin1_aae02_7 ww_J0_15 hk ?_
  refine b_if_ne (tgt := 17) (pc := 10) C dJ0_isLatin1_aae02_10 rfl (fun h => absurd rfl h) (fun _ => ?_)
  refine b_iconst (pc := 13) C dJ0_isLatin1_aae02_13 ic_1 ?_
  refine b_goto (tgt := 18) (pc := 14) C dJ0_isLatin1_aae02_14 rfl ?_
  exact b_zret (pc := 18) C Rt dJ0_isLatin1_aae02_18 rfl rfl
theorem blen_lt : ∀ k, k < bnS → blen k < 2 ^ 31 ∧ ∀ j, j < blen k → (bchr k j &&& 255) = bchr k j ∧ ((bchr k j).toUInt32 % 65536).toInt32 = bchr k j := by decide +kernel
theorem bchr_all : ∀ k, k < bnS → ∀ j, j < blen k → narrow .char (.int (bchr k j)) = .int (bchr k j) := by decide +kernel
set_option maxHeartbeats 4000000 in
theorem e_strlen {l : Launch} {G : bG} {SH : bShp} {ρ : Nat → Nat} {A : Nat → Prop} (d k : Nat) (hk : k < bnS) (σ : bSto) : bEv l G SH ρ A yJ0_length_8abf5 cJ0_length_8abf5 1 (some .int) (d + 1) [.ref (1000 + k)] σ (some (.int (nI (blen k)))) σ := by
  refine b_met (by decide +kernel) (Nat.le_of_ble_eq_true rfl) rfl (fun X C Rt h1 h2 h3 => ?_)
  refine b_aload_n (pc := 0) C dJ0_length_8abf5_0 rfl 0 rfl ?_
  refine b_sval (pc := 1) C dJ0_length_8abf5_1 ww_J0_9 hk ?_
  refine b_slen (pc := 4) C dJ0_length_8abf5_4 hk ?_
  refine b_aload_n (pc := 5) C dJ0_length_8abf5_5 rfl 0 rfl ?_
  refine b_cT0i (d' := d) (pc := 6) C dJ0_length_8abf5_6 mm_J0_335 hk rfl (Nat.le_of_ble_eq_true rfl) (by omega) (h3 _ _ _ _ _ _ _ _ _ (e_strcoder d k hk σ)) ?_
  refine b_ishr (pc := 9) C dJ0_length_8abf5_9 ?_
  refine b_iret (pc := 10) C Rt dJ0_length_8abf5_10 ?_
  have h : nI (blen k) >>> ((0 : Int32) &&& 31) = nI (blen k) := by
    have hz : ((0 : Int32) &&& 31) = 0 := by decide
    rw [hz]
    have := pk_shrN (n := blen k) (blen_lt k hk).1 0 0 (by decide)
    simpa using this
  rw [h]
set_option maxHeartbeats 4000000 in
theorem e_strpre {l : Launch} {G : bG} {SH : bShp} {ρ : Nat → Nat} {A : Nat → Prop} (d : Nat) (i n : Int32) (v : Value) (hv : v = .null ∨ v = .ref 4000) (hi : ¬ i < 0) (hn : i < n) (σ : bSto) : bEv l G SH ρ A yJ3_checkIndex_8e157 cJ3_checkIndex_8e157 3 (some .int) d [.int i, .int n, v] σ (some (.int i)) σ := by
  have hc : v.category = 1 := by rcases hv with rfl | rfl <;> rfl
  refine b_met (by decide +kernel) (by rcases hv with rfl | rfl <;> exact Nat.le_of_ble_eq_true rfl) rfl (fun X C Rt h1 h2 h3 => ?_)
  refine b_iload_n (pc := 0) C dJ3_checkIndex_8e157_0 rfl 0 rfl ?_
  refine b_if_lt (tgt := 9) (pc := 1) C dJ3_checkIndex_8e157_1 rfl (fun h => absurd h hi) (fun _ => ?_)
  refine b_iload_n (pc := 4) C dJ3_checkIndex_8e157_4 rfl 0 rfl ?_
  refine b_iload_n (pc := 5) C dJ3_checkIndex_8e157_5 rfl 1 rfl ?_
  refine b_icmp_lt (tgt := 16) (pc := 6) C dJ3_checkIndex_8e157_6 rfl (fun _ => ?_) (fun h => absurd hn h)
  refine b_iload_n (pc := 16) C dJ3_checkIndex_8e157_16 rfl 0 rfl ?_
  exact b_iret (pc := 17) C Rt dJ3_checkIndex_8e157_17 rfl
set_option maxHeartbeats 4000000 in
theorem e_strck {l : Launch} {G : bG} {SH : bShp} {ρ : Nat → Nat} {A : Nat → Prop} (d : Nat) (i n : Int32) (hi : ¬ i < 0) (hn : i < n) (σ : bSto) : bEv l G SH ρ A yJ0_checkIndex_df160 cJ0_checkIndex_df160 2 none (d + 1) [.int i, .int n] σ none σ := by
  refine b_met (by decide +kernel) (Nat.le_of_ble_eq_true rfl) rfl (fun X C Rt h1 h2 h3 => ?_)
  refine b_iload_n (pc := 0) C dJ0_checkIndex_df160_0 rfl 0 rfl ?_
  refine b_iload_n (pc := 1) C dJ0_checkIndex_df160_1 rfl 1 rfl ?_
  refine b_gfmt (pc := 2) C dJ0_checkIndex_df160_2 ww_J0_1053 ?_ ?_
  · refine b_cS3i (d' := d) (pc := 5) C dJ0_checkIndex_df160_5 mm_J0_1059 (Nat.le_of_ble_eq_true rfl) (by omega) (h3 _ _ _ _ _ _ _ _ _ (e_strpre d i n .null (Or.inl rfl) hi hn σ)) ?_
    refine b_pop (pc := 8) C dJ0_checkIndex_df160_8 rfl ?_
    exact b_vret (pc := 9) C Rt dJ0_checkIndex_df160_9 rfl
  · refine b_cS3i (d' := d) (pc := 5) C dJ0_checkIndex_df160_5 mm_J0_1059 (Nat.le_of_ble_eq_true rfl) (by omega) (h3 _ _ _ _ _ _ _ _ _ (e_strpre d i n (.ref 4000) (Or.inr rfl) hi hn σ)) ?_
    refine b_pop (pc := 8) C dJ0_checkIndex_df160_8 rfl ?_
    exact b_vret (pc := 9) C Rt dJ0_checkIndex_df160_9 rfl
set_option maxHeartbeats 4000000 in
theorem e_strlc {l : Launch} {G : bG} {SH : bShp} {ρ : Nat → Nat} {A : Nat → Prop} (d k : Nat) (hk : k < bnS) (i : Int32) (hb : ¬ (i < 0 ∨ blen k ≤ i.toNatClampNeg)) (σ : bSto) : bEv l G SH ρ A yJ1_charAt_3b067 cJ1_charAt_3b067 2 (some .char) (d + 2) [.ref (2000 + k), .int i] σ (some (.int (bchr k i.toNatClampNeg))) σ := by
  have hl := blen_lt k hk
  have hlt : i.toNatClampNeg < blen k := Nat.not_le.mp fun z => hb (Or.inr z)
  have hn : i < nI (blen k) := by
    obtain ⟨j, hj, rfl⟩ := vp_in_of (x := i) (n := blen k) hb hl.1
    exact nI_lt hj hl.1
  refine b_met (by decide +kernel) (Nat.le_of_ble_eq_true rfl) rfl (fun X C Rt h1 h2 h3 => ?_)
  refine b_iload_n (pc := 0) C dJ1_charAt_3b067_0 rfl 1 rfl ?_
  refine b_aload_n (pc := 1) C dJ1_charAt_3b067_1 rfl 0 rfl ?_
  refine b_slen (pc := 2) C dJ1_charAt_3b067_2 hk ?_
  refine b_cS2v (d' := d + 1) (pc := 3) C dJ1_charAt_3b067_3 mm_J1_9 (Nat.le_of_ble_eq_true rfl) (by omega) (h3 _ _ _ _ _ _ _ _ _ (e_strck d i _ (fun z => hb (Or.inl z)) hn σ)) ?_
  refine b_aload_n (pc := 6) C dJ1_charAt_3b067_6 rfl 0 rfl ?_
  refine b_iload_n (pc := 7) C dJ1_charAt_3b067_7 rfl 1 rfl ?_
  refine b_sald (pc := 8) C dJ1_charAt_3b067_8 hk hb ?_
  refine b_sipush (pc := 9) C dJ1_charAt_3b067_9 sp_255 ?_
  refine b_iand (pc := 12) C dJ1_charAt_3b067_12 ?_
  refine b_i2c (pc := 13) C dJ1_charAt_3b067_13 ?_
  rw [(hl.2 _ hlt).1, (hl.2 _ hlt).2]
  exact b_zret (pc := 14) C Rt dJ1_charAt_3b067_14 (bchr_all k hk _ hlt) rfl
set_option maxHeartbeats 4000000 in
theorem e_strchr {l : Launch} {G : bG} {SH : bShp} {ρ : Nat → Nat} {A : Nat → Prop} (d k : Nat) (hk : k < bnS) (i : Int32) (σ : bSto) (hb : ¬ (i < 0 ∨ blen k ≤ i.toNatClampNeg)) : bEv l G SH ρ A yJ0_charAt_5068e cJ0_charAt_5068e 2 (some .char) (d + 4) [.ref (1000 + k), .int i] σ (some (.int (bchr k i.toNatClampNeg))) σ := by
  have hlt : i.toNatClampNeg < blen k := Nat.not_le.mp fun z => hb (Or.inr z)
  refine b_met (by decide +kernel) (Nat.le_of_ble_eq_true rfl) rfl (fun X C Rt h1 h2 h3 => ?_)
  refine b_aload_n (pc := 0) C dJ0_charAt_5068e_0 rfl 0 rfl ?_
  refine b_cT0i (d' := d) (pc := 1) C dJ0_charAt_5068e_1 mm_J0_492 hk rfl (Nat.le_of_ble_eq_true rfl) (by omega) (h3 _ _ _ _ _ _ _ _ _ (e_strlat d k hk σ)) ?_
  refine b_if_eq (tgt := 16) (pc := 4) C dJ0_charAt_5068e_4 rfl (fun h => absurd h (by decide)) (fun _ => ?_)
  refine b_aload_n (pc := 7) C dJ0_charAt_5068e_7 rfl 0 rfl ?_
  refine b_sval (pc := 8) C dJ0_charAt_5068e_8 ww_J0_9 hk ?_
  refine b_iload_n (pc := 11) C dJ0_charAt_5068e_11 rfl 1 rfl ?_
  refine b_cS2i (d' := d + 2) (pc := 12) C dJ0_charAt_5068e_12 mm_J0_495 (Nat.le_of_ble_eq_true rfl) (by omega) (h3 _ _ _ _ _ _ _ _ _ (e_strlc d k hk i hb σ)) ?_
  exact b_zret (pc := 15) C Rt dJ0_charAt_5068e_15 (bchr_all k hk _ hlt) rfl
