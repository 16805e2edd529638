/-! ===== the law: its loop (own work, printed by wip/whole/gen/law.py) ===== -/
theorem and63 (y : Int32) : ∃ m, m < 64 ∧ y &&& (63 : Int32) = nI m := by
  refine ⟨y.toBitVec.toNat % 64, Nat.mod_lt _ (by decide), ?_⟩
  apply Int32.toBitVec_inj.mp
  apply BitVec.eq_of_toNat_eq
  have h1 : (y &&& (63 : Int32)).toBitVec.toNat = y.toBitVec.toNat &&& 63 := by
    rw [Int32.toBitVec_and, BitVec.toNat_and]; rfl
  have h2 : ∀ k : Fin 64, (nI k.1).toBitVec.toNat = k.1 := by decide +kernel
  rw [h1, h2 ⟨y.toBitVec.toNat % 64, Nat.mod_lt _ (by decide)⟩, show (63 : Nat) = 2 ^ 6 - 1 from rfl, Nat.and_two_pow_sub_one_eq_mod]
theorem lt6 {i L : Nat} (hi : i ≤ 3072) (hL : L ≤ 3072) (h : ¬ nI L - (6 : Int32) < nI i) : i + 6 ≤ L := by
  apply Nat.not_lt.mp
  intro z
  apply h
  by_cases h6 : 6 ≤ L
  · have e : nI L - (6 : Int32) = nI (L - 6) := by
      have e2 : nI (L - 6) + nI 6 = nI L := by rw [q_add, Nat.sub_add_cancel h6]
      rw [← e2]
      show nI (L - 6) + nI 6 - nI 6 = _
      exact Int32.add_sub_cancel _ _
    rw [e, q_lt (by omega) (by omega)]
    omega
  · have hh : ∀ k : Fin 6, (nI k.1 - (6 : Int32)).toInt < 0 := by decide +kernel
    apply Int32.lt_iff_toInt_lt.mpr
    rw [nI_toInt (by omega)]
    have := hh ⟨L, by omega⟩
    have e : (nI (⟨L, by omega⟩ : Fin 6).1 - (6 : Int32)).toInt = (nI L - 6).toInt := rfl
    rw [e] at this
    omega
set_option maxHeartbeats 4000000 in
set_option maxRecDepth 20000 in
theorem law_loop {l : Launch} {G : bG} {ρ : Nat → Nat} {A : Nat → Prop} {L : Nat} {xs : Nat → Int32} (X : Nat → bX) (C : ∀ j, j ≤ 512 → bCX (X j) cL_law RL 800) (Hh : ∀ j, j ≤ 512 → bH (X j) l G bSHf ρ A 7) (hX : ∀ j, j ≤ 512 → bSX (X j) 500 L xs) (hL : L ≤ 3072) (KE : ∀ j, j ≤ 512 → ∀ σ Lo, bAJ (X j) 1564 Lo [] σ) (K48 : ∀ i j σ, j < 512 → i + 6 ≤ L → INV σ → (∀ σ2, INV σ2 → bAJ (X (j + 1)) 1558 [(0, .ref 500), (1, .ref 0), (2, .ref 92), (3, .ref 110), (4, .int (nI i))] [] σ2) → bAJ (X j) 1464 [(0, .ref 500), (1, .ref 0), (2, .ref 92), (3, .ref 110), (4, .int (nI i))] [] σ) : ∀ n i j σ, L < i + n → 6 * j ≤ i → i ≤ L → INV σ → bAJ (X j) 23 [(0, .ref 500), (1, .ref 0), (2, .ref 92), (3, .ref 110), (4, .int (nI i))] [] σ := by
  intro n
  induction n with
  | zero => intro i j σ h1 h2 h3; omega
  | succ n ih =>
    intro i j σ h1 h2 h3 hI
    have hj : j ≤ 512 := by omega
    have Cj := C j hj
    refine b_iload (pc := 23) Cj dL_law_23 4 rfl ?_
    refine b_aload_n (pc := 25) Cj dL_law_25 rfl 0 rfl ?_
    refine b_slenL (pc := 26) Cj dL_law_26 (hX j hj) ?_
    refine b_bipush (pc := 27) Cj dL_law_27 (show (Int8.ofInt 6).toInt32 = (6 : Int32) by decide) ?_
    refine b_isub (pc := 29) Cj dL_law_29 ?_
    refine b_icmp_gt (tgt := 1564) (pc := 30) Cj dL_law_30 rfl (fun _ => KE j hj _ _) (fun hc => ?_)
    have hi : i + 6 ≤ L := lt6 (by omega) hL hc
    have back : ∀ j', 6 * j' ≤ i + 6 → ∀ σ2, INV σ2 → bAJ (X j') 1558 [(0, .ref 500), (1, .ref 0), (2, .ref 92), (3, .ref 110), (4, .int (nI i))] [] σ2 := fun j' hj' σ2 hI2 => by
      have Cj' := C j' (by omega)
      refine b_iinc (L' := [(4, .int (nI (i + 6))), (0, .ref 500), (1, .ref 0), (2, .ref 92), (3, .ref 110)]) (pc := 1558) Cj' dL_law_1558 4 rfl (show Int32.ofInt 6 = (6 : Int32) by decide) (q_add i 6).symm ((Hh j' (by omega)).2.1 _ (Nat.le_of_ble_eq_true rfl)) rfl ?_
      refine b_goto (tgt := 23) (pc := 1561) Cj' dL_law_1561 rfl ?_
      exact b_sub [1, 2, 3, 4, 0] rfl (ih (i + 6) j' σ2 (by omega) hj' hi hI2)
    have K := back j (by omega)
    have Hj := Hh j hj
    have Xj := hX j hj
    refine b_aload_n (pc := 33) Cj dL_law_33 rfl 0 rfl ?_
    refine b_iload (pc := 34) Cj dL_law_34 4 rfl ?_
    refine b_sldL (pc := 36) Cj dL_law_36 Xj hL rfl (by omega) ?_
    refine b_bipush (pc := 37) Cj dL_law_37 (show (Int8.ofInt 63).toInt32 = (63 : Int32) by decide) ?_
    refine b_iand (pc := 39) Cj dL_law_39 ?_
    obtain ⟨m, hm, em⟩ := and63 (xs i)
    rcases (show m = 0 ∨ m = 1 ∨ m = 2 ∨ m = 3 ∨ m = 4 ∨ m = 5 ∨ m = 6 ∨ m = 7 ∨ m = 8 ∨ m = 9 ∨ m = 10 ∨ m = 11 ∨ m = 12 ∨ m = 13 ∨ m = 14 ∨ m = 15 ∨ m = 16 ∨ m = 17 ∨ m = 18 ∨ m = 19 ∨ m = 20 ∨ m = 21 ∨ m = 22 ∨ m = 23 ∨ m = 24 ∨ m = 25 ∨ m = 26 ∨ m = 27 ∨ m = 28 ∨ m = 29 ∨ m = 30 ∨ m = 31 ∨ m = 32 ∨ m = 33 ∨ m = 34 ∨ m = 35 ∨ m = 36 ∨ m = 37 ∨ m = 38 ∨ m = 39 ∨ m = 40 ∨ m = 41 ∨ m = 42 ∨ m = 43 ∨ m = 44 ∨ m = 45 ∨ m = 46 ∨ m = 47 ∨ m = 48 ∨ m = 49 ∨ m = 50 ∨ 51 ≤ m by omega) with rfl | rfl | rfl | rfl | rfl | rfl | rfl | rfl | rfl | rfl | rfl | rfl | rfl | rfl | rfl | rfl | rfl | rfl | rfl | rfl | rfl | rfl | rfl | rfl | rfl | rfl | rfl | rfl | rfl | rfl | rfl | rfl | rfl | rfl | rfl | rfl | rfl | rfl | rfl | rfl | rfl | rfl | rfl | rfl | rfl | rfl | rfl | rfl | rfl | rfl | rfl | h51
    · exact b_tabIn (tgt := 260) (pc := 40) Cj dL_law_40 em (kI := 0) (by decide) (by decide) (by decide) rfl rfl (q_law_0 Cj Hj Xj hL hi hI K)
    · exact b_tabIn (tgt := 333) (pc := 40) Cj dL_law_40 em (kI := 1) (by decide) (by decide) (by decide) rfl rfl (q_law_1 Cj Hj Xj hL hi hI K)
    · exact b_tabIn (tgt := 358) (pc := 40) Cj dL_law_40 em (kI := 2) (by decide) (by decide) (by decide) rfl rfl (q_law_2 Cj Hj Xj hL hi hI K)
    · exact b_tabIn (tgt := 371) (pc := 40) Cj dL_law_40 em (kI := 3) (by decide) (by decide) (by decide) rfl rfl (q_law_3 Cj Hj Xj hL hi hI K)
    · exact b_tabIn (tgt := 384) (pc := 40) Cj dL_law_40 em (kI := 4) (by decide) (by decide) (by decide) rfl rfl (q_law_4 Cj Hj Xj hL hi hI K)
    · exact b_tabIn (tgt := 421) (pc := 40) Cj dL_law_40 em (kI := 5) (by decide) (by decide) (by decide) rfl rfl (q_law_5 Cj Hj Xj hL hi hI K)
    · exact b_tabIn (tgt := 458) (pc := 40) Cj dL_law_40 em (kI := 6) (by decide) (by decide) (by decide) rfl rfl (q_law_6 Cj Hj Xj hL hi hI K)
    · exact b_tabIn (tgt := 495) (pc := 40) Cj dL_law_40 em (kI := 7) (by decide) (by decide) (by decide) rfl rfl (q_law_7 Cj Hj Xj hL hi hI K)
    · exact b_tabIn (tgt := 508) (pc := 40) Cj dL_law_40 em (kI := 8) (by decide) (by decide) (by decide) rfl rfl (q_law_8 Cj Hj Xj hL hi hI K)
    · exact b_tabIn (tgt := 533) (pc := 40) Cj dL_law_40 em (kI := 9) (by decide) (by decide) (by decide) rfl rfl (q_law_9 Cj Hj Xj hL hi hI K)
    · exact b_tabIn (tgt := 546) (pc := 40) Cj dL_law_40 em (kI := 10) (by decide) (by decide) (by decide) rfl rfl (q_law_10 Cj Hj Xj hL hi hI K)
    · exact b_tabIn (tgt := 559) (pc := 40) Cj dL_law_40 em (kI := 11) (by decide) (by decide) (by decide) rfl rfl (q_law_11 Cj Hj Xj hL hi hI K)
    · exact b_tabIn (tgt := 572) (pc := 40) Cj dL_law_40 em (kI := 12) (by decide) (by decide) (by decide) rfl rfl (q_law_12 Cj Hj Xj hL hi hI K)
    · exact b_tabIn (tgt := 597) (pc := 40) Cj dL_law_40 em (kI := 13) (by decide) (by decide) (by decide) rfl rfl (q_law_13 Cj Hj Xj hL hi hI K)
    · exact b_tabIn (tgt := 610) (pc := 40) Cj dL_law_40 em (kI := 14) (by decide) (by decide) (by decide) rfl rfl (q_law_14 Cj Hj Xj hL hi hI K)
    · exact b_tabIn (tgt := 635) (pc := 40) Cj dL_law_40 em (kI := 15) (by decide) (by decide) (by decide) rfl rfl (q_law_15 Cj Hj Xj hL hi hI K)
    · exact b_tabIn (tgt := 648) (pc := 40) Cj dL_law_40 em (kI := 16) (by decide) (by decide) (by decide) rfl rfl (q_law_16 Cj Hj Xj hL hi hI K)
    · exact b_tabIn (tgt := 685) (pc := 40) Cj dL_law_40 em (kI := 17) (by decide) (by decide) (by decide) rfl rfl (q_law_17 Cj Hj Xj hL hi hI K)
    · exact b_tabIn (tgt := 698) (pc := 40) Cj dL_law_40 em (kI := 18) (by decide) (by decide) (by decide) rfl rfl (q_law_18 Cj Hj Xj hL hi hI K)
    · exact b_tabIn (tgt := 723) (pc := 40) Cj dL_law_40 em (kI := 19) (by decide) (by decide) (by decide) rfl rfl (q_law_19 Cj Hj Xj hL hi hI K)
    · exact b_tabIn (tgt := 748) (pc := 40) Cj dL_law_40 em (kI := 20) (by decide) (by decide) (by decide) rfl rfl (q_law_20 Cj Hj Xj hL hi hI K)
    · exact b_tabIn (tgt := 761) (pc := 40) Cj dL_law_40 em (kI := 21) (by decide) (by decide) (by decide) rfl rfl (q_law_21 Cj Hj Xj hL hi hI K)
    · exact b_tabIn (tgt := 798) (pc := 40) Cj dL_law_40 em (kI := 22) (by decide) (by decide) (by decide) rfl rfl (q_law_22 Cj Hj Xj hL hi hI K)
    · exact b_tabIn (tgt := 823) (pc := 40) Cj dL_law_40 em (kI := 23) (by decide) (by decide) (by decide) rfl rfl (q_law_23 Cj Hj Xj hL hi hI K)
    · exact b_tabIn (tgt := 836) (pc := 40) Cj dL_law_40 em (kI := 24) (by decide) (by decide) (by decide) rfl rfl (q_law_24 Cj Hj Xj hL hi hI K)
    · exact b_tabIn (tgt := 861) (pc := 40) Cj dL_law_40 em (kI := 25) (by decide) (by decide) (by decide) rfl rfl (q_law_25 Cj Hj Xj hL hi hI K)
    · exact b_tabIn (tgt := 886) (pc := 40) Cj dL_law_40 em (kI := 26) (by decide) (by decide) (by decide) rfl rfl (q_law_26 Cj Hj Xj hL hi hI K)
    · exact b_tabIn (tgt := 911) (pc := 40) Cj dL_law_40 em (kI := 27) (by decide) (by decide) (by decide) rfl rfl (q_law_27 Cj Hj Xj hL hi hI K)
    · exact b_tabIn (tgt := 924) (pc := 40) Cj dL_law_40 em (kI := 28) (by decide) (by decide) (by decide) rfl rfl (q_law_28 Cj Hj Xj hL hi hI K)
    · exact b_tabIn (tgt := 937) (pc := 40) Cj dL_law_40 em (kI := 29) (by decide) (by decide) (by decide) rfl rfl (q_law_29 Cj Hj Xj hL hi hI K)
    · exact b_tabIn (tgt := 962) (pc := 40) Cj dL_law_40 em (kI := 30) (by decide) (by decide) (by decide) rfl rfl (q_law_30 Cj Hj Xj hL hi hI K)
    · exact b_tabIn (tgt := 987) (pc := 40) Cj dL_law_40 em (kI := 31) (by decide) (by decide) (by decide) rfl rfl (q_law_31 Cj Hj Xj hL hi hI K)
    · exact b_tabIn (tgt := 1000) (pc := 40) Cj dL_law_40 em (kI := 32) (by decide) (by decide) (by decide) rfl rfl (q_law_32 Cj Hj Xj hL hi hI K)
    · exact b_tabIn (tgt := 1013) (pc := 40) Cj dL_law_40 em (kI := 33) (by decide) (by decide) (by decide) rfl rfl (q_law_33 Cj Hj Xj hL hi hI K)
    · exact b_tabIn (tgt := 1026) (pc := 40) Cj dL_law_40 em (kI := 34) (by decide) (by decide) (by decide) rfl rfl (q_law_34 Cj Hj Xj hL hi hI K)
    · exact b_tabIn (tgt := 1103) (pc := 40) Cj dL_law_40 em (kI := 35) (by decide) (by decide) (by decide) rfl rfl (q_law_35 Cj Hj Xj hL hi hI K)
    · exact b_tabIn (tgt := 1128) (pc := 40) Cj dL_law_40 em (kI := 36) (by decide) (by decide) (by decide) rfl rfl (q_law_36 Cj Hj Xj hL hi hI K)
    · exact b_tabIn (tgt := 1153) (pc := 40) Cj dL_law_40 em (kI := 37) (by decide) (by decide) (by decide) rfl rfl (q_law_37 Cj Hj Xj hL hi hI K)
    · exact b_tabIn (tgt := 1190) (pc := 40) Cj dL_law_40 em (kI := 38) (by decide) (by decide) (by decide) rfl rfl (q_law_38 Cj Hj Xj hL hi hI K)
    · exact b_tabIn (tgt := 1239) (pc := 40) Cj dL_law_40 em (kI := 39) (by decide) (by decide) (by decide) rfl rfl (q_law_39 Cj Hj Xj hL hi hI K)
    · exact b_tabIn (tgt := 1288) (pc := 40) Cj dL_law_40 em (kI := 40) (by decide) (by decide) (by decide) rfl rfl (q_law_40 Cj Hj Xj hL hi hI K)
    · exact b_tabIn (tgt := 1325) (pc := 40) Cj dL_law_40 em (kI := 41) (by decide) (by decide) (by decide) rfl rfl (q_law_41 Cj Hj Xj hL hi hI K)
    · exact b_tabIn (tgt := 1350) (pc := 40) Cj dL_law_40 em (kI := 42) (by decide) (by decide) (by decide) rfl rfl (q_law_42 Cj Hj Xj hL hi hI K)
    · exact b_tabIn (tgt := 1387) (pc := 40) Cj dL_law_40 em (kI := 43) (by decide) (by decide) (by decide) rfl rfl (q_law_43 Cj Hj Xj hL hi hI K)
    · exact b_tabIn (tgt := 1400) (pc := 40) Cj dL_law_40 em (kI := 44) (by decide) (by decide) (by decide) rfl rfl (q_law_44 Cj Hj Xj hL hi hI K)
    · exact b_tabIn (tgt := 1413) (pc := 40) Cj dL_law_40 em (kI := 45) (by decide) (by decide) (by decide) rfl rfl (q_law_45 Cj Hj Xj hL hi hI K)
    · exact b_tabIn (tgt := 1426) (pc := 40) Cj dL_law_40 em (kI := 46) (by decide) (by decide) (by decide) rfl rfl (q_law_46 Cj Hj Xj hL hi hI K)
    · exact b_tabIn (tgt := 1439) (pc := 40) Cj dL_law_40 em (kI := 47) (by decide) (by decide) (by decide) rfl rfl (q_law_47 Cj Hj Xj hL hi hI K)
    · exact b_tabIn (tgt := 1464) (pc := 40) Cj dL_law_40 em (kI := 48) (by decide) (by decide) (by decide) rfl rfl (K48 i j σ (by omega) hi hI (back (j + 1) (by omega)))
    · exact b_tabIn (tgt := 1520) (pc := 40) Cj dL_law_40 em (kI := 49) (by decide) (by decide) (by decide) rfl rfl (q_law_49 Cj Hj Xj hL hi hI K)
    · exact b_tabIn (tgt := 1545) (pc := 40) Cj dL_law_40 em (kI := 50) (by decide) (by decide) (by decide) rfl rfl (q_law_50 Cj Hj Xj hL hi hI K)
    · exact b_tabOut (tgt := 1558) (pc := 40) Cj dL_law_40 (by rw [em, nI_toInt (by omega)]; omega) rfl (K _ hI)
