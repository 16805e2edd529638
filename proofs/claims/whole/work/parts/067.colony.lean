/-! BenchColony.feed -/
def f_X11_feed (x1 : Int32) (x2 : Int32) (x3 : Int32) (x4 : Int32) (x5 : Int32) (σ : bSto) : Option (Int32 × bSto) := (if (σ.1 2 1) ≤ (980 : Int32) then bbv (f_X8_append x1 σ) (fun σ3 => bbv (f_X8_append x2 σ3) (fun σ5 => bbv (f_X8_append x3 σ5) (fun σ7 => bbv (f_X8_append x4 σ7) (fun σ9 => bbv (f_X8_append x5 σ9) (fun σ11 => some ((σ11.1 2 1), σ11)))))) else some ((-1 : Int32), σ))
set_option maxHeartbeats 4000000 in
set_option maxRecDepth 20000 in
theorem e_X11_feed_0 {X : bX} {l : Launch} {G : bG} {ρ : Nat → Nat} {A : Nat → Prop} {d : Nat} {r : Int32} {σ' : bSto} (C : bCX X cX11_feed RX11 (d + 1)) (Hh : bH X l G bSHf ρ A 7) (Rt : bRX X (some .int) (some (.int r)) σ') (x1 : Int32) (x2 : Int32) (x3 : Int32) (x4 : Int32) (x5 : Int32) (σ : bSto) (hF : f_X11_feed x1 x2 x3 x4 x5 σ = some (r, σ')) : bAJ X 0 [(0, .ref 0), (1, .int x1), (2, .int x2), (3, .int x3), (4, .int x4), (5, .int x5)] [] σ := by
  rw [f_X11_feed] at hF
  refine b_aload_n (pc := 0) C dX11_feed_0 rfl 0 rfl ?_
  refine b_getS (pc := 1) C dX11_feed_1 fl_X11_10 (Hh.1 _ _ sh_0) rfl ?_
  refine b_getS (pc := 4) C dX11_feed_4 fl_X11_61 (Hh.1 _ _ sh_1) rfl ?_
  refine b_astore (L' := [(6, .ref 2), (0, .ref 0), (1, .int x1), (2, .int x2), (3, .int x3), (4, .int x4), (5, .int x5)]) (pc := 7) C dX11_feed_7 rfl (Hh.2.1 _ (Nat.le_of_ble_eq_true rfl)) rfl ?_
  refine b_aload (pc := 9) C dX11_feed_9 0 rfl ?_
  refine b_getI (pc := 11) C dX11_feed_11 fl_X11_65 (Hh.1 _ _ sh_2) rfl ?_
  refine b_sipush (pc := 14) C dX11_feed_14 sp_980 ?_
  refine b_icmp_le (tgt := 22) (pc := 17) C dX11_feed_17 rfl (fun hc1 => ?_) (fun hc1 => ?_)
  · rw [if_pos hc1] at hF
    refine b_aload (pc := 22) C dX11_feed_22 0 rfl ?_
    refine b_iload_n (pc := 24) C dX11_feed_24 rfl 2 rfl ?_
    obtain ⟨σ3, hc2, hF⟩ := bbv_e hF
    refine b_cV1v (d' := (d + 0)) (pc := 25) C dX11_feed_25 mm_X11_71 (Hh.1 _ _ sh_2) rfl (Nat.le_of_ble_eq_true rfl) (by omega) (Hh.2.2 _ _ _ _ _ _ _ _ _ (lvl_eq (by omega) (e_X8_append (d + 0) x1 _ _ hc2))) ?_
    refine b_aload (pc := 28) C dX11_feed_28 0 rfl ?_
    refine b_iload_n (pc := 30) C dX11_feed_30 rfl 3 rfl ?_
    obtain ⟨σ5, hc4, hF⟩ := bbv_e hF
    refine b_cV1v (d' := (d + 0)) (pc := 31) C dX11_feed_31 mm_X11_71 (Hh.1 _ _ sh_2) rfl (Nat.le_of_ble_eq_true rfl) (by omega) (Hh.2.2 _ _ _ _ _ _ _ _ _ (lvl_eq (by omega) (e_X8_append (d + 0) x2 _ _ hc4))) ?_
    refine b_aload (pc := 34) C dX11_feed_34 0 rfl ?_
    refine b_iload_n (pc := 36) C dX11_feed_36 rfl 4 rfl ?_
    obtain ⟨σ7, hc6, hF⟩ := bbv_e hF
    refine b_cV1v (d' := (d + 0)) (pc := 37) C dX11_feed_37 mm_X11_71 (Hh.1 _ _ sh_2) rfl (Nat.le_of_ble_eq_true rfl) (by omega) (Hh.2.2 _ _ _ _ _ _ _ _ _ (lvl_eq (by omega) (e_X8_append (d + 0) x3 _ _ hc6))) ?_
    refine b_aload (pc := 40) C dX11_feed_40 0 rfl ?_
    refine b_iload (pc := 42) C dX11_feed_42 5 rfl ?_
    obtain ⟨σ9, hc8, hF⟩ := bbv_e hF
    refine b_cV1v (d' := (d + 0)) (pc := 44) C dX11_feed_44 mm_X11_71 (Hh.1 _ _ sh_2) rfl (Nat.le_of_ble_eq_true rfl) (by omega) (Hh.2.2 _ _ _ _ _ _ _ _ _ (lvl_eq (by omega) (e_X8_append (d + 0) x4 _ _ hc8))) ?_
    refine b_aload (pc := 47) C dX11_feed_47 0 rfl ?_
    refine b_iload (pc := 49) C dX11_feed_49 6 rfl ?_
    obtain ⟨σ11, hc10, hF⟩ := bbv_e hF
    refine b_cV1v (d' := (d + 0)) (pc := 51) C dX11_feed_51 mm_X11_71 (Hh.1 _ _ sh_2) rfl (Nat.le_of_ble_eq_true rfl) (by omega) (Hh.2.2 _ _ _ _ _ _ _ _ _ (lvl_eq (by omega) (e_X8_append (d + 0) x5 _ _ hc10))) ?_
    refine b_aload (pc := 54) C dX11_feed_54 0 rfl ?_
    refine b_getI (pc := 56) C dX11_feed_56 fl_X11_65 (Hh.1 _ _ sh_2) rfl ?_
    exact b_iret (pc := 59) C Rt dX11_feed_59 hF
  · rw [if_neg hc1] at hF
    refine b_iconst (pc := 20) C dX11_feed_20 ic_m1 ?_
    exact b_iret (pc := 21) C Rt dX11_feed_21 hF
set_option maxHeartbeats 4000000 in
set_option maxRecDepth 20000 in
theorem e_X11_feed {l : Launch} {G : bG} {ρ : Nat → Nat} {A : Nat → Prop} (d : Nat) (x1 : Int32) (x2 : Int32) (x3 : Int32) (x4 : Int32) (x5 : Int32) (σ : bSto) (r : Int32) (σ' : bSto) (hF : f_X11_feed x1 x2 x3 x4 x5 σ = some (r, σ')) : bEv l G bSHf ρ A yX11_feed cX11_feed 7 (some .int) (d + 1) [.ref 0, .int x1, .int x2, .int x3, .int x4, .int x5] σ (some (.int r)) σ' := b_met (d := d + 1) (by decide +kernel) (Nat.le_of_ble_eq_true rfl) rfl (fun X C Rt h1 h2 h3 => e_X11_feed_0 C ⟨fun o q h => by rw [h1]; exact h, fun i h => by rw [h2]; exact h, h3⟩ Rt _ _ _ _ _ _ hF)
/-! BenchColony.answered -/
def f_X11_answered (x1 : Int32) (σ : bSto) : Option (Int32 × bSto) := blet (bI σ 0 8 (0 : Int32)) (fun σ1 => some (x1, σ1))
set_option maxHeartbeats 4000000 in
set_option maxRecDepth 20000 in
theorem e_X11_answered_0 {X : bX} {l : Launch} {G : bG} {ρ : Nat → Nat} {A : Nat → Prop} {d : Nat} {r : Int32} {σ' : bSto} (C : bCX X cX11_answered RX11 (d + 0)) (Hh : bH X l G bSHf ρ A 2) (Rt : bRX X (some .int) (some (.int r)) σ') (x1 : Int32) (σ : bSto) (hF : f_X11_answered x1 σ = some (r, σ')) : bAJ X 0 [(0, .ref 0), (1, .int x1)] [] σ := by
  rw [f_X11_answered] at hF
  refine b_aload_n (pc := 0) C dX11_answered_0 rfl 0 rfl ?_
  refine b_iconst (pc := 1) C dX11_answered_1 ic_0 ?_
  obtain ⟨σ1, e2, hF⟩ := blet_e hF
  refine b_putI (pc := 2) C dX11_answered_2 fp_X11_127 (Hh.1 _ _ sh_0) rfl rfl rfl e2 ?_
  refine b_iload_n (pc := 5) C dX11_answered_5 rfl 1 rfl ?_
  exact b_iret (pc := 6) C Rt dX11_answered_6 hF
set_option maxHeartbeats 4000000 in
set_option maxRecDepth 20000 in
theorem e_X11_answered {l : Launch} {G : bG} {ρ : Nat → Nat} {A : Nat → Prop} (d : Nat) (x1 : Int32) (σ : bSto) (r : Int32) (σ' : bSto) (hF : f_X11_answered x1 σ = some (r, σ')) : bEv l G bSHf ρ A yX11_answered cX11_answered 2 (some .int) (d + 0) [.ref 0, .int x1] σ (some (.int r)) σ' := b_met (d := d + 0) (by decide +kernel) (Nat.le_of_ble_eq_true rfl) rfl (fun X C Rt h1 h2 h3 => e_X11_answered_0 C ⟨fun o q h => by rw [h1]; exact h, fun i h => by rw [h2]; exact h, h3⟩ Rt _ _ hF)
/-! BenchColony.refusedWith -/
def f_X11_refusedWith (x1 : Int32) (x2 : Int32) (σ : bSto) : Option (Int32 × bSto) := blet (bI σ 0 8 x1) (fun σ1 => some (x2, σ1))
set_option maxHeartbeats 4000000 in
set_option maxRecDepth 20000 in
theorem e_X11_refusedWith_0 {X : bX} {l : Launch} {G : bG} {ρ : Nat → Nat} {A : Nat → Prop} {d : Nat} {r : Int32} {σ' : bSto} (C : bCX X cX11_refusedWith RX11 (d + 0)) (Hh : bH X l G bSHf ρ A 3) (Rt : bRX X (some .int) (some (.int r)) σ') (x1 : Int32) (x2 : Int32) (σ : bSto) (hF : f_X11_refusedWith x1 x2 σ = some (r, σ')) : bAJ X 0 [(0, .ref 0), (1, .int x1), (2, .int x2)] [] σ := by
  rw [f_X11_refusedWith] at hF
  refine b_aload_n (pc := 0) C dX11_refusedWith_0 rfl 0 rfl ?_
  refine b_iload_n (pc := 1) C dX11_refusedWith_1 rfl 1 rfl ?_
  obtain ⟨σ1, e2, hF⟩ := blet_e hF
  refine b_putI (pc := 2) C dX11_refusedWith_2 fp_X11_127 (Hh.1 _ _ sh_0) rfl rfl rfl e2 ?_
  refine b_iload_n (pc := 5) C dX11_refusedWith_5 rfl 2 rfl ?_
  exact b_iret (pc := 6) C Rt dX11_refusedWith_6 hF
set_option maxHeartbeats 4000000 in
set_option maxRecDepth 20000 in
theorem e_X11_refusedWith {l : Launch} {G : bG} {ρ : Nat → Nat} {A : Nat → Prop} (d : Nat) (x1 : Int32) (x2 : Int32) (σ : bSto) (r : Int32) (σ' : bSto) (hF : f_X11_refusedWith x1 x2 σ = some (r, σ')) : bEv l G bSHf ρ A yX11_refusedWith cX11_refusedWith 3 (some .int) (d + 0) [.ref 0, .int x1, .int x2] σ (some (.int r)) σ' := b_met (d := d + 0) (by decide +kernel) (Nat.le_of_ble_eq_true rfl) rfl (fun X C Rt h1 h2 h3 => e_X11_refusedWith_0 C ⟨fun o q h => by rw [h1]; exact h, fun i h => by rw [h2]; exact h, h3⟩ Rt _ _ _ hF)
/-! BenchColony.refused -/
def f_X11_refused (x1 : Int32) (σ : bSto) : Option (Int32 × bSto) := bbd (f_X11_refusedWith x1 (-1 : Int32) σ) (fun v3 σ2 => some (v3, σ2))
set_option maxHeartbeats 4000000 in
set_option maxRecDepth 20000 in
theorem e_X11_refused_0 {X : bX} {l : Launch} {G : bG} {ρ : Nat → Nat} {A : Nat → Prop} {d : Nat} {r : Int32} {σ' : bSto} (C : bCX X cX11_refused RX11 (d + 1)) (Hh : bH X l G bSHf ρ A 2) (Rt : bRX X (some .int) (some (.int r)) σ') (x1 : Int32) (σ : bSto) (hF : f_X11_refused x1 σ = some (r, σ')) : bAJ X 0 [(0, .ref 0), (1, .int x1)] [] σ := by
  rw [f_X11_refused] at hF
  refine b_aload_n (pc := 0) C dX11_refused_0 rfl 0 rfl ?_
  refine b_iload_n (pc := 1) C dX11_refused_1 rfl 1 rfl ?_
  refine b_iconst (pc := 2) C dX11_refused_2 ic_m1 ?_
  obtain ⟨v3, σ2, hc1, hF⟩ := bbd_e hF
  refine b_cV2i (d' := (d + 0)) (pc := 3) C dX11_refused_3 mm_X11_170 (Hh.1 _ _ sh_0) rfl (Nat.le_of_ble_eq_true rfl) (by omega) (Hh.2.2 _ _ _ _ _ _ _ _ _ (lvl_eq (by omega) (e_X11_refusedWith (d + 0) x1 (-1 : Int32) _ _ _ hc1))) ?_
  exact b_iret (pc := 6) C Rt dX11_refused_6 hF
set_option maxHeartbeats 4000000 in
set_option maxRecDepth 20000 in
theorem e_X11_refused {l : Launch} {G : bG} {ρ : Nat → Nat} {A : Nat → Prop} (d : Nat) (x1 : Int32) (σ : bSto) (r : Int32) (σ' : bSto) (hF : f_X11_refused x1 σ = some (r, σ')) : bEv l G bSHf ρ A yX11_refused cX11_refused 2 (some .int) (d + 1) [.ref 0, .int x1] σ (some (.int r)) σ' := b_met (d := d + 1) (by decide +kernel) (Nat.le_of_ble_eq_true rfl) rfl (fun X C Rt h1 h2 h3 => e_X11_refused_0 C ⟨fun o q h => by rw [h1]; exact h, fun i h => by rw [h2]; exact h, h3⟩ Rt _ _ hF)
/-! BenchColony.room -/
def f_X11_room_J18  (σ : bSto) : Option (Int32 × bSto) := bbd (f_X11_refused (2 : Int32) σ) (fun v3 σ2 => some (v3, σ2))
def f_X11_room (x1 : Int32) (σ : bSto) : Option (Int32 × bSto) := (if x1 < 0 then f_X11_room_J18  σ else (if x1 ≤ (σ.1 2 1) then bbd (f_X9_tell x1 σ) (fun v5 σ4 => blet (bI σ4 2 1 (0 : Int32)) (fun σ6 => blet (bI σ6 0 9 (σ6.1 1 5)) (fun σ8 => blet (bI σ8 0 10 (σ8.1 1 6)) (fun σ10 => (if v5 = 0 then bbd (f_X11_refused (4 : Int32) σ10) (fun v33 σ32 => some (v33, σ32)) else if kR (σ10.2.2 0 7) then if kR (σ10.2.2 1 4) then blet (bR σ10 0 7 (σ10.2.2 1 4)) (fun σ15 => blet (bR σ15 1 4 (σ10.2.2 0 7)) (fun σ17 => if kR (σ17.2.2 0 7) then bbv (f_X10_findTrains ((σ17.2.2 0 7) + 15) σ17) (fun σ21 => if kR (σ21.2.2 0 7) then bbv (f_X4_copyFrom 30 ((σ21.2.2 0 7) + 20) σ21) (fun σ24 => bbv (f_X6_forgetAll  σ24) (fun σ26 => if kR (σ26.2.2 0 7) then bbd (f_X11_answered (σ26.1 ((σ26.2.2 0 7) + 1) 5) σ26) (fun v30 σ29 => some (v30, σ29)) else none)) else none) else none)) else none else none))))) else f_X11_room_J18  σ))
set_option maxHeartbeats 4000000 in
set_option maxRecDepth 20000 in
theorem e_X11_room_J18 {X : bX} {l : Launch} {G : bG} {ρ : Nat → Nat} {A : Nat → Prop} {d : Nat} {r : Int32} {σ' : bSto} (C : bCX X cX11_room RX11 (d + 10)) (Hh : bH X l G bSHf ρ A 4) (Rt : bRX X (some .int) (some (.int r)) σ')  (σ : bSto) (hF : f_X11_room_J18  σ = some (r, σ')) : bAJ X 18 [(0, .ref 0)] [] σ := by
  rw [f_X11_room_J18] at hF
  refine b_aload_n (pc := 18) C dX11_room_18 rfl 0 rfl ?_
  refine b_iconst (pc := 19) C dX11_room_19 ic_2 ?_
  obtain ⟨v3, σ2, hc1, hF⟩ := bbd_e hF
  refine b_cV1i (d' := (d + 9)) (pc := 20) C dX11_room_20 mm_X11_75 (Hh.1 _ _ sh_0) rfl (Nat.le_of_ble_eq_true rfl) (by omega) (Hh.2.2 _ _ _ _ _ _ _ _ _ (lvl_eq (by omega) (e_X11_refused (d + 8) (2 : Int32) _ _ _ hc1))) ?_
  exact b_iret (pc := 23) C Rt dX11_room_23 hF
set_option maxHeartbeats 4000000 in
set_option maxRecDepth 20000 in
theorem e_X11_room_0 {X : bX} {l : Launch} {G : bG} {ρ : Nat → Nat} {A : Nat → Prop} {d : Nat} {r : Int32} {σ' : bSto} (C : bCX X cX11_room RX11 (d + 10)) (Hh : bH X l G bSHf ρ A 4) (Rt : bRX X (some .int) (some (.int r)) σ') (x1 : Int32) (σ : bSto) (hF : f_X11_room x1 σ = some (r, σ')) : bAJ X 0 [(0, .ref 0), (1, .int x1)] [] σ := by
  rw [f_X11_room] at hF
  refine b_iload_n (pc := 0) C dX11_room_0 rfl 1 rfl ?_
  refine b_if_lt (tgt := 18) (pc := 1) C dX11_room_1 rfl (fun hc1 => ?_) (fun hc1 => ?_)
  · rw [if_pos hc1] at hF
    exact b_sub [0] rfl (e_X11_room_J18 C Hh Rt  _ hF)
  · rw [if_neg hc1] at hF
    refine b_iload_n (pc := 4) C dX11_room_4 rfl 1 rfl ?_
    refine b_aload_n (pc := 5) C dX11_room_5 rfl 0 rfl ?_
    refine b_getS (pc := 6) C dX11_room_6 fl_X11_10 (Hh.1 _ _ sh_0) rfl ?_
    refine b_getS (pc := 9) C dX11_room_9 fl_X11_61 (Hh.1 _ _ sh_1) rfl ?_
    refine b_getI (pc := 12) C dX11_room_12 fl_X11_65 (Hh.1 _ _ sh_2) rfl ?_
    refine b_icmp_le (tgt := 24) (pc := 15) C dX11_room_15 rfl (fun hc2 => ?_) (fun hc2 => ?_)
    · rw [if_pos hc2] at hF
      refine b_aload_n (pc := 24) C dX11_room_24 rfl 0 rfl ?_
      refine b_getS (pc := 25) C dX11_room_25 fl_X11_10 (Hh.1 _ _ sh_0) rfl ?_
      refine b_iload_n (pc := 28) C dX11_room_28 rfl 1 rfl ?_
      obtain ⟨v5, σ4, hc3, hF⟩ := bbd_e hF
      refine b_cV1i (d' := (d + 9)) (pc := 29) C dX11_room_29 mm_X11_79 (Hh.1 _ _ sh_1) rfl (Nat.le_of_ble_eq_true rfl) (by omega) (Hh.2.2 _ _ _ _ _ _ _ _ _ (lvl_eq (by omega) (e_X9_tell (d + 0) x1 _ _ _ hc3))) ?_
      refine b_istore_n (L' := [(2, .int v5), (0, .ref 0), (1, .int x1)]) (pc := 32) C dX11_room_32 rfl rfl (Hh.2.1 _ (Nat.le_of_ble_eq_true rfl)) rfl ?_
      refine b_aload_n (pc := 33) C dX11_room_33 rfl 1 rfl ?_
      refine b_getS (pc := 34) C dX11_room_34 fl_X11_10 (Hh.1 _ _ sh_0) rfl ?_
      refine b_getS (pc := 37) C dX11_room_37 fl_X11_61 (Hh.1 _ _ sh_1) rfl ?_
      refine b_iconst (pc := 40) C dX11_room_40 ic_0 ?_
      obtain ⟨σ6, e7, hF⟩ := blet_e hF
      refine b_putI (pc := 41) C dX11_room_41 fp_X11_65 (Hh.1 _ _ sh_2) rfl rfl rfl e7 ?_
      refine b_aload_n (pc := 44) C dX11_room_44 rfl 1 rfl ?_
      refine b_aload_n (pc := 45) C dX11_room_45 rfl 1 rfl ?_
      refine b_getS (pc := 46) C dX11_room_46 fl_X11_10 (Hh.1 _ _ sh_0) rfl ?_
      refine b_getI (pc := 49) C dX11_room_49 fl_X11_83 (Hh.1 _ _ sh_1) rfl ?_
      obtain ⟨σ8, e9, hF⟩ := blet_e hF
      refine b_putI (pc := 52) C dX11_room_52 fp_X11_86 (Hh.1 _ _ sh_0) rfl rfl rfl e9 ?_
      refine b_aload_n (pc := 55) C dX11_room_55 rfl 1 rfl ?_
      refine b_aload_n (pc := 56) C dX11_room_56 rfl 1 rfl ?_
      refine b_getS (pc := 57) C dX11_room_57 fl_X11_10 (Hh.1 _ _ sh_0) rfl ?_
      refine b_getI (pc := 60) C dX11_room_60 fl_X11_89 (Hh.1 _ _ sh_1) rfl ?_
      obtain ⟨σ10, e11, hF⟩ := blet_e hF
      refine b_putI (pc := 63) C dX11_room_63 fp_X11_92 (Hh.1 _ _ sh_0) rfl rfl rfl e11 ?_
      refine b_iload_n (pc := 66) C dX11_room_66 rfl 0 rfl ?_
      refine b_if_ne (tgt := 76) (pc := 67) C dX11_room_67 rfl (fun hc12 => ?_) (fun hc12 => ?_)
      · rw [if_neg hc12] at hF
        refine b_aload_n (pc := 76) C dX11_room_76 rfl 1 rfl ?_
        obtain ⟨hk13, hF⟩ := bif_y hF
        refine b_getR (pc := 77) C dX11_room_77 fl_X11_57 (Hh.1 _ _ sh_0) rfl ?_
        refine b_astore_n (L' := [(3, .ref (σ10.2.2 0 7)), (2, .int v5), (0, .ref 0), (1, .int x1)]) (pc := 80) C dX11_room_80 rfl rfl (Hh.2.1 _ (Nat.le_of_ble_eq_true rfl)) rfl ?_
        refine b_aload_n (pc := 81) C dX11_room_81 rfl 2 rfl ?_
        refine b_aload_n (pc := 82) C dX11_room_82 rfl 2 rfl ?_
        refine b_getS (pc := 83) C dX11_room_83 fl_X11_10 (Hh.1 _ _ sh_0) rfl ?_
        obtain ⟨hk14, hF⟩ := bif_y hF
        refine b_getR (pc := 86) C dX11_room_86 fl_X11_93 (Hh.1 _ _ sh_1) rfl ?_
        obtain ⟨σ15, e16, hF⟩ := blet_e hF
        refine b_putR (pc := 89) C dX11_room_89 fp_X11_57 (Hh.1 _ _ sh_0) rfl e16 ?_
        refine b_aload_n (pc := 92) C dX11_room_92 rfl 2 rfl ?_
        refine b_getS (pc := 93) C dX11_room_93 fl_X11_10 (Hh.1 _ _ sh_0) rfl ?_
        refine b_aload_n (pc := 96) C dX11_room_96 rfl 0 rfl ?_
        obtain ⟨σ17, e18, hF⟩ := blet_e hF
        refine b_putR (pc := 97) C dX11_room_97 fp_X11_93 (Hh.1 _ _ sh_1) rfl e18 ?_
        refine b_aload_n (pc := 100) C dX11_room_100 rfl 2 rfl ?_
        obtain ⟨hk19, hF⟩ := bif_y hF
        refine b_getR (pc := 101) C dX11_room_101 fl_X11_57 (Hh.1 _ _ sh_0) rfl ?_
        refine b_getS (pc := 104) C dX11_room_104 fl_X11_96 (Hh.1 _ _ (shR hk19)) rfl ?_
        obtain ⟨σ21, hc20, hF⟩ := bbv_e hF
        refine b_cV0v (d' := (d + 9)) (pc := 107) C dX11_room_107 mm_X11_100 (Hh.1 _ _ (shT (kk_7_2 hk19))) rfl (Nat.le_of_ble_eq_true rfl) (by omega) (Hh.2.2 _ _ _ _ _ _ _ _ _ (lvl_eq (by omega) (e_X10_findTrains (d + 8) _ (kk_7_2 hk19) _ _ hc20))) ?_
        refine b_aload_n (pc := 110) C dX11_room_110 rfl 2 rfl ?_
        refine b_getS (pc := 111) C dX11_room_111 fl_X11_19 (Hh.1 _ _ sh_0) rfl ?_
        refine b_aload_n (pc := 114) C dX11_room_114 rfl 2 rfl ?_
        obtain ⟨hk22, hF⟩ := bif_y hF
        refine b_getR (pc := 115) C dX11_room_115 fl_X11_57 (Hh.1 _ _ sh_0) rfl ?_
        refine b_getS (pc := 118) C dX11_room_118 fl_X11_105 (Hh.1 _ _ (shR hk22)) rfl ?_
        obtain ⟨σ24, hc23, hF⟩ := bbv_e hF
        refine b_cV1v (d' := (d + 9)) (pc := 121) C dX11_room_121 mm_X11_108 (Hh.1 _ _ sh_30) rfl (Nat.le_of_ble_eq_true rfl) (by omega) (Hh.2.2 _ _ _ _ _ _ _ _ _ (lvl_eq (by omega) (e_X4_copyFrom (d + 9) _ (by decide) _ (kk_7_3 hk22) _ _ hc23))) ?_
        refine b_aload_n (pc := 124) C dX11_room_124 rfl 2 rfl ?_
        refine b_getS (pc := 125) C dX11_room_125 fl_X11_29 (Hh.1 _ _ sh_0) rfl ?_
        obtain ⟨σ26, hc25, hF⟩ := bbv_e hF
        refine b_cV0v (d' := (d + 9)) (pc := 128) C dX11_room_128 mm_X11_112 (Hh.1 _ _ sh_36) rfl (Nat.le_of_ble_eq_true rfl) (by omega) (Hh.2.2 _ _ _ _ _ _ _ _ _ (lvl_eq (by omega) (e_X6_forgetAll (d + 9)  _ _ hc25))) ?_
        refine b_aload_n (pc := 131) C dX11_room_131 rfl 2 rfl ?_
        refine b_aload_n (pc := 132) C dX11_room_132 rfl 2 rfl ?_
        obtain ⟨hk27, hF⟩ := bif_y hF
        refine b_getR (pc := 133) C dX11_room_133 fl_X11_57 (Hh.1 _ _ sh_0) rfl ?_
        refine b_getS (pc := 136) C dX11_room_136 fl_X11_115 (Hh.1 _ _ (shR hk27)) rfl ?_
        refine b_getI (pc := 139) C dX11_room_139 fl_X11_119 (Hh.1 _ _ (shH (kk_7_0 hk27))) rfl ?_
        obtain ⟨v30, σ29, hc28, hF⟩ := bbd_e hF
        refine b_cV1i (d' := (d + 9)) (pc := 142) C dX11_room_142 mm_X11_124 (Hh.1 _ _ sh_0) rfl (Nat.le_of_ble_eq_true rfl) (by omega) (Hh.2.2 _ _ _ _ _ _ _ _ _ (lvl_eq (by omega) (e_X11_answered (d + 9) (σ26.1 ((σ26.2.2 0 7) + 1) 5) _ _ _ hc28))) ?_
        exact b_iret (pc := 145) C Rt dX11_room_145 hF
      · rw [if_pos hc12] at hF
        refine b_aload_n (pc := 70) C dX11_room_70 rfl 1 rfl ?_
        refine b_iconst (pc := 71) C dX11_room_71 ic_4 ?_
        obtain ⟨v33, σ32, hc31, hF⟩ := bbd_e hF
        refine b_cV1i (d' := (d + 9)) (pc := 72) C dX11_room_72 mm_X11_75 (Hh.1 _ _ sh_0) rfl (Nat.le_of_ble_eq_true rfl) (by omega) (Hh.2.2 _ _ _ _ _ _ _ _ _ (lvl_eq (by omega) (e_X11_refused (d + 8) (4 : Int32) _ _ _ hc31))) ?_
        exact b_iret (pc := 75) C Rt dX11_room_75 hF
    · rw [if_neg hc2] at hF
      exact b_sub [0] rfl (e_X11_room_J18 C Hh Rt  _ hF)
set_option maxHeartbeats 4000000 in
set_option maxRecDepth 20000 in
theorem e_X11_room {l : Launch} {G : bG} {ρ : Nat → Nat} {A : Nat → Prop} (d : Nat) (x1 : Int32) (σ : bSto) (r : Int32) (σ' : bSto) (hF : f_X11_room x1 σ = some (r, σ')) : bEv l G bSHf ρ A yX11_room cX11_room 4 (some .int) (d + 10) [.ref 0, .int x1] σ (some (.int r)) σ' := b_met (d := d + 10) (by decide +kernel) (Nat.le_of_ble_eq_true rfl) rfl (fun X C Rt h1 h2 h3 => e_X11_room_0 C ⟨fun o q h => by rw [h1]; exact h, fun i h => by rw [h2]; exact h, h3⟩ Rt _ _ hF)
/-! BenchColony.fault -/
def f_X11_fault  (σ : bSto) : Option (Int32 × bSto) := some ((σ.1 0 9), σ)
set_option maxHeartbeats 4000000 in
set_option maxRecDepth 20000 in
theorem e_X11_fault_0 {X : bX} {l : Launch} {G : bG} {ρ : Nat → Nat} {A : Nat → Prop} {d : Nat} {r : Int32} {σ' : bSto} (C : bCX X cX11_fault RX11 (d + 0)) (Hh : bH X l G bSHf ρ A 1) (Rt : bRX X (some .int) (some (.int r)) σ')  (σ : bSto) (hF : f_X11_fault  σ = some (r, σ')) : bAJ X 0 [(0, .ref 0)] [] σ := by
  rw [f_X11_fault] at hF
  refine b_aload_n (pc := 0) C dX11_fault_0 rfl 0 rfl ?_
  refine b_getI (pc := 1) C dX11_fault_1 fl_X11_86 (Hh.1 _ _ sh_0) rfl ?_
  exact b_iret (pc := 4) C Rt dX11_fault_4 hF
set_option maxHeartbeats 4000000 in
set_option maxRecDepth 20000 in
theorem e_X11_fault {l : Launch} {G : bG} {ρ : Nat → Nat} {A : Nat → Prop} (d : Nat)  (σ : bSto) (r : Int32) (σ' : bSto) (hF : f_X11_fault  σ = some (r, σ')) : bEv l G bSHf ρ A yX11_fault cX11_fault 1 (some .int) (d + 0) [.ref 0] σ (some (.int r)) σ' := b_met (d := d + 0) (by decide +kernel) (Nat.le_of_ble_eq_true rfl) rfl (fun X C Rt h1 h2 h3 => e_X11_fault_0 C ⟨fun o q h => by rw [h1]; exact h, fun i h => by rw [h2]; exact h, h3⟩ Rt  _ hF)
/-! BenchColony.where -/
def f_X11_where  (σ : bSto) : Option (Int32 × bSto) := (if (σ.1 0 8) = (4 : Int32) then some ((σ.1 0 10), σ) else some ((-1 : Int32), σ))
set_option maxHeartbeats 4000000 in
set_option maxRecDepth 20000 in
theorem e_X11_where_0 {X : bX} {l : Launch} {G : bG} {ρ : Nat → Nat} {A : Nat → Prop} {d : Nat} {r : Int32} {σ' : bSto} (C : bCX X cX11_where RX11 (d + 0)) (Hh : bH X l G bSHf ρ A 1) (Rt : bRX X (some .int) (some (.int r)) σ')  (σ : bSto) (hF : f_X11_where  σ = some (r, σ')) : bAJ X 0 [(0, .ref 0)] [] σ := by
  rw [f_X11_where] at hF
  refine b_aload_n (pc := 0) C dX11_where_0 rfl 0 rfl ?_
  refine b_getI (pc := 1) C dX11_where_1 fl_X11_127 (Hh.1 _ _ sh_0) rfl ?_
  refine b_iconst (pc := 4) C dX11_where_4 ic_4 ?_
  refine b_icmp_ne (tgt := 15) (pc := 5) C dX11_where_5 rfl (fun hc1 => ?_) (fun hc1 => ?_)
  · rw [if_neg hc1] at hF
    refine b_iconst (pc := 15) C dX11_where_15 ic_m1 ?_
    exact b_iret (pc := 16) C Rt dX11_where_16 hF
  · rw [if_pos hc1] at hF
    refine b_aload_n (pc := 8) C dX11_where_8 rfl 0 rfl ?_
    refine b_getI (pc := 9) C dX11_where_9 fl_X11_92 (Hh.1 _ _ sh_0) rfl ?_
    refine b_goto (tgt := 16) (pc := 12) C dX11_where_12 rfl ?_
    exact b_iret (pc := 16) C Rt dX11_where_16 hF
set_option maxHeartbeats 4000000 in
set_option maxRecDepth 20000 in
theorem e_X11_where {l : Launch} {G : bG} {ρ : Nat → Nat} {A : Nat → Prop} (d : Nat)  (σ : bSto) (r : Int32) (σ' : bSto) (hF : f_X11_where  σ = some (r, σ')) : bEv l G bSHf ρ A yX11_where cX11_where 1 (some .int) (d + 0) [.ref 0] σ (some (.int r)) σ' := b_met (d := d + 0) (by decide +kernel) (Nat.le_of_ble_eq_true rfl) rfl (fun X C Rt h1 h2 h3 => e_X11_where_0 C ⟨fun o q h => by rw [h1]; exact h, fun i h => by rw [h2]; exact h, h3⟩ Rt  _ hF)
/-! BenchColony.bench -/
def f_X11_bench_J26  (σ : bSto) : Option (Int32 × bSto) := bbd (f_X11_refused (1 : Int32) σ) (fun v3 σ2 => some (v3, σ2))
def f_X11_bench (x1 : Int32) (x2 : Int32) (σ : bSto) : Option (Int32 × bSto) := if kR (σ.2.2 0 7) then bbd (f_X3_has ((σ.2.2 0 7) + 1) x1 σ) (fun v4 σ3 => (if v4 = 0 then f_X11_bench_J26  σ3 else (if x2 < 0 then f_X11_bench_J26  σ3 else (if x2 ≤ (6 : Int32) then (if x2 = (0 : Int32) then if x1 < 0 ∨ 6 ≤ x1.toNatClampNeg then none else bbd (f_X11_answered (σ3.1 (((σ.2.2 0 7) + 1) + 1) x1.toNatClampNeg) σ3) (fun v12 σ11 => some (v12, σ11)) else (if x2 = (1 : Int32) then if x1 < 0 ∨ 6 ≤ x1.toNatClampNeg then none else if x1 < 0 ∨ 6 ≤ x1.toNatClampNeg then none else bbd (f_X11_answered (((10 : Int32) * (σ3.1 (((σ.2.2 0 7) + 1) + 3) x1.toNatClampNeg)) + (σ3.1 (((σ.2.2 0 7) + 1) + 2) x1.toNatClampNeg)) σ3) (fun v18 σ17 => some (v18, σ17)) else (if x2 = (2 : Int32) then if x1 < 0 ∨ 6 ≤ x1.toNatClampNeg then none else bbd (f_X11_answered (σ3.1 (((σ.2.2 0 7) + 1) + 4) x1.toNatClampNeg) σ3) (fun v23 σ22 => some (v23, σ22)) else (if x2 = (3 : Int32) then if x1 < 0 ∨ 6 ≤ x1.toNatClampNeg then none else bbd (f_X11_answered (σ3.1 (((σ.2.2 0 7) + 1) + 5) x1.toNatClampNeg) σ3) (fun v28 σ27 => some (v28, σ27)) else (if x2 = (4 : Int32) then bbd (f_X3_heatAlone ((σ.2.2 0 7) + 1) x1 (σ3.1 ((σ.2.2 0 7) + 1) 10) σ3) (fun v32 σ31 => bbd (f_X11_answered v32 σ31) (fun v35 σ34 => some (v35, σ34))) else (if x2 = (5 : Int32) then if kR (σ3.2.2 0 7) then bbd (f_X7_warmth (σ3.2.2 0 7) 30 x1 σ3) (fun v40 σ39 => bbd (f_X11_answered v40 σ39) (fun v43 σ42 => some (v43, σ42))) else none else bbd (f_X4_sitters 30 x1 σ3) (fun v46 σ45 => bbd (f_X11_answered v46 σ45) (fun v49 σ48 => some (v49, σ48))))))))) else f_X11_bench_J26  σ3)))) else none
set_option maxHeartbeats 4000000 in
set_option maxRecDepth 20000 in
theorem e_X11_bench_J26 {X : bX} {l : Launch} {G : bG} {ρ : Nat → Nat} {A : Nat → Prop} {d : Nat} {r : Int32} {σ' : bSto} (C : bCX X cX11_bench RX11 (d + 3)) (Hh : bH X l G bSHf ρ A 4) (Rt : bRX X (some .int) (some (.int r)) σ')  (σ : bSto) (hF : f_X11_bench_J26  σ = some (r, σ')) : bAJ X 26 [(0, .ref 0)] [] σ := by
  rw [f_X11_bench_J26] at hF
  refine b_aload_n (pc := 26) C dX11_bench_26 rfl 0 rfl ?_
  refine b_iconst (pc := 27) C dX11_bench_27 ic_1 ?_
  obtain ⟨v3, σ2, hc1, hF⟩ := bbd_e hF
  refine b_cV1i (d' := (d + 2)) (pc := 28) C dX11_bench_28 mm_X11_75 (Hh.1 _ _ sh_0) rfl (Nat.le_of_ble_eq_true rfl) (by omega) (Hh.2.2 _ _ _ _ _ _ _ _ _ (lvl_eq (by omega) (e_X11_refused (d + 1) (1 : Int32) _ _ _ hc1))) ?_
  exact b_iret (pc := 31) C Rt dX11_bench_31 hF
set_option maxHeartbeats 4000000 in
set_option maxRecDepth 20000 in
theorem e_X11_bench_0 {X : bX} {l : Launch} {G : bG} {ρ : Nat → Nat} {A : Nat → Prop} {d : Nat} {r : Int32} {σ' : bSto} (C : bCX X cX11_bench RX11 (d + 3)) (Hh : bH X l G bSHf ρ A 4) (Rt : bRX X (some .int) (some (.int r)) σ') (x1 : Int32) (x2 : Int32) (σ : bSto) (hF : f_X11_bench x1 x2 σ = some (r, σ')) : bAJ X 0 [(0, .ref 0), (1, .int x1), (2, .int x2)] [] σ := by
  rw [f_X11_bench] at hF
  refine b_aload_n (pc := 0) C dX11_bench_0 rfl 0 rfl ?_
  obtain ⟨hk1, hF⟩ := bif_y hF
  refine b_getR (pc := 1) C dX11_bench_1 fl_X11_57 (Hh.1 _ _ sh_0) rfl ?_
  refine b_getS (pc := 4) C dX11_bench_4 fl_X11_115 (Hh.1 _ _ (shR hk1)) rfl ?_
  refine b_astore_n (L' := [(3, .ref ((σ.2.2 0 7) + 1)), (0, .ref 0), (1, .int x1), (2, .int x2)]) (pc := 7) C dX11_bench_7 rfl rfl (Hh.2.1 _ (Nat.le_of_ble_eq_true rfl)) rfl ?_
  refine b_aload_n (pc := 8) C dX11_bench_8 rfl 0 rfl ?_
  refine b_iload_n (pc := 9) C dX11_bench_9 rfl 2 rfl ?_
  obtain ⟨v4, σ3, hc2, hF⟩ := bbd_e hF
  refine b_cV1i (d' := (d + 2)) (pc := 10) C dX11_bench_10 mm_X11_130 (Hh.1 _ _ (shH (kk_7_0 hk1))) rfl (Nat.le_of_ble_eq_true rfl) (by omega) (Hh.2.2 _ _ _ _ _ _ _ _ _ (lvl_eq (by omega) (e_X3_has (d + 2) _ (kk_7_0 hk1) x1 _ _ _ hc2))) ?_
  refine b_if_eq (tgt := 26) (pc := 13) C dX11_bench_13 rfl (fun hc5 => ?_) (fun hc5 => ?_)
  · rw [if_pos hc5] at hF
    exact b_sub [1] rfl (e_X11_bench_J26 C Hh Rt  _ hF)
  · rw [if_neg hc5] at hF
    refine b_iload_n (pc := 16) C dX11_bench_16 rfl 3 rfl ?_
    refine b_if_lt (tgt := 26) (pc := 17) C dX11_bench_17 rfl (fun hc6 => ?_) (fun hc6 => ?_)
    · rw [if_pos hc6] at hF
      exact b_sub [1] rfl (e_X11_bench_J26 C Hh Rt  _ hF)
    · rw [if_neg hc6] at hF
      refine b_iload_n (pc := 20) C dX11_bench_20 rfl 3 rfl ?_
      refine b_bipush (pc := 21) C dX11_bench_21 bp_6 ?_
      refine b_icmp_le (tgt := 32) (pc := 23) C dX11_bench_23 rfl (fun hc7 => ?_) (fun hc7 => ?_)
      · rw [if_pos hc7] at hF
        refine b_iload_n (pc := 32) C dX11_bench_32 rfl 3 rfl ?_
        by_cases hc8 : x2 = (0 : Int32)
        · rw [if_pos hc8] at hF
          refine b_tabIn (tgt := 72) (pc := 33) C dX11_bench_33 hc8 (kI := 0) (by decide) (by decide) (by decide) rfl rfl ?_
          refine b_aload_n (pc := 72) C dX11_bench_72 rfl 1 rfl ?_
          refine b_aload_n (pc := 73) C dX11_bench_73 rfl 0 rfl ?_
          refine b_getS (pc := 74) C dX11_bench_74 fl_X11_133 (Hh.1 _ _ (shH (kk_7_0 hk1))) rfl ?_
          refine b_iload_n (pc := 77) C dX11_bench_77 rfl 2 rfl ?_
          obtain ⟨hb9, hF⟩ := bif_n hF
          refine b_iald (pc := 78) C dX11_bench_78 (Hh.1 _ _ (sa_3_0 (kk_7_0 hk1))) hb9 ?_
          obtain ⟨v12, σ11, hc10, hF⟩ := bbd_e hF
          refine b_cV1i (d' := (d + 2)) (pc := 79) C dX11_bench_79 mm_X11_124 (Hh.1 _ _ sh_0) rfl (Nat.le_of_ble_eq_true rfl) (by omega) (Hh.2.2 _ _ _ _ _ _ _ _ _ (lvl_eq (by omega) (e_X11_answered (d + 2) (σ3.1 (((σ.2.2 0 7) + 1) + 1) x1.toNatClampNeg) _ _ _ hc10))) ?_
          exact b_iret (pc := 82) C Rt dX11_bench_82 hF
        rw [if_neg hc8] at hF
        by_cases hc13 : x2 = (1 : Int32)
        · rw [if_pos hc13] at hF
          refine b_tabIn (tgt := 83) (pc := 33) C dX11_bench_33 hc13 (kI := 1) (by decide) (by decide) (by decide) rfl rfl ?_
          refine b_aload_n (pc := 83) C dX11_bench_83 rfl 1 rfl ?_
          refine b_bipush (pc := 84) C dX11_bench_84 bp_10 ?_
          refine b_aload_n (pc := 86) C dX11_bench_86 rfl 0 rfl ?_
          refine b_getS (pc := 87) C dX11_bench_87 fl_X11_137 (Hh.1 _ _ (shH (kk_7_0 hk1))) rfl ?_
          refine b_iload_n (pc := 90) C dX11_bench_90 rfl 2 rfl ?_
          obtain ⟨hb14, hF⟩ := bif_n hF
          refine b_iald (pc := 91) C dX11_bench_91 (Hh.1 _ _ (sa_3_2 (kk_7_0 hk1))) hb14 ?_
          refine b_imul (pc := 92) C dX11_bench_92 ?_
          refine b_aload_n (pc := 93) C dX11_bench_93 rfl 0 rfl ?_
          refine b_getS (pc := 94) C dX11_bench_94 fl_X11_140 (Hh.1 _ _ (shH (kk_7_0 hk1))) rfl ?_
          refine b_iload_n (pc := 97) C dX11_bench_97 rfl 2 rfl ?_
          obtain ⟨hb15, hF⟩ := bif_n hF
          refine b_iald (pc := 98) C dX11_bench_98 (Hh.1 _ _ (sa_3_1 (kk_7_0 hk1))) hb15 ?_
          refine b_iadd (pc := 99) C dX11_bench_99 ?_
          obtain ⟨v18, σ17, hc16, hF⟩ := bbd_e hF
          refine b_cV1i (d' := (d + 2)) (pc := 100) C dX11_bench_100 mm_X11_124 (Hh.1 _ _ sh_0) rfl (Nat.le_of_ble_eq_true rfl) (by omega) (Hh.2.2 _ _ _ _ _ _ _ _ _ (lvl_eq (by omega) (e_X11_answered (d + 2) (((10 : Int32) * (σ3.1 (((σ.2.2 0 7) + 1) + 3) x1.toNatClampNeg)) + (σ3.1 (((σ.2.2 0 7) + 1) + 2) x1.toNatClampNeg)) _ _ _ hc16))) ?_
          exact b_iret (pc := 103) C Rt dX11_bench_103 hF
        rw [if_neg hc13] at hF
        by_cases hc19 : x2 = (2 : Int32)
        · rw [if_pos hc19] at hF
          refine b_tabIn (tgt := 104) (pc := 33) C dX11_bench_33 hc19 (kI := 2) (by decide) (by decide) (by decide) rfl rfl ?_
          refine b_aload_n (pc := 104) C dX11_bench_104 rfl 1 rfl ?_
          refine b_aload_n (pc := 105) C dX11_bench_105 rfl 0 rfl ?_
          refine b_getS (pc := 106) C dX11_bench_106 fl_X11_143 (Hh.1 _ _ (shH (kk_7_0 hk1))) rfl ?_
          refine b_iload_n (pc := 109) C dX11_bench_109 rfl 2 rfl ?_
          obtain ⟨hb20, hF⟩ := bif_n hF
          refine b_iald (pc := 110) C dX11_bench_110 (Hh.1 _ _ (sa_3_3 (kk_7_0 hk1))) hb20 ?_
          obtain ⟨v23, σ22, hc21, hF⟩ := bbd_e hF
          refine b_cV1i (d' := (d + 2)) (pc := 111) C dX11_bench_111 mm_X11_124 (Hh.1 _ _ sh_0) rfl (Nat.le_of_ble_eq_true rfl) (by omega) (Hh.2.2 _ _ _ _ _ _ _ _ _ (lvl_eq (by omega) (e_X11_answered (d + 2) (σ3.1 (((σ.2.2 0 7) + 1) + 4) x1.toNatClampNeg) _ _ _ hc21))) ?_
          exact b_iret (pc := 114) C Rt dX11_bench_114 hF
        rw [if_neg hc19] at hF
        by_cases hc24 : x2 = (3 : Int32)
        · rw [if_pos hc24] at hF
          refine b_tabIn (tgt := 115) (pc := 33) C dX11_bench_33 hc24 (kI := 3) (by decide) (by decide) (by decide) rfl rfl ?_
          refine b_aload_n (pc := 115) C dX11_bench_115 rfl 1 rfl ?_
          refine b_aload_n (pc := 116) C dX11_bench_116 rfl 0 rfl ?_
          refine b_getS (pc := 117) C dX11_bench_117 fl_X11_146 (Hh.1 _ _ (shH (kk_7_0 hk1))) rfl ?_
          refine b_iload_n (pc := 120) C dX11_bench_120 rfl 2 rfl ?_
          obtain ⟨hb25, hF⟩ := bif_n hF
          refine b_iald (pc := 121) C dX11_bench_121 (Hh.1 _ _ (sa_3_4 (kk_7_0 hk1))) hb25 ?_
          obtain ⟨v28, σ27, hc26, hF⟩ := bbd_e hF
          refine b_cV1i (d' := (d + 2)) (pc := 122) C dX11_bench_122 mm_X11_124 (Hh.1 _ _ sh_0) rfl (Nat.le_of_ble_eq_true rfl) (by omega) (Hh.2.2 _ _ _ _ _ _ _ _ _ (lvl_eq (by omega) (e_X11_answered (d + 2) (σ3.1 (((σ.2.2 0 7) + 1) + 5) x1.toNatClampNeg) _ _ _ hc26))) ?_
          exact b_iret (pc := 125) C Rt dX11_bench_125 hF
        rw [if_neg hc24] at hF
        by_cases hc29 : x2 = (4 : Int32)
        · rw [if_pos hc29] at hF
          refine b_tabIn (tgt := 126) (pc := 33) C dX11_bench_33 hc29 (kI := 4) (by decide) (by decide) (by decide) rfl rfl ?_
          refine b_aload_n (pc := 126) C dX11_bench_126 rfl 1 rfl ?_
          refine b_aload_n (pc := 127) C dX11_bench_127 rfl 0 rfl ?_
          refine b_iload_n (pc := 128) C dX11_bench_128 rfl 2 rfl ?_
          refine b_aload_n (pc := 129) C dX11_bench_129 rfl 0 rfl ?_
          refine b_getI (pc := 130) C dX11_bench_130 fl_X11_149 (Hh.1 _ _ (shH (kk_7_0 hk1))) rfl ?_
          obtain ⟨v32, σ31, hc30, hF⟩ := bbd_e hF
          refine b_cV2i (d' := (d + 2)) (pc := 133) C dX11_bench_133 mm_X11_152 (Hh.1 _ _ (shH (kk_7_0 hk1))) rfl (Nat.le_of_ble_eq_true rfl) (by omega) (Hh.2.2 _ _ _ _ _ _ _ _ _ (lvl_eq (by omega) (e_X3_heatAlone (d + 1) _ (kk_7_0 hk1) x1 (σ3.1 ((σ.2.2 0 7) + 1) 10) _ _ _ hc30))) ?_
          obtain ⟨v35, σ34, hc33, hF⟩ := bbd_e hF
          refine b_cV1i (d' := (d + 2)) (pc := 136) C dX11_bench_136 mm_X11_124 (Hh.1 _ _ sh_0) rfl (Nat.le_of_ble_eq_true rfl) (by omega) (Hh.2.2 _ _ _ _ _ _ _ _ _ (lvl_eq (by omega) (e_X11_answered (d + 2) v32 _ _ _ hc33))) ?_
          exact b_iret (pc := 139) C Rt dX11_bench_139 hF
        rw [if_neg hc29] at hF
        by_cases hc36 : x2 = (5 : Int32)
        · rw [if_pos hc36] at hF
          refine b_tabIn (tgt := 140) (pc := 33) C dX11_bench_33 hc36 (kI := 5) (by decide) (by decide) (by decide) rfl rfl ?_
          refine b_aload_n (pc := 140) C dX11_bench_140 rfl 1 rfl ?_
          refine b_aload_n (pc := 141) C dX11_bench_141 rfl 1 rfl ?_
          obtain ⟨hk37, hF⟩ := bif_y hF
          refine b_getR (pc := 142) C dX11_bench_142 fl_X11_57 (Hh.1 _ _ sh_0) rfl ?_
          refine b_aload_n (pc := 145) C dX11_bench_145 rfl 1 rfl ?_
          refine b_getS (pc := 146) C dX11_bench_146 fl_X11_19 (Hh.1 _ _ sh_0) rfl ?_
          refine b_iload_n (pc := 149) C dX11_bench_149 rfl 2 rfl ?_
          obtain ⟨v40, σ39, hc38, hF⟩ := bbd_e hF
          refine b_cV2i (d' := (d + 2)) (pc := 150) C dX11_bench_150 mm_X11_156 (Hh.1 _ _ (shR hk37)) rfl (Nat.le_of_ble_eq_true rfl) (by omega) (Hh.2.2 _ _ _ _ _ _ _ _ _ (lvl_eq (by omega) (e_X7_warmth (d + 0) _ hk37 _ (by decide) x1 _ _ _ hc38))) ?_
          obtain ⟨v43, σ42, hc41, hF⟩ := bbd_e hF
          refine b_cV1i (d' := (d + 2)) (pc := 153) C dX11_bench_153 mm_X11_124 (Hh.1 _ _ sh_0) rfl (Nat.le_of_ble_eq_true rfl) (by omega) (Hh.2.2 _ _ _ _ _ _ _ _ _ (lvl_eq (by omega) (e_X11_answered (d + 2) v40 _ _ _ hc41))) ?_
          exact b_iret (pc := 156) C Rt dX11_bench_156 hF
        rw [if_neg hc36] at hF
        have hn50_0 := lv_neT hc8 (show ((0 : Int32)).toInt = 0 from by decide)
        have hn50_1 := lv_neT hc13 (show ((1 : Int32)).toInt = 1 from by decide)
        have hn50_2 := lv_neT hc19 (show ((2 : Int32)).toInt = 2 from by decide)
        have hn50_3 := lv_neT hc24 (show ((3 : Int32)).toInt = 3 from by decide)
        have hn50_4 := lv_neT hc29 (show ((4 : Int32)).toInt = 4 from by decide)
        have hn50_5 := lv_neT hc36 (show ((5 : Int32)).toInt = 5 from by decide)
        refine b_tabOut (tgt := 157) (pc := 33) C dX11_bench_33 (by omega) rfl ?_
        refine b_aload_n (pc := 157) C dX11_bench_157 rfl 1 rfl ?_
        refine b_aload_n (pc := 158) C dX11_bench_158 rfl 1 rfl ?_
        refine b_getS (pc := 159) C dX11_bench_159 fl_X11_19 (Hh.1 _ _ sh_0) rfl ?_
        refine b_iload_n (pc := 162) C dX11_bench_162 rfl 2 rfl ?_
        obtain ⟨v46, σ45, hc44, hF⟩ := bbd_e hF
        refine b_cV1i (d' := (d + 2)) (pc := 163) C dX11_bench_163 mm_X11_160 (Hh.1 _ _ sh_30) rfl (Nat.le_of_ble_eq_true rfl) (by omega) (Hh.2.2 _ _ _ _ _ _ _ _ _ (lvl_eq (by omega) (e_X4_sitters (d + 2) _ (by decide) x1 _ _ _ hc44))) ?_
        obtain ⟨v49, σ48, hc47, hF⟩ := bbd_e hF
        refine b_cV1i (d' := (d + 2)) (pc := 166) C dX11_bench_166 mm_X11_124 (Hh.1 _ _ sh_0) rfl (Nat.le_of_ble_eq_true rfl) (by omega) (Hh.2.2 _ _ _ _ _ _ _ _ _ (lvl_eq (by omega) (e_X11_answered (d + 2) v46 _ _ _ hc47))) ?_
        exact b_iret (pc := 169) C Rt dX11_bench_169 hF
      · rw [if_neg hc7] at hF
        exact b_sub [1] rfl (e_X11_bench_J26 C Hh Rt  _ hF)
set_option maxHeartbeats 4000000 in
set_option maxRecDepth 20000 in
theorem e_X11_bench {l : Launch} {G : bG} {ρ : Nat → Nat} {A : Nat → Prop} (d : Nat) (x1 : Int32) (x2 : Int32) (σ : bSto) (r : Int32) (σ' : bSto) (hF : f_X11_bench x1 x2 σ = some (r, σ')) : bEv l G bSHf ρ A yX11_bench cX11_bench 4 (some .int) (d + 3) [.ref 0, .int x1, .int x2] σ (some (.int r)) σ' := b_met (d := d + 3) (by decide +kernel) (Nat.le_of_ble_eq_true rfl) rfl (fun X C Rt h1 h2 h3 => e_X11_bench_0 C ⟨fun o q h => by rw [h1]; exact h, fun i h => by rw [h2]; exact h, h3⟩ Rt _ _ _ hF)
/-! BenchColony.person -/
def f_X11_person_J25  (σ : bSto) : Option (Int32 × bSto) := bbd (f_X11_refusedWith (1 : Int32) (-1000 : Int32) σ) (fun v3 σ2 => some (v3, σ2))
def f_X11_person (x1 : Int32) (x2 : Int32) (σ : bSto) : Option (Int32 × bSto) := if kR (σ.2.2 0 7) then bbd (f_X2_has ((σ.2.2 0 7) + 7) x1 σ) (fun v4 σ3 => (if v4 = 0 then f_X11_person_J25  σ3 else (if x2 < 0 then f_X11_person_J25  σ3 else (if x2 ≤ (5 : Int32) then (if x2 = (0 : Int32) then if x1 < 0 ∨ 7 ≤ x1.toNatClampNeg then none else bbd (f_X11_answered (σ3.1 (((σ.2.2 0 7) + 7) + 1) x1.toNatClampNeg) σ3) (fun v12 σ11 => some (v12, σ11)) else (if x2 = (1 : Int32) then if x1 < 0 ∨ 7 ≤ x1.toNatClampNeg then none else bbd (f_X11_answered (σ3.1 (((σ.2.2 0 7) + 7) + 3) x1.toNatClampNeg) σ3) (fun v17 σ16 => some (v17, σ16)) else (if x2 = (2 : Int32) then if x1 < 0 ∨ 7 ≤ x1.toNatClampNeg then none else bbd (f_X11_answered (σ3.1 31 x1.toNatClampNeg) σ3) (fun v22 σ21 => some (v22, σ21)) else (if x2 = (3 : Int32) then if kR (σ3.2.2 0 7) then if kR (σ3.2.2 0 7) then bbd (f_X7_isContent (σ3.2.2 0 7) 30 x1 (σ3.1 ((σ3.2.2 0 7) + 1) 10) σ3) (fun v28 σ27 => (if v28 = 0 then bbd (f_X11_answered (0 : Int32) σ27) (fun v32 σ31 => some (v32, σ31)) else bbd (f_X11_answered (1 : Int32) σ27) (fun v35 σ34 => some (v35, σ34)))) else none else none else (if x2 = (4 : Int32) then if x1 < 0 ∨ 7 ≤ x1.toNatClampNeg then none else bbd (f_X11_answered (σ3.1 32 x1.toNatClampNeg) σ3) (fun v40 σ39 => some (v40, σ39)) else bbd (f_X2_sameTown ((σ.2.2 0 7) + 7) x1 σ3) (fun v43 σ42 => bbd (f_X11_answered v43 σ42) (fun v46 σ45 => some (v46, σ45)))))))) else f_X11_person_J25  σ3)))) else none
set_option maxHeartbeats 4000000 in
set_option maxRecDepth 20000 in
theorem e_X11_person_J25 {X : bX} {l : Launch} {G : bG} {ρ : Nat → Nat} {A : Nat → Prop} {d : Nat} {r : Int32} {σ' : bSto} (C : bCX X cX11_person RX11 (d + 3)) (Hh : bH X l G bSHf ρ A 4) (Rt : bRX X (some .int) (some (.int r)) σ')  (σ : bSto) (hF : f_X11_person_J25  σ = some (r, σ')) : bAJ X 25 [(0, .ref 0)] [] σ := by
  rw [f_X11_person_J25] at hF
  refine b_aload_n (pc := 25) C dX11_person_25 rfl 0 rfl ?_
  refine b_iconst (pc := 26) C dX11_person_26 ic_1 ?_
  refine b_sipush (pc := 27) C dX11_person_27 sp_m1000 ?_
  obtain ⟨v3, σ2, hc1, hF⟩ := bbd_e hF
  refine b_cV2i (d' := (d + 2)) (pc := 30) C dX11_person_30 mm_X11_170 (Hh.1 _ _ sh_0) rfl (Nat.le_of_ble_eq_true rfl) (by omega) (Hh.2.2 _ _ _ _ _ _ _ _ _ (lvl_eq (by omega) (e_X11_refusedWith (d + 2) (1 : Int32) (-1000 : Int32) _ _ _ hc1))) ?_
  exact b_iret (pc := 33) C Rt dX11_person_33 hF
set_option maxHeartbeats 4000000 in
set_option maxRecDepth 20000 in
theorem e_X11_person_0 {X : bX} {l : Launch} {G : bG} {ρ : Nat → Nat} {A : Nat → Prop} {d : Nat} {r : Int32} {σ' : bSto} (C : bCX X cX11_person RX11 (d + 3)) (Hh : bH X l G bSHf ρ A 4) (Rt : bRX X (some .int) (some (.int r)) σ') (x1 : Int32) (x2 : Int32) (σ : bSto) (hF : f_X11_person x1 x2 σ = some (r, σ')) : bAJ X 0 [(0, .ref 0), (1, .int x1), (2, .int x2)] [] σ := by
  rw [f_X11_person] at hF
  refine b_aload_n (pc := 0) C dX11_person_0 rfl 0 rfl ?_
  obtain ⟨hk1, hF⟩ := bif_y hF
  refine b_getR (pc := 1) C dX11_person_1 fl_X11_57 (Hh.1 _ _ sh_0) rfl ?_
  refine b_getS (pc := 4) C dX11_person_4 fl_X11_163 (Hh.1 _ _ (shR hk1)) rfl ?_
  refine b_astore_n (L' := [(3, .ref ((σ.2.2 0 7) + 7)), (0, .ref 0), (1, .int x1), (2, .int x2)]) (pc := 7) C dX11_person_7 rfl rfl (Hh.2.1 _ (Nat.le_of_ble_eq_true rfl)) rfl ?_
  refine b_aload_n (pc := 8) C dX11_person_8 rfl 0 rfl ?_
  refine b_iload_n (pc := 9) C dX11_person_9 rfl 2 rfl ?_
  obtain ⟨v4, σ3, hc2, hF⟩ := bbd_e hF
  refine b_cV1i (d' := (d + 2)) (pc := 10) C dX11_person_10 mm_X11_167 (Hh.1 _ _ (shF (kk_7_1 hk1))) rfl (Nat.le_of_ble_eq_true rfl) (by omega) (Hh.2.2 _ _ _ _ _ _ _ _ _ (lvl_eq (by omega) (e_X2_has (d + 2) _ (kk_7_1 hk1) x1 _ _ _ hc2))) ?_
  refine b_if_eq (tgt := 25) (pc := 13) C dX11_person_13 rfl (fun hc5 => ?_) (fun hc5 => ?_)
  · rw [if_pos hc5] at hF
    exact b_sub [1] rfl (e_X11_person_J25 C Hh Rt  _ hF)
  · rw [if_neg hc5] at hF
    refine b_iload_n (pc := 16) C dX11_person_16 rfl 3 rfl ?_
    refine b_if_lt (tgt := 25) (pc := 17) C dX11_person_17 rfl (fun hc6 => ?_) (fun hc6 => ?_)
    · rw [if_pos hc6] at hF
      exact b_sub [1] rfl (e_X11_person_J25 C Hh Rt  _ hF)
    · rw [if_neg hc6] at hF
      refine b_iload_n (pc := 20) C dX11_person_20 rfl 3 rfl ?_
      refine b_iconst (pc := 21) C dX11_person_21 ic_5 ?_
      refine b_icmp_le (tgt := 34) (pc := 22) C dX11_person_22 rfl (fun hc7 => ?_) (fun hc7 => ?_)
      · rw [if_pos hc7] at hF
        refine b_iload_n (pc := 34) C dX11_person_34 rfl 3 rfl ?_
        by_cases hc8 : x2 = (0 : Int32)
        · rw [if_pos hc8] at hF
          refine b_tabIn (tgt := 68) (pc := 35) C dX11_person_35 hc8 (kI := 0) (by decide) (by decide) (by decide) rfl rfl ?_
          refine b_aload_n (pc := 68) C dX11_person_68 rfl 1 rfl ?_
          refine b_aload_n (pc := 69) C dX11_person_69 rfl 0 rfl ?_
          refine b_getS (pc := 70) C dX11_person_70 fl_X11_173 (Hh.1 _ _ (shF (kk_7_1 hk1))) rfl ?_
          refine b_iload_n (pc := 73) C dX11_person_73 rfl 2 rfl ?_
          obtain ⟨hb9, hF⟩ := bif_n hF
          refine b_iald (pc := 74) C dX11_person_74 (Hh.1 _ _ (sa_2_0 (kk_7_1 hk1))) hb9 ?_
          obtain ⟨v12, σ11, hc10, hF⟩ := bbd_e hF
          refine b_cV1i (d' := (d + 2)) (pc := 75) C dX11_person_75 mm_X11_124 (Hh.1 _ _ sh_0) rfl (Nat.le_of_ble_eq_true rfl) (by omega) (Hh.2.2 _ _ _ _ _ _ _ _ _ (lvl_eq (by omega) (e_X11_answered (d + 2) (σ3.1 (((σ.2.2 0 7) + 7) + 1) x1.toNatClampNeg) _ _ _ hc10))) ?_
          exact b_iret (pc := 78) C Rt dX11_person_78 hF
        rw [if_neg hc8] at hF
        by_cases hc13 : x2 = (1 : Int32)
        · rw [if_pos hc13] at hF
          refine b_tabIn (tgt := 79) (pc := 35) C dX11_person_35 hc13 (kI := 1) (by decide) (by decide) (by decide) rfl rfl ?_
          refine b_aload_n (pc := 79) C dX11_person_79 rfl 1 rfl ?_
          refine b_aload_n (pc := 80) C dX11_person_80 rfl 0 rfl ?_
          refine b_getS (pc := 81) C dX11_person_81 fl_X11_176 (Hh.1 _ _ (shF (kk_7_1 hk1))) rfl ?_
          refine b_iload_n (pc := 84) C dX11_person_84 rfl 2 rfl ?_
          obtain ⟨hb14, hF⟩ := bif_n hF
          refine b_iald (pc := 85) C dX11_person_85 (Hh.1 _ _ (sa_2_2 (kk_7_1 hk1))) hb14 ?_
          obtain ⟨v17, σ16, hc15, hF⟩ := bbd_e hF
          refine b_cV1i (d' := (d + 2)) (pc := 86) C dX11_person_86 mm_X11_124 (Hh.1 _ _ sh_0) rfl (Nat.le_of_ble_eq_true rfl) (by omega) (Hh.2.2 _ _ _ _ _ _ _ _ _ (lvl_eq (by omega) (e_X11_answered (d + 2) (σ3.1 (((σ.2.2 0 7) + 7) + 3) x1.toNatClampNeg) _ _ _ hc15))) ?_
          exact b_iret (pc := 89) C Rt dX11_person_89 hF
        rw [if_neg hc13] at hF
        by_cases hc18 : x2 = (2 : Int32)
        · rw [if_pos hc18] at hF
          refine b_tabIn (tgt := 90) (pc := 35) C dX11_person_35 hc18 (kI := 2) (by decide) (by decide) (by decide) rfl rfl ?_
          refine b_aload_n (pc := 90) C dX11_person_90 rfl 1 rfl ?_
          refine b_aload_n (pc := 91) C dX11_person_91 rfl 1 rfl ?_
          refine b_getS (pc := 92) C dX11_person_92 fl_X11_19 (Hh.1 _ _ sh_0) rfl ?_
          refine b_getS (pc := 95) C dX11_person_95 fl_X11_179 (Hh.1 _ _ sh_30) rfl ?_
          refine b_iload_n (pc := 98) C dX11_person_98 rfl 2 rfl ?_
          obtain ⟨hb19, hF⟩ := bif_n hF
          refine b_iald (pc := 99) C dX11_person_99 (Hh.1 _ _ sh_31) hb19 ?_
          obtain ⟨v22, σ21, hc20, hF⟩ := bbd_e hF
          refine b_cV1i (d' := (d + 2)) (pc := 100) C dX11_person_100 mm_X11_124 (Hh.1 _ _ sh_0) rfl (Nat.le_of_ble_eq_true rfl) (by omega) (Hh.2.2 _ _ _ _ _ _ _ _ _ (lvl_eq (by omega) (e_X11_answered (d + 2) (σ3.1 31 x1.toNatClampNeg) _ _ _ hc20))) ?_
          exact b_iret (pc := 103) C Rt dX11_person_103 hF
        rw [if_neg hc18] at hF
        by_cases hc23 : x2 = (3 : Int32)
        · rw [if_pos hc23] at hF
          refine b_tabIn (tgt := 104) (pc := 35) C dX11_person_35 hc23 (kI := 3) (by decide) (by decide) (by decide) rfl rfl ?_
          refine b_aload_n (pc := 104) C dX11_person_104 rfl 1 rfl ?_
          refine b_aload_n (pc := 105) C dX11_person_105 rfl 1 rfl ?_
          obtain ⟨hk24, hF⟩ := bif_y hF
          refine b_getR (pc := 106) C dX11_person_106 fl_X11_57 (Hh.1 _ _ sh_0) rfl ?_
          refine b_aload_n (pc := 109) C dX11_person_109 rfl 1 rfl ?_
          refine b_getS (pc := 110) C dX11_person_110 fl_X11_19 (Hh.1 _ _ sh_0) rfl ?_
          refine b_iload_n (pc := 113) C dX11_person_113 rfl 2 rfl ?_
          refine b_aload_n (pc := 114) C dX11_person_114 rfl 1 rfl ?_
          obtain ⟨hk25, hF⟩ := bif_y hF
          refine b_getR (pc := 115) C dX11_person_115 fl_X11_57 (Hh.1 _ _ sh_0) rfl ?_
          refine b_getS (pc := 118) C dX11_person_118 fl_X11_115 (Hh.1 _ _ (shR hk25)) rfl ?_
          refine b_getI (pc := 121) C dX11_person_121 fl_X11_149 (Hh.1 _ _ (shH (kk_7_0 hk25))) rfl ?_
          obtain ⟨v28, σ27, hc26, hF⟩ := bbd_e hF
          refine b_cV3i (d' := (d + 2)) (pc := 124) C dX11_person_124 mm_X11_182 (Hh.1 _ _ (shR hk24)) rfl (Nat.le_of_ble_eq_true rfl) (by omega) (Hh.2.2 _ _ _ _ _ _ _ _ _ (lvl_eq (by omega) (e_X7_isContent (d + 0) _ hk24 _ (by decide) x1 (σ3.1 ((σ3.2.2 0 7) + 1) 10) _ _ _ hc26))) ?_
          refine b_if_eq (tgt := 134) (pc := 127) C dX11_person_127 rfl (fun hc29 => ?_) (fun hc29 => ?_)
          · rw [if_pos hc29] at hF
            refine b_iconst (pc := 134) C dX11_person_134 ic_0 ?_
            obtain ⟨v32, σ31, hc30, hF⟩ := bbd_e hF
            refine b_cV1i (d' := (d + 2)) (pc := 135) C dX11_person_135 mm_X11_124 (Hh.1 _ _ sh_0) rfl (Nat.le_of_ble_eq_true rfl) (by omega) (Hh.2.2 _ _ _ _ _ _ _ _ _ (lvl_eq (by omega) (e_X11_answered (d + 2) (0 : Int32) _ _ _ hc30))) ?_
            exact b_iret (pc := 138) C Rt dX11_person_138 hF
          · rw [if_neg hc29] at hF
            refine b_iconst (pc := 130) C dX11_person_130 ic_1 ?_
            refine b_goto (tgt := 135) (pc := 131) C dX11_person_131 rfl ?_
            obtain ⟨v35, σ34, hc33, hF⟩ := bbd_e hF
            refine b_cV1i (d' := (d + 2)) (pc := 135) C dX11_person_135 mm_X11_124 (Hh.1 _ _ sh_0) rfl (Nat.le_of_ble_eq_true rfl) (by omega) (Hh.2.2 _ _ _ _ _ _ _ _ _ (lvl_eq (by omega) (e_X11_answered (d + 2) (1 : Int32) _ _ _ hc33))) ?_
            exact b_iret (pc := 138) C Rt dX11_person_138 hF
        rw [if_neg hc23] at hF
        by_cases hc36 : x2 = (4 : Int32)
        · rw [if_pos hc36] at hF
          refine b_tabIn (tgt := 139) (pc := 35) C dX11_person_35 hc36 (kI := 4) (by decide) (by decide) (by decide) rfl rfl ?_
          refine b_aload_n (pc := 139) C dX11_person_139 rfl 1 rfl ?_
          refine b_aload_n (pc := 140) C dX11_person_140 rfl 1 rfl ?_
          refine b_getS (pc := 141) C dX11_person_141 fl_X11_19 (Hh.1 _ _ sh_0) rfl ?_
          refine b_getS (pc := 144) C dX11_person_144 fl_X11_186 (Hh.1 _ _ sh_30) rfl ?_
          refine b_iload_n (pc := 147) C dX11_person_147 rfl 2 rfl ?_
          obtain ⟨hb37, hF⟩ := bif_n hF
          refine b_iald (pc := 148) C dX11_person_148 (Hh.1 _ _ sh_32) hb37 ?_
          obtain ⟨v40, σ39, hc38, hF⟩ := bbd_e hF
          refine b_cV1i (d' := (d + 2)) (pc := 149) C dX11_person_149 mm_X11_124 (Hh.1 _ _ sh_0) rfl (Nat.le_of_ble_eq_true rfl) (by omega) (Hh.2.2 _ _ _ _ _ _ _ _ _ (lvl_eq (by omega) (e_X11_answered (d + 2) (σ3.1 32 x1.toNatClampNeg) _ _ _ hc38))) ?_
          exact b_iret (pc := 152) C Rt dX11_person_152 hF
        rw [if_neg hc36] at hF
        have hn47_0 := lv_neT hc8 (show ((0 : Int32)).toInt = 0 from by decide)
        have hn47_1 := lv_neT hc13 (show ((1 : Int32)).toInt = 1 from by decide)
        have hn47_2 := lv_neT hc18 (show ((2 : Int32)).toInt = 2 from by decide)
        have hn47_3 := lv_neT hc23 (show ((3 : Int32)).toInt = 3 from by decide)
        have hn47_4 := lv_neT hc36 (show ((4 : Int32)).toInt = 4 from by decide)
        refine b_tabOut (tgt := 153) (pc := 35) C dX11_person_35 (by omega) rfl ?_
        refine b_aload_n (pc := 153) C dX11_person_153 rfl 1 rfl ?_
        refine b_aload_n (pc := 154) C dX11_person_154 rfl 0 rfl ?_
        refine b_iload_n (pc := 155) C dX11_person_155 rfl 2 rfl ?_
        obtain ⟨v43, σ42, hc41, hF⟩ := bbd_e hF
        refine b_cV1i (d' := (d + 2)) (pc := 156) C dX11_person_156 mm_X11_189 (Hh.1 _ _ (shF (kk_7_1 hk1))) rfl (Nat.le_of_ble_eq_true rfl) (by omega) (Hh.2.2 _ _ _ _ _ _ _ _ _ (lvl_eq (by omega) (e_X2_sameTown (d + 2) _ (kk_7_1 hk1) x1 _ _ _ hc41))) ?_
        obtain ⟨v46, σ45, hc44, hF⟩ := bbd_e hF
        refine b_cV1i (d' := (d + 2)) (pc := 159) C dX11_person_159 mm_X11_124 (Hh.1 _ _ sh_0) rfl (Nat.le_of_ble_eq_true rfl) (by omega) (Hh.2.2 _ _ _ _ _ _ _ _ _ (lvl_eq (by omega) (e_X11_answered (d + 2) v43 _ _ _ hc44))) ?_
        exact b_iret (pc := 162) C Rt dX11_person_162 hF
      · rw [if_neg hc7] at hF
        exact b_sub [1] rfl (e_X11_person_J25 C Hh Rt  _ hF)
set_option maxHeartbeats 4000000 in
set_option maxRecDepth 20000 in
theorem e_X11_person {l : Launch} {G : bG} {ρ : Nat → Nat} {A : Nat → Prop} (d : Nat) (x1 : Int32) (x2 : Int32) (σ : bSto) (r : Int32) (σ' : bSto) (hF : f_X11_person x1 x2 σ = some (r, σ')) : bEv l G bSHf ρ A yX11_person cX11_person 4 (some .int) (d + 3) [.ref 0, .int x1, .int x2] σ (some (.int r)) σ' := b_met (d := d + 3) (by decide +kernel) (Nat.le_of_ble_eq_true rfl) rfl (fun X C Rt h1 h2 h3 => e_X11_person_0 C ⟨fun o q h => by rw [h1]; exact h, fun i h => by rw [h2]; exact h, h3⟩ Rt _ _ _ hF)
/-! BenchColony.may -/
def f_X11_may_J28  (σ : bSto) : Option (Int32 × bSto) := bbd (f_X11_refused (1 : Int32) σ) (fun v3 σ2 => some (v3, σ2))
def f_X11_may (x1 : Int32) (x2 : Int32) (σ : bSto) : Option (Int32 × bSto) := if kR (σ.2.2 0 7) then bbd (f_X2_has ((σ.2.2 0 7) + 7) x1 σ) (fun v4 σ3 => (if v4 = 0 then f_X11_may_J28  σ3 else if kR (σ3.2.2 0 7) then bbd (f_X3_has ((σ3.2.2 0 7) + 1) x2 σ3) (fun v9 σ8 => (if v9 = 0 then f_X11_may_J28  σ8 else if kR (σ8.2.2 0 7) then bbd (f_X7_allows (σ8.2.2 0 7) x1 x2 σ8) (fun v14 σ13 => (if v14 = 0 then bbd (f_X11_answered (0 : Int32) σ13) (fun v18 σ17 => some (v18, σ17)) else bbd (f_X11_answered (1 : Int32) σ13) (fun v21 σ20 => some (v21, σ20)))) else none)) else none)) else none
set_option maxHeartbeats 4000000 in
set_option maxRecDepth 20000 in
theorem e_X11_may_J28 {X : bX} {l : Launch} {G : bG} {ρ : Nat → Nat} {A : Nat → Prop} {d : Nat} {r : Int32} {σ' : bSto} (C : bCX X cX11_may RX11 (d + 2)) (Hh : bH X l G bSHf ρ A 3) (Rt : bRX X (some .int) (some (.int r)) σ')  (σ : bSto) (hF : f_X11_may_J28  σ = some (r, σ')) : bAJ X 28 [(0, .ref 0)] [] σ := by
  rw [f_X11_may_J28] at hF
  refine b_aload_n (pc := 28) C dX11_may_28 rfl 0 rfl ?_
  refine b_iconst (pc := 29) C dX11_may_29 ic_1 ?_
  obtain ⟨v3, σ2, hc1, hF⟩ := bbd_e hF
  refine b_cV1i (d' := (d + 1)) (pc := 30) C dX11_may_30 mm_X11_75 (Hh.1 _ _ sh_0) rfl (Nat.le_of_ble_eq_true rfl) (by omega) (Hh.2.2 _ _ _ _ _ _ _ _ _ (lvl_eq (by omega) (e_X11_refused (d + 0) (1 : Int32) _ _ _ hc1))) ?_
  exact b_iret (pc := 33) C Rt dX11_may_33 hF
set_option maxHeartbeats 4000000 in
set_option maxRecDepth 20000 in
theorem e_X11_may_0 {X : bX} {l : Launch} {G : bG} {ρ : Nat → Nat} {A : Nat → Prop} {d : Nat} {r : Int32} {σ' : bSto} (C : bCX X cX11_may RX11 (d + 2)) (Hh : bH X l G bSHf ρ A 3) (Rt : bRX X (some .int) (some (.int r)) σ') (x1 : Int32) (x2 : Int32) (σ : bSto) (hF : f_X11_may x1 x2 σ = some (r, σ')) : bAJ X 0 [(0, .ref 0), (1, .int x1), (2, .int x2)] [] σ := by
  rw [f_X11_may] at hF
  refine b_aload_n (pc := 0) C dX11_may_0 rfl 0 rfl ?_
  obtain ⟨hk1, hF⟩ := bif_y hF
  refine b_getR (pc := 1) C dX11_may_1 fl_X11_57 (Hh.1 _ _ sh_0) rfl ?_
  refine b_getS (pc := 4) C dX11_may_4 fl_X11_163 (Hh.1 _ _ (shR hk1)) rfl ?_
  refine b_iload_n (pc := 7) C dX11_may_7 rfl 1 rfl ?_
  obtain ⟨v4, σ3, hc2, hF⟩ := bbd_e hF
  refine b_cV1i (d' := (d + 1)) (pc := 8) C dX11_may_8 mm_X11_167 (Hh.1 _ _ (shF (kk_7_1 hk1))) rfl (Nat.le_of_ble_eq_true rfl) (by omega) (Hh.2.2 _ _ _ _ _ _ _ _ _ (lvl_eq (by omega) (e_X2_has (d + 1) _ (kk_7_1 hk1) x1 _ _ _ hc2))) ?_
  refine b_if_eq (tgt := 28) (pc := 11) C dX11_may_11 rfl (fun hc5 => ?_) (fun hc5 => ?_)
  · rw [if_pos hc5] at hF
    exact b_sub [0] rfl (e_X11_may_J28 C Hh Rt  _ hF)
  · rw [if_neg hc5] at hF
    refine b_aload_n (pc := 14) C dX11_may_14 rfl 0 rfl ?_
    obtain ⟨hk6, hF⟩ := bif_y hF
    refine b_getR (pc := 15) C dX11_may_15 fl_X11_57 (Hh.1 _ _ sh_0) rfl ?_
    refine b_getS (pc := 18) C dX11_may_18 fl_X11_115 (Hh.1 _ _ (shR hk6)) rfl ?_
    refine b_iload_n (pc := 21) C dX11_may_21 rfl 2 rfl ?_
    obtain ⟨v9, σ8, hc7, hF⟩ := bbd_e hF
    refine b_cV1i (d' := (d + 1)) (pc := 22) C dX11_may_22 mm_X11_130 (Hh.1 _ _ (shH (kk_7_0 hk6))) rfl (Nat.le_of_ble_eq_true rfl) (by omega) (Hh.2.2 _ _ _ _ _ _ _ _ _ (lvl_eq (by omega) (e_X3_has (d + 1) _ (kk_7_0 hk6) x2 _ _ _ hc7))) ?_
    refine b_if_ne (tgt := 34) (pc := 25) C dX11_may_25 rfl (fun hc10 => ?_) (fun hc10 => ?_)
    · rw [if_neg hc10] at hF
      refine b_aload_n (pc := 34) C dX11_may_34 rfl 0 rfl ?_
      refine b_aload_n (pc := 35) C dX11_may_35 rfl 0 rfl ?_
      obtain ⟨hk11, hF⟩ := bif_y hF
      refine b_getR (pc := 36) C dX11_may_36 fl_X11_57 (Hh.1 _ _ sh_0) rfl ?_
      refine b_iload_n (pc := 39) C dX11_may_39 rfl 1 rfl ?_
      refine b_iload_n (pc := 40) C dX11_may_40 rfl 2 rfl ?_
      obtain ⟨v14, σ13, hc12, hF⟩ := bbd_e hF
      refine b_cV2i (d' := (d + 1)) (pc := 41) C dX11_may_41 mm_X11_192 (Hh.1 _ _ (shR hk11)) rfl (Nat.le_of_ble_eq_true rfl) (by omega) (Hh.2.2 _ _ _ _ _ _ _ _ _ (lvl_eq (by omega) (e_X7_allows (d + 1) _ hk11 x1 x2 _ _ _ hc12))) ?_
      refine b_if_eq (tgt := 51) (pc := 44) C dX11_may_44 rfl (fun hc15 => ?_) (fun hc15 => ?_)
      · rw [if_pos hc15] at hF
        refine b_iconst (pc := 51) C dX11_may_51 ic_0 ?_
        obtain ⟨v18, σ17, hc16, hF⟩ := bbd_e hF
        refine b_cV1i (d' := (d + 1)) (pc := 52) C dX11_may_52 mm_X11_124 (Hh.1 _ _ sh_0) rfl (Nat.le_of_ble_eq_true rfl) (by omega) (Hh.2.2 _ _ _ _ _ _ _ _ _ (lvl_eq (by omega) (e_X11_answered (d + 1) (0 : Int32) _ _ _ hc16))) ?_
        exact b_iret (pc := 55) C Rt dX11_may_55 hF
      · rw [if_neg hc15] at hF
        refine b_iconst (pc := 47) C dX11_may_47 ic_1 ?_
        refine b_goto (tgt := 52) (pc := 48) C dX11_may_48 rfl ?_
        obtain ⟨v21, σ20, hc19, hF⟩ := bbd_e hF
        refine b_cV1i (d' := (d + 1)) (pc := 52) C dX11_may_52 mm_X11_124 (Hh.1 _ _ sh_0) rfl (Nat.le_of_ble_eq_true rfl) (by omega) (Hh.2.2 _ _ _ _ _ _ _ _ _ (lvl_eq (by omega) (e_X11_answered (d + 1) (1 : Int32) _ _ _ hc19))) ?_
        exact b_iret (pc := 55) C Rt dX11_may_55 hF
    · rw [if_pos hc10] at hF
      exact b_sub [0] rfl (e_X11_may_J28 C Hh Rt  _ hF)
set_option maxHeartbeats 4000000 in
set_option maxRecDepth 20000 in
theorem e_X11_may {l : Launch} {G : bG} {ρ : Nat → Nat} {A : Nat → Prop} (d : Nat) (x1 : Int32) (x2 : Int32) (σ : bSto) (r : Int32) (σ' : bSto) (hF : f_X11_may x1 x2 σ = some (r, σ')) : bEv l G bSHf ρ A yX11_may cX11_may 3 (some .int) (d + 2) [.ref 0, .int x1, .int x2] σ (some (.int r)) σ' := b_met (d := d + 2) (by decide +kernel) (Nat.le_of_ble_eq_true rfl) rfl (fun X C Rt h1 h2 h3 => e_X11_may_0 C ⟨fun o q h => by rw [h1]; exact h, fun i h => by rw [h2]; exact h, h3⟩ Rt _ _ _ hF)
/-! BenchColony.content -/
def f_X11_content  (σ : bSto) : Option (Int32 × bSto) := if kR (σ.2.2 0 7) then (if (σ.1 (σ.2.2 0 7) 4) = 0 then bbd (f_X11_refused (1 : Int32) σ) (fun v13 σ12 => some (v13, σ12)) else if kR (σ.2.2 0 7) then if kR (σ.2.2 0 7) then bbd (f_X7_contentBits (σ.2.2 0 7) 30 (σ.1 ((σ.2.2 0 7) + 1) 10) σ) (fun v7 σ6 => bbd (f_X11_answered v7 σ6) (fun v10 σ9 => some (v10, σ9))) else none else none) else none
set_option maxHeartbeats 4000000 in
set_option maxRecDepth 20000 in
theorem e_X11_content_0 {X : bX} {l : Launch} {G : bG} {ρ : Nat → Nat} {A : Nat → Prop} {d : Nat} {r : Int32} {σ' : bSto} (C : bCX X cX11_content RX11 (d + 4)) (Hh : bH X l G bSHf ρ A 1) (Rt : bRX X (some .int) (some (.int r)) σ')  (σ : bSto) (hF : f_X11_content  σ = some (r, σ')) : bAJ X 0 [(0, .ref 0)] [] σ := by
  rw [f_X11_content] at hF
  refine b_aload_n (pc := 0) C dX11_content_0 rfl 0 rfl ?_
  obtain ⟨hk1, hF⟩ := bif_y hF
  refine b_getR (pc := 1) C dX11_content_1 fl_X11_57 (Hh.1 _ _ sh_0) rfl ?_
  refine b_getI (pc := 4) C dX11_content_4 fl_X11_196 (Hh.1 _ _ (shR hk1)) rfl ?_
  refine b_if_ne (tgt := 16) (pc := 7) C dX11_content_7 rfl (fun hc2 => ?_) (fun hc2 => ?_)
  · rw [if_neg hc2] at hF
    refine b_aload_n (pc := 16) C dX11_content_16 rfl 0 rfl ?_
    refine b_aload_n (pc := 17) C dX11_content_17 rfl 0 rfl ?_
    obtain ⟨hk3, hF⟩ := bif_y hF
    refine b_getR (pc := 18) C dX11_content_18 fl_X11_57 (Hh.1 _ _ sh_0) rfl ?_
    refine b_aload_n (pc := 21) C dX11_content_21 rfl 0 rfl ?_
    refine b_getS (pc := 22) C dX11_content_22 fl_X11_19 (Hh.1 _ _ sh_0) rfl ?_
    refine b_aload_n (pc := 25) C dX11_content_25 rfl 0 rfl ?_
    obtain ⟨hk4, hF⟩ := bif_y hF
    refine b_getR (pc := 26) C dX11_content_26 fl_X11_57 (Hh.1 _ _ sh_0) rfl ?_
    refine b_getS (pc := 29) C dX11_content_29 fl_X11_115 (Hh.1 _ _ (shR hk4)) rfl ?_
    refine b_getI (pc := 32) C dX11_content_32 fl_X11_149 (Hh.1 _ _ (shH (kk_7_0 hk4))) rfl ?_
    obtain ⟨v7, σ6, hc5, hF⟩ := bbd_e hF
    refine b_cV2i (d' := (d + 3)) (pc := 35) C dX11_content_35 mm_X11_200 (Hh.1 _ _ (shR hk3)) rfl (Nat.le_of_ble_eq_true rfl) (by omega) (Hh.2.2 _ _ _ _ _ _ _ _ _ (lvl_eq (by omega) (e_X7_contentBits (d + 0) _ hk3 _ (by decide) (σ.1 ((σ.2.2 0 7) + 1) 10) _ _ _ hc5))) ?_
    obtain ⟨v10, σ9, hc8, hF⟩ := bbd_e hF
    refine b_cV1i (d' := (d + 3)) (pc := 38) C dX11_content_38 mm_X11_124 (Hh.1 _ _ sh_0) rfl (Nat.le_of_ble_eq_true rfl) (by omega) (Hh.2.2 _ _ _ _ _ _ _ _ _ (lvl_eq (by omega) (e_X11_answered (d + 3) v7 _ _ _ hc8))) ?_
    exact b_iret (pc := 41) C Rt dX11_content_41 hF
  · rw [if_pos hc2] at hF
    refine b_aload_n (pc := 10) C dX11_content_10 rfl 0 rfl ?_
    refine b_iconst (pc := 11) C dX11_content_11 ic_1 ?_
    obtain ⟨v13, σ12, hc11, hF⟩ := bbd_e hF
    refine b_cV1i (d' := (d + 3)) (pc := 12) C dX11_content_12 mm_X11_75 (Hh.1 _ _ sh_0) rfl (Nat.le_of_ble_eq_true rfl) (by omega) (Hh.2.2 _ _ _ _ _ _ _ _ _ (lvl_eq (by omega) (e_X11_refused (d + 2) (1 : Int32) _ _ _ hc11))) ?_
    exact b_iret (pc := 15) C Rt dX11_content_15 hF
set_option maxHeartbeats 4000000 in
set_option maxRecDepth 20000 in
theorem e_X11_content {l : Launch} {G : bG} {ρ : Nat → Nat} {A : Nat → Prop} (d : Nat)  (σ : bSto) (r : Int32) (σ' : bSto) (hF : f_X11_content  σ = some (r, σ')) : bEv l G bSHf ρ A yX11_content cX11_content 1 (some .int) (d + 4) [.ref 0] σ (some (.int r)) σ' := b_met (d := d + 4) (by decide +kernel) (Nat.le_of_ble_eq_true rfl) rfl (fun X C Rt h1 h2 h3 => e_X11_content_0 C ⟨fun o q h => by rw [h1]; exact h, fun i h => by rw [h2]; exact h, h3⟩ Rt  _ hF)
/-! BenchColony.warmest -/
def f_X11_warmest (x1 : Int32) (σ : bSto) : Option (Int32 × bSto) := if kR (σ.2.2 0 7) then bbd (f_X2_has ((σ.2.2 0 7) + 7) x1 σ) (fun v4 σ3 => (if v4 = 0 then bbd (f_X11_refused (1 : Int32) σ3) (fun v15 σ14 => some (v15, σ14)) else if kR (σ3.2.2 0 7) then bbd (f_X7_warmestFor (σ3.2.2 0 7) 30 x1 σ3) (fun v9 σ8 => bbd (f_X11_answered v9 σ8) (fun v12 σ11 => some (v12, σ11))) else none)) else none
set_option maxHeartbeats 4000000 in
set_option maxRecDepth 20000 in
theorem e_X11_warmest_0 {X : bX} {l : Launch} {G : bG} {ρ : Nat → Nat} {A : Nat → Prop} {d : Nat} {r : Int32} {σ' : bSto} (C : bCX X cX11_warmest RX11 (d + 4)) (Hh : bH X l G bSHf ρ A 2) (Rt : bRX X (some .int) (some (.int r)) σ') (x1 : Int32) (σ : bSto) (hF : f_X11_warmest x1 σ = some (r, σ')) : bAJ X 0 [(0, .ref 0), (1, .int x1)] [] σ := by
  rw [f_X11_warmest] at hF
  refine b_aload_n (pc := 0) C dX11_warmest_0 rfl 0 rfl ?_
  obtain ⟨hk1, hF⟩ := bif_y hF
  refine b_getR (pc := 1) C dX11_warmest_1 fl_X11_57 (Hh.1 _ _ sh_0) rfl ?_
  refine b_getS (pc := 4) C dX11_warmest_4 fl_X11_163 (Hh.1 _ _ (shR hk1)) rfl ?_
  refine b_iload_n (pc := 7) C dX11_warmest_7 rfl 1 rfl ?_
  obtain ⟨v4, σ3, hc2, hF⟩ := bbd_e hF
  refine b_cV1i (d' := (d + 3)) (pc := 8) C dX11_warmest_8 mm_X11_167 (Hh.1 _ _ (shF (kk_7_1 hk1))) rfl (Nat.le_of_ble_eq_true rfl) (by omega) (Hh.2.2 _ _ _ _ _ _ _ _ _ (lvl_eq (by omega) (e_X2_has (d + 3) _ (kk_7_1 hk1) x1 _ _ _ hc2))) ?_
  refine b_if_ne (tgt := 20) (pc := 11) C dX11_warmest_11 rfl (fun hc5 => ?_) (fun hc5 => ?_)
  · rw [if_neg hc5] at hF
    refine b_aload_n (pc := 20) C dX11_warmest_20 rfl 0 rfl ?_
    refine b_aload_n (pc := 21) C dX11_warmest_21 rfl 0 rfl ?_
    obtain ⟨hk6, hF⟩ := bif_y hF
    refine b_getR (pc := 22) C dX11_warmest_22 fl_X11_57 (Hh.1 _ _ sh_0) rfl ?_
    refine b_aload_n (pc := 25) C dX11_warmest_25 rfl 0 rfl ?_
    refine b_getS (pc := 26) C dX11_warmest_26 fl_X11_19 (Hh.1 _ _ sh_0) rfl ?_
    refine b_iload_n (pc := 29) C dX11_warmest_29 rfl 1 rfl ?_
    obtain ⟨v9, σ8, hc7, hF⟩ := bbd_e hF
    refine b_cV2i (d' := (d + 3)) (pc := 30) C dX11_warmest_30 mm_X11_203 (Hh.1 _ _ (shR hk6)) rfl (Nat.le_of_ble_eq_true rfl) (by omega) (Hh.2.2 _ _ _ _ _ _ _ _ _ (lvl_eq (by omega) (e_X7_warmestFor (d + 0) _ hk6 _ (by decide) x1 _ _ _ hc7))) ?_
    obtain ⟨v12, σ11, hc10, hF⟩ := bbd_e hF
    refine b_cV1i (d' := (d + 3)) (pc := 33) C dX11_warmest_33 mm_X11_124 (Hh.1 _ _ sh_0) rfl (Nat.le_of_ble_eq_true rfl) (by omega) (Hh.2.2 _ _ _ _ _ _ _ _ _ (lvl_eq (by omega) (e_X11_answered (d + 3) v9 _ _ _ hc10))) ?_
    exact b_iret (pc := 36) C Rt dX11_warmest_36 hF
  · rw [if_pos hc5] at hF
    refine b_aload_n (pc := 14) C dX11_warmest_14 rfl 0 rfl ?_
    refine b_iconst (pc := 15) C dX11_warmest_15 ic_1 ?_
    obtain ⟨v15, σ14, hc13, hF⟩ := bbd_e hF
    refine b_cV1i (d' := (d + 3)) (pc := 16) C dX11_warmest_16 mm_X11_75 (Hh.1 _ _ sh_0) rfl (Nat.le_of_ble_eq_true rfl) (by omega) (Hh.2.2 _ _ _ _ _ _ _ _ _ (lvl_eq (by omega) (e_X11_refused (d + 2) (1 : Int32) _ _ _ hc13))) ?_
    exact b_iret (pc := 19) C Rt dX11_warmest_19 hF
set_option maxHeartbeats 4000000 in
set_option maxRecDepth 20000 in
theorem e_X11_warmest {l : Launch} {G : bG} {ρ : Nat → Nat} {A : Nat → Prop} (d : Nat) (x1 : Int32) (σ : bSto) (r : Int32) (σ' : bSto) (hF : f_X11_warmest x1 σ = some (r, σ')) : bEv l G bSHf ρ A yX11_warmest cX11_warmest 2 (some .int) (d + 4) [.ref 0, .int x1] σ (some (.int r)) σ' := b_met (d := d + 4) (by decide +kernel) (Nat.le_of_ble_eq_true rfl) rfl (fun X C Rt h1 h2 h3 => e_X11_warmest_0 C ⟨fun o q h => by rw [h1]; exact h, fun i h => by rw [h2]; exact h, h3⟩ Rt _ _ hF)
/-! BenchColony.rents -/
def f_X11_rents  (σ : bSto) : Option (Int32 × bSto) := if kR (σ.2.2 0 7) then (if (σ.1 (σ.2.2 0 7) 4) = 0 then bbd (f_X11_refused (1 : Int32) σ) (fun v12 σ11 => some (v12, σ11)) else if kR (σ.2.2 0 7) then bbd (f_X7_rentNow (σ.2.2 0 7) 30 σ) (fun v6 σ5 => bbd (f_X11_answered v6 σ5) (fun v9 σ8 => some (v9, σ8))) else none) else none
set_option maxHeartbeats 4000000 in
set_option maxRecDepth 20000 in
theorem e_X11_rents_0 {X : bX} {l : Launch} {G : bG} {ρ : Nat → Nat} {A : Nat → Prop} {d : Nat} {r : Int32} {σ' : bSto} (C : bCX X cX11_rents RX11 (d + 2)) (Hh : bH X l G bSHf ρ A 1) (Rt : bRX X (some .int) (some (.int r)) σ')  (σ : bSto) (hF : f_X11_rents  σ = some (r, σ')) : bAJ X 0 [(0, .ref 0)] [] σ := by
  rw [f_X11_rents] at hF
  refine b_aload_n (pc := 0) C dX11_rents_0 rfl 0 rfl ?_
  obtain ⟨hk1, hF⟩ := bif_y hF
  refine b_getR (pc := 1) C dX11_rents_1 fl_X11_57 (Hh.1 _ _ sh_0) rfl ?_
  refine b_getI (pc := 4) C dX11_rents_4 fl_X11_196 (Hh.1 _ _ (shR hk1)) rfl ?_
  refine b_if_ne (tgt := 16) (pc := 7) C dX11_rents_7 rfl (fun hc2 => ?_) (fun hc2 => ?_)
  · rw [if_neg hc2] at hF
    refine b_aload_n (pc := 16) C dX11_rents_16 rfl 0 rfl ?_
    refine b_aload_n (pc := 17) C dX11_rents_17 rfl 0 rfl ?_
    obtain ⟨hk3, hF⟩ := bif_y hF
    refine b_getR (pc := 18) C dX11_rents_18 fl_X11_57 (Hh.1 _ _ sh_0) rfl ?_
    refine b_aload_n (pc := 21) C dX11_rents_21 rfl 0 rfl ?_
    refine b_getS (pc := 22) C dX11_rents_22 fl_X11_19 (Hh.1 _ _ sh_0) rfl ?_
    obtain ⟨v6, σ5, hc4, hF⟩ := bbd_e hF
    refine b_cV1i (d' := (d + 1)) (pc := 25) C dX11_rents_25 mm_X11_206 (Hh.1 _ _ (shR hk3)) rfl (Nat.le_of_ble_eq_true rfl) (by omega) (Hh.2.2 _ _ _ _ _ _ _ _ _ (lvl_eq (by omega) (e_X7_rentNow (d + 0) _ hk3 _ (by decide) _ _ _ hc4))) ?_
    obtain ⟨v9, σ8, hc7, hF⟩ := bbd_e hF
    refine b_cV1i (d' := (d + 1)) (pc := 28) C dX11_rents_28 mm_X11_124 (Hh.1 _ _ sh_0) rfl (Nat.le_of_ble_eq_true rfl) (by omega) (Hh.2.2 _ _ _ _ _ _ _ _ _ (lvl_eq (by omega) (e_X11_answered (d + 1) v6 _ _ _ hc7))) ?_
    exact b_iret (pc := 31) C Rt dX11_rents_31 hF
  · rw [if_pos hc2] at hF
    refine b_aload_n (pc := 10) C dX11_rents_10 rfl 0 rfl ?_
    refine b_iconst (pc := 11) C dX11_rents_11 ic_1 ?_
    obtain ⟨v12, σ11, hc10, hF⟩ := bbd_e hF
    refine b_cV1i (d' := (d + 1)) (pc := 12) C dX11_rents_12 mm_X11_75 (Hh.1 _ _ sh_0) rfl (Nat.le_of_ble_eq_true rfl) (by omega) (Hh.2.2 _ _ _ _ _ _ _ _ _ (lvl_eq (by omega) (e_X11_refused (d + 0) (1 : Int32) _ _ _ hc10))) ?_
    exact b_iret (pc := 15) C Rt dX11_rents_15 hF
set_option maxHeartbeats 4000000 in
set_option maxRecDepth 20000 in
theorem e_X11_rents {l : Launch} {G : bG} {ρ : Nat → Nat} {A : Nat → Prop} (d : Nat)  (σ : bSto) (r : Int32) (σ' : bSto) (hF : f_X11_rents  σ = some (r, σ')) : bEv l G bSHf ρ A yX11_rents cX11_rents 1 (some .int) (d + 2) [.ref 0] σ (some (.int r)) σ' := b_met (d := d + 2) (by decide +kernel) (Nat.le_of_ble_eq_true rfl) rfl (fun X C Rt h1 h2 h3 => e_X11_rents_0 C ⟨fun o q h => by rw [h1]; exact h, fun i h => by rw [h2]; exact h, h3⟩ Rt  _ hF)
/-! BenchColony.heatFor -/
def f_X11_heatFor  (σ : bSto) : Option (Int32 × bSto) := if kR (σ.2.2 0 7) then (if (σ.1 (σ.2.2 0 7) 4) = 0 then bbd (f_X11_refused (1 : Int32) σ) (fun v12 σ11 => some (v12, σ11)) else if kR (σ.2.2 0 7) then bbd (f_X7_leastHeat (σ.2.2 0 7) 30 σ) (fun v6 σ5 => bbd (f_X11_answered v6 σ5) (fun v9 σ8 => some (v9, σ8))) else none) else none
set_option maxHeartbeats 4000000 in
set_option maxRecDepth 20000 in
theorem e_X11_heatFor_0 {X : bX} {l : Launch} {G : bG} {ρ : Nat → Nat} {A : Nat → Prop} {d : Nat} {r : Int32} {σ' : bSto} (C : bCX X cX11_heatFor RX11 (d + 5)) (Hh : bH X l G bSHf ρ A 1) (Rt : bRX X (some .int) (some (.int r)) σ')  (σ : bSto) (hF : f_X11_heatFor  σ = some (r, σ')) : bAJ X 0 [(0, .ref 0)] [] σ := by
  rw [f_X11_heatFor] at hF
  refine b_aload_n (pc := 0) C dX11_heatFor_0 rfl 0 rfl ?_
  obtain ⟨hk1, hF⟩ := bif_y hF
  refine b_getR (pc := 1) C dX11_heatFor_1 fl_X11_57 (Hh.1 _ _ sh_0) rfl ?_
  refine b_getI (pc := 4) C dX11_heatFor_4 fl_X11_196 (Hh.1 _ _ (shR hk1)) rfl ?_
  refine b_if_ne (tgt := 16) (pc := 7) C dX11_heatFor_7 rfl (fun hc2 => ?_) (fun hc2 => ?_)
  · rw [if_neg hc2] at hF
    refine b_aload_n (pc := 16) C dX11_heatFor_16 rfl 0 rfl ?_
    refine b_aload_n (pc := 17) C dX11_heatFor_17 rfl 0 rfl ?_
    obtain ⟨hk3, hF⟩ := bif_y hF
    refine b_getR (pc := 18) C dX11_heatFor_18 fl_X11_57 (Hh.1 _ _ sh_0) rfl ?_
    refine b_aload_n (pc := 21) C dX11_heatFor_21 rfl 0 rfl ?_
    refine b_getS (pc := 22) C dX11_heatFor_22 fl_X11_19 (Hh.1 _ _ sh_0) rfl ?_
    obtain ⟨v6, σ5, hc4, hF⟩ := bbd_e hF
    refine b_cV1i (d' := (d + 4)) (pc := 25) C dX11_heatFor_25 mm_X11_210 (Hh.1 _ _ (shR hk3)) rfl (Nat.le_of_ble_eq_true rfl) (by omega) (Hh.2.2 _ _ _ _ _ _ _ _ _ (lvl_eq (by omega) (e_X7_leastHeat (d + 0) _ hk3 _ (by decide) _ _ _ hc4))) ?_
    obtain ⟨v9, σ8, hc7, hF⟩ := bbd_e hF
    refine b_cV1i (d' := (d + 4)) (pc := 28) C dX11_heatFor_28 mm_X11_124 (Hh.1 _ _ sh_0) rfl (Nat.le_of_ble_eq_true rfl) (by omega) (Hh.2.2 _ _ _ _ _ _ _ _ _ (lvl_eq (by omega) (e_X11_answered (d + 4) v6 _ _ _ hc7))) ?_
    exact b_iret (pc := 31) C Rt dX11_heatFor_31 hF
  · rw [if_pos hc2] at hF
    refine b_aload_n (pc := 10) C dX11_heatFor_10 rfl 0 rfl ?_
    refine b_iconst (pc := 11) C dX11_heatFor_11 ic_1 ?_
    obtain ⟨v12, σ11, hc10, hF⟩ := bbd_e hF
    refine b_cV1i (d' := (d + 4)) (pc := 12) C dX11_heatFor_12 mm_X11_75 (Hh.1 _ _ sh_0) rfl (Nat.le_of_ble_eq_true rfl) (by omega) (Hh.2.2 _ _ _ _ _ _ _ _ _ (lvl_eq (by omega) (e_X11_refused (d + 3) (1 : Int32) _ _ _ hc10))) ?_
    exact b_iret (pc := 15) C Rt dX11_heatFor_15 hF
set_option maxHeartbeats 4000000 in
set_option maxRecDepth 20000 in
theorem e_X11_heatFor {l : Launch} {G : bG} {ρ : Nat → Nat} {A : Nat → Prop} (d : Nat)  (σ : bSto) (r : Int32) (σ' : bSto) (hF : f_X11_heatFor  σ = some (r, σ')) : bEv l G bSHf ρ A yX11_heatFor cX11_heatFor 1 (some .int) (d + 5) [.ref 0] σ (some (.int r)) σ' := b_met (d := d + 5) (by decide +kernel) (Nat.le_of_ble_eq_true rfl) rfl (fun X C Rt h1 h2 h3 => e_X11_heatFor_0 C ⟨fun o q h => by rw [h1]; exact h, fun i h => by rw [h2]; exact h, h3⟩ Rt  _ hF)
/-! BenchColony.packed -/
def f_X11_packed  (σ : bSto) : Option (Int32 × bSto) := if kR (σ.2.2 0 7) then (if (σ.1 (σ.2.2 0 7) 4) = 0 then bbd (f_X11_refused (1 : Int32) σ) (fun v18 σ17 => some (v18, σ17)) else if kR (σ.2.2 0 7) then bbv (f_X5_begin (σ.2.2 0 7) σ) (fun σ5 => if kR (σ5.2.2 0 7) then bbd (f_X2_everybody ((σ5.2.2 0 7) + 7) σ5) (fun v9 σ8 => bbd (f_X5_most v9 σ8) (fun v12 σ11 => bbd (f_X11_answered v12 σ11) (fun v15 σ14 => some (v15, σ14)))) else none) else none) else none
set_option maxHeartbeats 4000000 in
set_option maxRecDepth 20000 in
theorem e_X11_packed_0 {X : bX} {l : Launch} {G : bG} {ρ : Nat → Nat} {A : Nat → Prop} {d : Nat} {r : Int32} {σ' : bSto} (C : bCX X cX11_packed RX11 (d + 42)) (Hh : bH X l G bSHf ρ A 1) (Rt : bRX X (some .int) (some (.int r)) σ')  (σ : bSto) (hF : f_X11_packed  σ = some (r, σ')) : bAJ X 0 [(0, .ref 0)] [] σ := by
  rw [f_X11_packed] at hF
  refine b_aload_n (pc := 0) C dX11_packed_0 rfl 0 rfl ?_
  obtain ⟨hk1, hF⟩ := bif_y hF
  refine b_getR (pc := 1) C dX11_packed_1 fl_X11_57 (Hh.1 _ _ sh_0) rfl ?_
  refine b_getI (pc := 4) C dX11_packed_4 fl_X11_196 (Hh.1 _ _ (shR hk1)) rfl ?_
  refine b_if_ne (tgt := 16) (pc := 7) C dX11_packed_7 rfl (fun hc2 => ?_) (fun hc2 => ?_)
  · rw [if_neg hc2] at hF
    refine b_aload_n (pc := 16) C dX11_packed_16 rfl 0 rfl ?_
    refine b_getS (pc := 17) C dX11_packed_17 fl_X11_36 (Hh.1 _ _ sh_0) rfl ?_
    refine b_aload_n (pc := 20) C dX11_packed_20 rfl 0 rfl ?_
    obtain ⟨hk3, hF⟩ := bif_y hF
    refine b_getR (pc := 21) C dX11_packed_21 fl_X11_57 (Hh.1 _ _ sh_0) rfl ?_
    obtain ⟨σ5, hc4, hF⟩ := bbv_e hF
    refine b_cV1v (d' := (d + 41)) (pc := 24) C dX11_packed_24 mm_X11_213 (Hh.1 _ _ sh_58) rfl (Nat.le_of_ble_eq_true rfl) (by omega) (Hh.2.2 _ _ _ _ _ _ _ _ _ (lvl_eq (by omega) (e_X5_begin (d + 38) _ hk3 _ _ hc4))) ?_
    refine b_aload_n (pc := 27) C dX11_packed_27 rfl 0 rfl ?_
    refine b_aload_n (pc := 28) C dX11_packed_28 rfl 0 rfl ?_
    refine b_getS (pc := 29) C dX11_packed_29 fl_X11_36 (Hh.1 _ _ sh_0) rfl ?_
    refine b_aload_n (pc := 32) C dX11_packed_32 rfl 0 rfl ?_
    obtain ⟨hk6, hF⟩ := bif_y hF
    refine b_getR (pc := 33) C dX11_packed_33 fl_X11_57 (Hh.1 _ _ sh_0) rfl ?_
    refine b_getS (pc := 36) C dX11_packed_36 fl_X11_163 (Hh.1 _ _ (shR hk6)) rfl ?_
    obtain ⟨v9, σ8, hc7, hF⟩ := bbd_e hF
    refine b_cV0i (d' := (d + 41)) (pc := 39) C dX11_packed_39 mm_X11_217 (Hh.1 _ _ (shF (kk_7_1 hk6))) rfl (Nat.le_of_ble_eq_true rfl) (by omega) (Hh.2.2 _ _ _ _ _ _ _ _ _ (lvl_eq (by omega) (e_X2_everybody (d + 41) _ (kk_7_1 hk6) _ _ _ hc7))) ?_
    obtain ⟨v12, σ11, hc10, hF⟩ := bbd_e hF
    refine b_cV1i (d' := (d + 41)) (pc := 42) C dX11_packed_42 mm_X11_221 (Hh.1 _ _ sh_58) rfl (Nat.le_of_ble_eq_true rfl) (by omega) (Hh.2.2 _ _ _ _ _ _ _ _ _ (lvl_eq (by omega) (e_X5_most (d + 0) v9 _ _ _ hc10))) ?_
    obtain ⟨v15, σ14, hc13, hF⟩ := bbd_e hF
    refine b_cV1i (d' := (d + 41)) (pc := 45) C dX11_packed_45 mm_X11_124 (Hh.1 _ _ sh_0) rfl (Nat.le_of_ble_eq_true rfl) (by omega) (Hh.2.2 _ _ _ _ _ _ _ _ _ (lvl_eq (by omega) (e_X11_answered (d + 41) v12 _ _ _ hc13))) ?_
    exact b_iret (pc := 48) C Rt dX11_packed_48 hF
  · rw [if_pos hc2] at hF
    refine b_aload_n (pc := 10) C dX11_packed_10 rfl 0 rfl ?_
    refine b_iconst (pc := 11) C dX11_packed_11 ic_1 ?_
    obtain ⟨v18, σ17, hc16, hF⟩ := bbd_e hF
    refine b_cV1i (d' := (d + 41)) (pc := 12) C dX11_packed_12 mm_X11_75 (Hh.1 _ _ sh_0) rfl (Nat.le_of_ble_eq_true rfl) (by omega) (Hh.2.2 _ _ _ _ _ _ _ _ _ (lvl_eq (by omega) (e_X11_refused (d + 40) (1 : Int32) _ _ _ hc16))) ?_
    exact b_iret (pc := 15) C Rt dX11_packed_15 hF
set_option maxHeartbeats 4000000 in
set_option maxRecDepth 20000 in
theorem e_X11_packed {l : Launch} {G : bG} {ρ : Nat → Nat} {A : Nat → Prop} (d : Nat)  (σ : bSto) (r : Int32) (σ' : bSto) (hF : f_X11_packed  σ = some (r, σ')) : bEv l G bSHf ρ A yX11_packed cX11_packed 1 (some .int) (d + 42) [.ref 0] σ (some (.int r)) σ' := b_met (d := d + 42) (by decide +kernel) (Nat.le_of_ble_eq_true rfl) rfl (fun X C Rt h1 h2 h3 => e_X11_packed_0 C ⟨fun o q h => by rw [h1]; exact h, fun i h => by rw [h2]; exact h, h3⟩ Rt  _ hF)
/-! BenchColony.packedAt -/
def f_X11_packedAt (x1 : Int32) (σ : bSto) : Option (Int32 × bSto) := if kR (σ.2.2 0 7) then bbd (f_X2_has ((σ.2.2 0 7) + 7) x1 σ) (fun v4 σ3 => (if v4 = 0 then bbd (f_X11_refused (1 : Int32) σ3) (fun v15 σ14 => some (v15, σ14)) else if kR (σ3.2.2 0 7) then bbd (f_X5_firstRowAt (σ3.2.2 0 7) x1 σ3) (fun v9 σ8 => bbd (f_X11_answered v9 σ8) (fun v12 σ11 => some (v12, σ11))) else none)) else none
set_option maxHeartbeats 4000000 in
set_option maxRecDepth 20000 in
theorem e_X11_packedAt_0 {X : bX} {l : Launch} {G : bG} {ρ : Nat → Nat} {A : Nat → Prop} {d : Nat} {r : Int32} {σ' : bSto} (C : bCX X cX11_packedAt RX11 (d + 44)) (Hh : bH X l G bSHf ρ A 2) (Rt : bRX X (some .int) (some (.int r)) σ') (x1 : Int32) (σ : bSto) (hF : f_X11_packedAt x1 σ = some (r, σ')) : bAJ X 0 [(0, .ref 0), (1, .int x1)] [] σ := by
  rw [f_X11_packedAt] at hF
  refine b_aload_n (pc := 0) C dX11_packedAt_0 rfl 0 rfl ?_
  obtain ⟨hk1, hF⟩ := bif_y hF
  refine b_getR (pc := 1) C dX11_packedAt_1 fl_X11_57 (Hh.1 _ _ sh_0) rfl ?_
  refine b_getS (pc := 4) C dX11_packedAt_4 fl_X11_163 (Hh.1 _ _ (shR hk1)) rfl ?_
  refine b_iload_n (pc := 7) C dX11_packedAt_7 rfl 1 rfl ?_
  obtain ⟨v4, σ3, hc2, hF⟩ := bbd_e hF
  refine b_cV1i (d' := (d + 43)) (pc := 8) C dX11_packedAt_8 mm_X11_167 (Hh.1 _ _ (shF (kk_7_1 hk1))) rfl (Nat.le_of_ble_eq_true rfl) (by omega) (Hh.2.2 _ _ _ _ _ _ _ _ _ (lvl_eq (by omega) (e_X2_has (d + 43) _ (kk_7_1 hk1) x1 _ _ _ hc2))) ?_
  refine b_if_ne (tgt := 20) (pc := 11) C dX11_packedAt_11 rfl (fun hc5 => ?_) (fun hc5 => ?_)
  · rw [if_neg hc5] at hF
    refine b_aload_n (pc := 20) C dX11_packedAt_20 rfl 0 rfl ?_
    refine b_aload_n (pc := 21) C dX11_packedAt_21 rfl 0 rfl ?_
    refine b_getS (pc := 22) C dX11_packedAt_22 fl_X11_36 (Hh.1 _ _ sh_0) rfl ?_
    refine b_aload_n (pc := 25) C dX11_packedAt_25 rfl 0 rfl ?_
    obtain ⟨hk6, hF⟩ := bif_y hF
    refine b_getR (pc := 26) C dX11_packedAt_26 fl_X11_57 (Hh.1 _ _ sh_0) rfl ?_
    refine b_iload_n (pc := 29) C dX11_packedAt_29 rfl 1 rfl ?_
    obtain ⟨v9, σ8, hc7, hF⟩ := bbd_e hF
    refine b_cV2i (d' := (d + 43)) (pc := 30) C dX11_packedAt_30 mm_X11_224 (Hh.1 _ _ sh_58) rfl (Nat.le_of_ble_eq_true rfl) (by omega) (Hh.2.2 _ _ _ _ _ _ _ _ _ (lvl_eq (by omega) (e_X5_firstRowAt (d + 0) _ hk6 x1 _ _ _ hc7))) ?_
    obtain ⟨v12, σ11, hc10, hF⟩ := bbd_e hF
    refine b_cV1i (d' := (d + 43)) (pc := 33) C dX11_packedAt_33 mm_X11_124 (Hh.1 _ _ sh_0) rfl (Nat.le_of_ble_eq_true rfl) (by omega) (Hh.2.2 _ _ _ _ _ _ _ _ _ (lvl_eq (by omega) (e_X11_answered (d + 43) v9 _ _ _ hc10))) ?_
    exact b_iret (pc := 36) C Rt dX11_packedAt_36 hF
  · rw [if_pos hc5] at hF
    refine b_aload_n (pc := 14) C dX11_packedAt_14 rfl 0 rfl ?_
    refine b_iconst (pc := 15) C dX11_packedAt_15 ic_1 ?_
    obtain ⟨v15, σ14, hc13, hF⟩ := bbd_e hF
    refine b_cV1i (d' := (d + 43)) (pc := 16) C dX11_packedAt_16 mm_X11_75 (Hh.1 _ _ sh_0) rfl (Nat.le_of_ble_eq_true rfl) (by omega) (Hh.2.2 _ _ _ _ _ _ _ _ _ (lvl_eq (by omega) (e_X11_refused (d + 42) (1 : Int32) _ _ _ hc13))) ?_
    exact b_iret (pc := 19) C Rt dX11_packedAt_19 hF
set_option maxHeartbeats 4000000 in
set_option maxRecDepth 20000 in
theorem e_X11_packedAt {l : Launch} {G : bG} {ρ : Nat → Nat} {A : Nat → Prop} (d : Nat) (x1 : Int32) (σ : bSto) (r : Int32) (σ' : bSto) (hF : f_X11_packedAt x1 σ = some (r, σ')) : bEv l G bSHf ρ A yX11_packedAt cX11_packedAt 2 (some .int) (d + 44) [.ref 0, .int x1] σ (some (.int r)) σ' := b_met (d := d + 44) (by decide +kernel) (Nat.le_of_ble_eq_true rfl) rfl (fun X C Rt h1 h2 h3 => e_X11_packedAt_0 C ⟨fun o q h => by rw [h1]; exact h, fun i h => by rw [h2]; exact h, h3⟩ Rt _ _ hF)
/-! BenchColony.cheapest -/
def f_X11_cheapest  (σ : bSto) : Option (Int32 × bSto) := if kR (σ.2.2 0 7) then (if (σ.1 (σ.2.2 0 7) 4) = 0 then bbd (f_X11_refused (1 : Int32) σ) (fun v12 σ11 => some (v12, σ11)) else if kR (σ.2.2 0 7) then bbd (f_X5_leastRent (σ.2.2 0 7) σ) (fun v6 σ5 => bbd (f_X11_answered v6 σ5) (fun v9 σ8 => some (v9, σ8))) else none) else none
set_option maxHeartbeats 4000000 in
set_option maxRecDepth 20000 in
theorem e_X11_cheapest_0 {X : bX} {l : Launch} {G : bG} {ρ : Nat → Nat} {A : Nat → Prop} {d : Nat} {r : Int32} {σ' : bSto} (C : bCX X cX11_cheapest RX11 (d + 43)) (Hh : bH X l G bSHf ρ A 1) (Rt : bRX X (some .int) (some (.int r)) σ')  (σ : bSto) (hF : f_X11_cheapest  σ = some (r, σ')) : bAJ X 0 [(0, .ref 0)] [] σ := by
  rw [f_X11_cheapest] at hF
  refine b_aload_n (pc := 0) C dX11_cheapest_0 rfl 0 rfl ?_
  obtain ⟨hk1, hF⟩ := bif_y hF
  refine b_getR (pc := 1) C dX11_cheapest_1 fl_X11_57 (Hh.1 _ _ sh_0) rfl ?_
  refine b_getI (pc := 4) C dX11_cheapest_4 fl_X11_196 (Hh.1 _ _ (shR hk1)) rfl ?_
  refine b_if_ne (tgt := 16) (pc := 7) C dX11_cheapest_7 rfl (fun hc2 => ?_) (fun hc2 => ?_)
  · rw [if_neg hc2] at hF
    refine b_aload_n (pc := 16) C dX11_cheapest_16 rfl 0 rfl ?_
    refine b_aload_n (pc := 17) C dX11_cheapest_17 rfl 0 rfl ?_
    refine b_getS (pc := 18) C dX11_cheapest_18 fl_X11_36 (Hh.1 _ _ sh_0) rfl ?_
    refine b_aload_n (pc := 21) C dX11_cheapest_21 rfl 0 rfl ?_
    obtain ⟨hk3, hF⟩ := bif_y hF
    refine b_getR (pc := 22) C dX11_cheapest_22 fl_X11_57 (Hh.1 _ _ sh_0) rfl ?_
    obtain ⟨v6, σ5, hc4, hF⟩ := bbd_e hF
    refine b_cV1i (d' := (d + 42)) (pc := 25) C dX11_cheapest_25 mm_X11_228 (Hh.1 _ _ sh_58) rfl (Nat.le_of_ble_eq_true rfl) (by omega) (Hh.2.2 _ _ _ _ _ _ _ _ _ (lvl_eq (by omega) (e_X5_leastRent (d + 0) _ hk3 _ _ _ hc4))) ?_
    obtain ⟨v9, σ8, hc7, hF⟩ := bbd_e hF
    refine b_cV1i (d' := (d + 42)) (pc := 28) C dX11_cheapest_28 mm_X11_124 (Hh.1 _ _ sh_0) rfl (Nat.le_of_ble_eq_true rfl) (by omega) (Hh.2.2 _ _ _ _ _ _ _ _ _ (lvl_eq (by omega) (e_X11_answered (d + 42) v6 _ _ _ hc7))) ?_
    exact b_iret (pc := 31) C Rt dX11_cheapest_31 hF
  · rw [if_pos hc2] at hF
    refine b_aload_n (pc := 10) C dX11_cheapest_10 rfl 0 rfl ?_
    refine b_iconst (pc := 11) C dX11_cheapest_11 ic_1 ?_
    obtain ⟨v12, σ11, hc10, hF⟩ := bbd_e hF
    refine b_cV1i (d' := (d + 42)) (pc := 12) C dX11_cheapest_12 mm_X11_75 (Hh.1 _ _ sh_0) rfl (Nat.le_of_ble_eq_true rfl) (by omega) (Hh.2.2 _ _ _ _ _ _ _ _ _ (lvl_eq (by omega) (e_X11_refused (d + 41) (1 : Int32) _ _ _ hc10))) ?_
    exact b_iret (pc := 15) C Rt dX11_cheapest_15 hF
set_option maxHeartbeats 4000000 in
set_option maxRecDepth 20000 in
theorem e_X11_cheapest {l : Launch} {G : bG} {ρ : Nat → Nat} {A : Nat → Prop} (d : Nat)  (σ : bSto) (r : Int32) (σ' : bSto) (hF : f_X11_cheapest  σ = some (r, σ')) : bEv l G bSHf ρ A yX11_cheapest cX11_cheapest 1 (some .int) (d + 43) [.ref 0] σ (some (.int r)) σ' := b_met (d := d + 43) (by decide +kernel) (Nat.le_of_ble_eq_true rfl) rfl (fun X C Rt h1 h2 h3 => e_X11_cheapest_0 C ⟨fun o q h => by rw [h1]; exact h, fun i h => by rw [h2]; exact h, h3⟩ Rt  _ hF)
/-! BenchColony.packedWithout -/
def f_X11_packedWithout (x1 : Int32) (σ : bSto) : Option (Int32 × bSto) := if kR (σ.2.2 0 7) then bbd (f_X2_has ((σ.2.2 0 7) + 7) x1 σ) (fun v4 σ3 => (if v4 = 0 then bbd (f_X11_refused (1 : Int32) σ3) (fun v21 σ20 => some (v21, σ20)) else if kR (σ3.2.2 0 7) then bbv (f_X5_begin (σ3.2.2 0 7) σ3) (fun σ8 => if kR (σ8.2.2 0 7) then bbd (f_X2_everybody ((σ8.2.2 0 7) + 7) σ8) (fun v12 σ11 => bbd (f_X5_most (v12 &&& (((1 : Int32) <<< (x1 &&& 31)) ^^^ (-1 : Int32))) σ11) (fun v15 σ14 => bbd (f_X11_answered v15 σ14) (fun v18 σ17 => some (v18, σ17)))) else none) else none)) else none
set_option maxHeartbeats 4000000 in
set_option maxRecDepth 20000 in
theorem e_X11_packedWithout_0 {X : bX} {l : Launch} {G : bG} {ρ : Nat → Nat} {A : Nat → Prop} {d : Nat} {r : Int32} {σ' : bSto} (C : bCX X cX11_packedWithout RX11 (d + 42)) (Hh : bH X l G bSHf ρ A 2) (Rt : bRX X (some .int) (some (.int r)) σ') (x1 : Int32) (σ : bSto) (hF : f_X11_packedWithout x1 σ = some (r, σ')) : bAJ X 0 [(0, .ref 0), (1, .int x1)] [] σ := by
  rw [f_X11_packedWithout] at hF
  refine b_aload_n (pc := 0) C dX11_packedWithout_0 rfl 0 rfl ?_
  obtain ⟨hk1, hF⟩ := bif_y hF
  refine b_getR (pc := 1) C dX11_packedWithout_1 fl_X11_57 (Hh.1 _ _ sh_0) rfl ?_
  refine b_getS (pc := 4) C dX11_packedWithout_4 fl_X11_163 (Hh.1 _ _ (shR hk1)) rfl ?_
  refine b_iload_n (pc := 7) C dX11_packedWithout_7 rfl 1 rfl ?_
  obtain ⟨v4, σ3, hc2, hF⟩ := bbd_e hF
  refine b_cV1i (d' := (d + 41)) (pc := 8) C dX11_packedWithout_8 mm_X11_167 (Hh.1 _ _ (shF (kk_7_1 hk1))) rfl (Nat.le_of_ble_eq_true rfl) (by omega) (Hh.2.2 _ _ _ _ _ _ _ _ _ (lvl_eq (by omega) (e_X2_has (d + 41) _ (kk_7_1 hk1) x1 _ _ _ hc2))) ?_
  refine b_if_ne (tgt := 20) (pc := 11) C dX11_packedWithout_11 rfl (fun hc5 => ?_) (fun hc5 => ?_)
  · rw [if_neg hc5] at hF
    refine b_aload_n (pc := 20) C dX11_packedWithout_20 rfl 0 rfl ?_
    refine b_getS (pc := 21) C dX11_packedWithout_21 fl_X11_36 (Hh.1 _ _ sh_0) rfl ?_
    refine b_aload_n (pc := 24) C dX11_packedWithout_24 rfl 0 rfl ?_
    obtain ⟨hk6, hF⟩ := bif_y hF
    refine b_getR (pc := 25) C dX11_packedWithout_25 fl_X11_57 (Hh.1 _ _ sh_0) rfl ?_
    obtain ⟨σ8, hc7, hF⟩ := bbv_e hF
    refine b_cV1v (d' := (d + 41)) (pc := 28) C dX11_packedWithout_28 mm_X11_213 (Hh.1 _ _ sh_58) rfl (Nat.le_of_ble_eq_true rfl) (by omega) (Hh.2.2 _ _ _ _ _ _ _ _ _ (lvl_eq (by omega) (e_X5_begin (d + 38) _ hk6 _ _ hc7))) ?_
    refine b_aload_n (pc := 31) C dX11_packedWithout_31 rfl 0 rfl ?_
    refine b_aload_n (pc := 32) C dX11_packedWithout_32 rfl 0 rfl ?_
    refine b_getS (pc := 33) C dX11_packedWithout_33 fl_X11_36 (Hh.1 _ _ sh_0) rfl ?_
    refine b_aload_n (pc := 36) C dX11_packedWithout_36 rfl 0 rfl ?_
    obtain ⟨hk9, hF⟩ := bif_y hF
    refine b_getR (pc := 37) C dX11_packedWithout_37 fl_X11_57 (Hh.1 _ _ sh_0) rfl ?_
    refine b_getS (pc := 40) C dX11_packedWithout_40 fl_X11_163 (Hh.1 _ _ (shR hk9)) rfl ?_
    obtain ⟨v12, σ11, hc10, hF⟩ := bbd_e hF
    refine b_cV0i (d' := (d + 41)) (pc := 43) C dX11_packedWithout_43 mm_X11_217 (Hh.1 _ _ (shF (kk_7_1 hk9))) rfl (Nat.le_of_ble_eq_true rfl) (by omega) (Hh.2.2 _ _ _ _ _ _ _ _ _ (lvl_eq (by omega) (e_X2_everybody (d + 41) _ (kk_7_1 hk9) _ _ _ hc10))) ?_
    refine b_iconst (pc := 46) C dX11_packedWithout_46 ic_1 ?_
    refine b_iload_n (pc := 47) C dX11_packedWithout_47 rfl 1 rfl ?_
    refine b_ishl (pc := 48) C dX11_packedWithout_48 ?_
    refine b_iconst (pc := 49) C dX11_packedWithout_49 ic_m1 ?_
    refine b_ixor (pc := 50) C dX11_packedWithout_50 ?_
    refine b_iand (pc := 51) C dX11_packedWithout_51 ?_
    obtain ⟨v15, σ14, hc13, hF⟩ := bbd_e hF
    refine b_cV1i (d' := (d + 41)) (pc := 52) C dX11_packedWithout_52 mm_X11_221 (Hh.1 _ _ sh_58) rfl (Nat.le_of_ble_eq_true rfl) (by omega) (Hh.2.2 _ _ _ _ _ _ _ _ _ (lvl_eq (by omega) (e_X5_most (d + 0) (v12 &&& (((1 : Int32) <<< (x1 &&& 31)) ^^^ (-1 : Int32))) _ _ _ hc13))) ?_
    obtain ⟨v18, σ17, hc16, hF⟩ := bbd_e hF
    refine b_cV1i (d' := (d + 41)) (pc := 55) C dX11_packedWithout_55 mm_X11_124 (Hh.1 _ _ sh_0) rfl (Nat.le_of_ble_eq_true rfl) (by omega) (Hh.2.2 _ _ _ _ _ _ _ _ _ (lvl_eq (by omega) (e_X11_answered (d + 41) v15 _ _ _ hc16))) ?_
    exact b_iret (pc := 58) C Rt dX11_packedWithout_58 hF
  · rw [if_pos hc5] at hF
    refine b_aload_n (pc := 14) C dX11_packedWithout_14 rfl 0 rfl ?_
    refine b_iconst (pc := 15) C dX11_packedWithout_15 ic_1 ?_
    obtain ⟨v21, σ20, hc19, hF⟩ := bbd_e hF
    refine b_cV1i (d' := (d + 41)) (pc := 16) C dX11_packedWithout_16 mm_X11_75 (Hh.1 _ _ sh_0) rfl (Nat.le_of_ble_eq_true rfl) (by omega) (Hh.2.2 _ _ _ _ _ _ _ _ _ (lvl_eq (by omega) (e_X11_refused (d + 40) (1 : Int32) _ _ _ hc19))) ?_
    exact b_iret (pc := 19) C Rt dX11_packedWithout_19 hF
set_option maxHeartbeats 4000000 in
set_option maxRecDepth 20000 in
theorem e_X11_packedWithout {l : Launch} {G : bG} {ρ : Nat → Nat} {A : Nat → Prop} (d : Nat) (x1 : Int32) (σ : bSto) (r : Int32) (σ' : bSto) (hF : f_X11_packedWithout x1 σ = some (r, σ')) : bEv l G bSHf ρ A yX11_packedWithout cX11_packedWithout 2 (some .int) (d + 42) [.ref 0, .int x1] σ (some (.int r)) σ' := b_met (d := d + 42) (by decide +kernel) (Nat.le_of_ble_eq_true rfl) rfl (fun X C Rt h1 h2 h3 => e_X11_packedWithout_0 C ⟨fun o q h => by rw [h1]; exact h, fun i h => by rw [h2]; exact h, h3⟩ Rt _ _ hF)
/-! BenchColony.bestSeat -/
def f_X11_bestSeat  (σ : bSto) : Option (Int32 × bSto) := if kR (σ.2.2 0 7) then (if (σ.1 (σ.2.2 0 7) 4) = 0 then bbd (f_X11_refused (1 : Int32) σ) (fun v12 σ11 => some (v12, σ11)) else if kR (σ.2.2 0 7) then bbd (f_X5_seatMore (σ.2.2 0 7) σ) (fun v6 σ5 => bbd (f_X11_answered v6 σ5) (fun v9 σ8 => some (v9, σ8))) else none) else none
set_option maxHeartbeats 4000000 in
set_option maxRecDepth 20000 in
theorem e_X11_bestSeat_0 {X : bX} {l : Launch} {G : bG} {ρ : Nat → Nat} {A : Nat → Prop} {d : Nat} {r : Int32} {σ' : bSto} (C : bCX X cX11_bestSeat RX11 (d + 43)) (Hh : bH X l G bSHf ρ A 1) (Rt : bRX X (some .int) (some (.int r)) σ')  (σ : bSto) (hF : f_X11_bestSeat  σ = some (r, σ')) : bAJ X 0 [(0, .ref 0)] [] σ := by
  rw [f_X11_bestSeat] at hF
  refine b_aload_n (pc := 0) C dX11_bestSeat_0 rfl 0 rfl ?_
  obtain ⟨hk1, hF⟩ := bif_y hF
  refine b_getR (pc := 1) C dX11_bestSeat_1 fl_X11_57 (Hh.1 _ _ sh_0) rfl ?_
  refine b_getI (pc := 4) C dX11_bestSeat_4 fl_X11_196 (Hh.1 _ _ (shR hk1)) rfl ?_
  refine b_if_ne (tgt := 16) (pc := 7) C dX11_bestSeat_7 rfl (fun hc2 => ?_) (fun hc2 => ?_)
  · rw [if_neg hc2] at hF
    refine b_aload_n (pc := 16) C dX11_bestSeat_16 rfl 0 rfl ?_
    refine b_aload_n (pc := 17) C dX11_bestSeat_17 rfl 0 rfl ?_
    refine b_getS (pc := 18) C dX11_bestSeat_18 fl_X11_36 (Hh.1 _ _ sh_0) rfl ?_
    refine b_aload_n (pc := 21) C dX11_bestSeat_21 rfl 0 rfl ?_
    obtain ⟨hk3, hF⟩ := bif_y hF
    refine b_getR (pc := 22) C dX11_bestSeat_22 fl_X11_57 (Hh.1 _ _ sh_0) rfl ?_
    obtain ⟨v6, σ5, hc4, hF⟩ := bbd_e hF
    refine b_cV1i (d' := (d + 42)) (pc := 25) C dX11_bestSeat_25 mm_X11_232 (Hh.1 _ _ sh_58) rfl (Nat.le_of_ble_eq_true rfl) (by omega) (Hh.2.2 _ _ _ _ _ _ _ _ _ (lvl_eq (by omega) (e_X5_seatMore (d + 0) _ hk3 _ _ _ hc4))) ?_
    obtain ⟨v9, σ8, hc7, hF⟩ := bbd_e hF
    refine b_cV1i (d' := (d + 42)) (pc := 28) C dX11_bestSeat_28 mm_X11_124 (Hh.1 _ _ sh_0) rfl (Nat.le_of_ble_eq_true rfl) (by omega) (Hh.2.2 _ _ _ _ _ _ _ _ _ (lvl_eq (by omega) (e_X11_answered (d + 42) v6 _ _ _ hc7))) ?_
    exact b_iret (pc := 31) C Rt dX11_bestSeat_31 hF
  · rw [if_pos hc2] at hF
    refine b_aload_n (pc := 10) C dX11_bestSeat_10 rfl 0 rfl ?_
    refine b_iconst (pc := 11) C dX11_bestSeat_11 ic_1 ?_
    obtain ⟨v12, σ11, hc10, hF⟩ := bbd_e hF
    refine b_cV1i (d' := (d + 42)) (pc := 12) C dX11_bestSeat_12 mm_X11_75 (Hh.1 _ _ sh_0) rfl (Nat.le_of_ble_eq_true rfl) (by omega) (Hh.2.2 _ _ _ _ _ _ _ _ _ (lvl_eq (by omega) (e_X11_refused (d + 41) (1 : Int32) _ _ _ hc10))) ?_
    exact b_iret (pc := 15) C Rt dX11_bestSeat_15 hF
set_option maxHeartbeats 4000000 in
set_option maxRecDepth 20000 in
theorem e_X11_bestSeat {l : Launch} {G : bG} {ρ : Nat → Nat} {A : Nat → Prop} (d : Nat)  (σ : bSto) (r : Int32) (σ' : bSto) (hF : f_X11_bestSeat  σ = some (r, σ')) : bEv l G bSHf ρ A yX11_bestSeat cX11_bestSeat 1 (some .int) (d + 43) [.ref 0] σ (some (.int r)) σ' := b_met (d := d + 43) (by decide +kernel) (Nat.le_of_ble_eq_true rfl) rfl (fun X C Rt h1 h2 h3 => e_X11_bestSeat_0 C ⟨fun o q h => by rw [h1]; exact h, fun i h => by rw [h2]; exact h, h3⟩ Rt  _ hF)
/-! BenchColony.coal -/
def f_X11_coal_J31  (σ : bSto) : Option (Int32 × bSto) := bbd (f_X11_refused (2 : Int32) σ) (fun v3 σ2 => some (v3, σ2))
def f_X11_coal (x1 : Int32) (x2 : Int32) (σ : bSto) : Option (Int32 × bSto) := if kR (σ.2.2 0 7) then bbd (f_X3_has ((σ.2.2 0 7) + 1) x1 σ) (fun v4 σ3 => (if v4 = 0 then bbd (f_X11_refused (1 : Int32) σ3) (fun v17 σ16 => some (v17, σ16)) else (if x2 < 0 then f_X11_coal_J31  σ3 else (if x2 ≤ (999 : Int32) then if kR (σ3.2.2 0 7) then bbd (f_X7_coalOf (σ3.2.2 0 7) 30 x1 x2 σ3) (fun v11 σ10 => bbd (f_X11_answered v11 σ10) (fun v14 σ13 => some (v14, σ13))) else none else f_X11_coal_J31  σ3)))) else none
set_option maxHeartbeats 4000000 in
set_option maxRecDepth 20000 in
theorem e_X11_coal_J31 {X : bX} {l : Launch} {G : bG} {ρ : Nat → Nat} {A : Nat → Prop} {d : Nat} {r : Int32} {σ' : bSto} (C : bCX X cX11_coal RX11 (d + 4)) (Hh : bH X l G bSHf ρ A 3) (Rt : bRX X (some .int) (some (.int r)) σ')  (σ : bSto) (hF : f_X11_coal_J31  σ = some (r, σ')) : bAJ X 31 [(0, .ref 0)] [] σ := by
  rw [f_X11_coal_J31] at hF
  refine b_aload_n (pc := 31) C dX11_coal_31 rfl 0 rfl ?_
  refine b_iconst (pc := 32) C dX11_coal_32 ic_2 ?_
  obtain ⟨v3, σ2, hc1, hF⟩ := bbd_e hF
  refine b_cV1i (d' := (d + 3)) (pc := 33) C dX11_coal_33 mm_X11_75 (Hh.1 _ _ sh_0) rfl (Nat.le_of_ble_eq_true rfl) (by omega) (Hh.2.2 _ _ _ _ _ _ _ _ _ (lvl_eq (by omega) (e_X11_refused (d + 2) (2 : Int32) _ _ _ hc1))) ?_
  exact b_iret (pc := 36) C Rt dX11_coal_36 hF
set_option maxHeartbeats 4000000 in
set_option maxRecDepth 20000 in
theorem e_X11_coal_0 {X : bX} {l : Launch} {G : bG} {ρ : Nat → Nat} {A : Nat → Prop} {d : Nat} {r : Int32} {σ' : bSto} (C : bCX X cX11_coal RX11 (d + 4)) (Hh : bH X l G bSHf ρ A 3) (Rt : bRX X (some .int) (some (.int r)) σ') (x1 : Int32) (x2 : Int32) (σ : bSto) (hF : f_X11_coal x1 x2 σ = some (r, σ')) : bAJ X 0 [(0, .ref 0), (1, .int x1), (2, .int x2)] [] σ := by
  rw [f_X11_coal] at hF
  refine b_aload_n (pc := 0) C dX11_coal_0 rfl 0 rfl ?_
  obtain ⟨hk1, hF⟩ := bif_y hF
  refine b_getR (pc := 1) C dX11_coal_1 fl_X11_57 (Hh.1 _ _ sh_0) rfl ?_
  refine b_getS (pc := 4) C dX11_coal_4 fl_X11_115 (Hh.1 _ _ (shR hk1)) rfl ?_
  refine b_iload_n (pc := 7) C dX11_coal_7 rfl 1 rfl ?_
  obtain ⟨v4, σ3, hc2, hF⟩ := bbd_e hF
  refine b_cV1i (d' := (d + 3)) (pc := 8) C dX11_coal_8 mm_X11_130 (Hh.1 _ _ (shH (kk_7_0 hk1))) rfl (Nat.le_of_ble_eq_true rfl) (by omega) (Hh.2.2 _ _ _ _ _ _ _ _ _ (lvl_eq (by omega) (e_X3_has (d + 3) _ (kk_7_0 hk1) x1 _ _ _ hc2))) ?_
  refine b_if_ne (tgt := 20) (pc := 11) C dX11_coal_11 rfl (fun hc5 => ?_) (fun hc5 => ?_)
  · rw [if_neg hc5] at hF
    refine b_iload_n (pc := 20) C dX11_coal_20 rfl 2 rfl ?_
    refine b_if_lt (tgt := 31) (pc := 21) C dX11_coal_21 rfl (fun hc6 => ?_) (fun hc6 => ?_)
    · rw [if_pos hc6] at hF
      exact b_sub [0] rfl (e_X11_coal_J31 C Hh Rt  _ hF)
    · rw [if_neg hc6] at hF
      refine b_iload_n (pc := 24) C dX11_coal_24 rfl 2 rfl ?_
      refine b_sipush (pc := 25) C dX11_coal_25 sp_999 ?_
      refine b_icmp_le (tgt := 37) (pc := 28) C dX11_coal_28 rfl (fun hc7 => ?_) (fun hc7 => ?_)
      · rw [if_pos hc7] at hF
        refine b_aload_n (pc := 37) C dX11_coal_37 rfl 0 rfl ?_
        refine b_aload_n (pc := 38) C dX11_coal_38 rfl 0 rfl ?_
        obtain ⟨hk8, hF⟩ := bif_y hF
        refine b_getR (pc := 39) C dX11_coal_39 fl_X11_57 (Hh.1 _ _ sh_0) rfl ?_
        refine b_aload_n (pc := 42) C dX11_coal_42 rfl 0 rfl ?_
        refine b_getS (pc := 43) C dX11_coal_43 fl_X11_19 (Hh.1 _ _ sh_0) rfl ?_
        refine b_iload_n (pc := 46) C dX11_coal_46 rfl 1 rfl ?_
        refine b_iload_n (pc := 47) C dX11_coal_47 rfl 2 rfl ?_
        obtain ⟨v11, σ10, hc9, hF⟩ := bbd_e hF
        refine b_cV3i (d' := (d + 3)) (pc := 48) C dX11_coal_48 mm_X11_235 (Hh.1 _ _ (shR hk8)) rfl (Nat.le_of_ble_eq_true rfl) (by omega) (Hh.2.2 _ _ _ _ _ _ _ _ _ (lvl_eq (by omega) (e_X7_coalOf (d + 0) _ hk8 _ (by decide) x1 x2 _ _ _ hc9))) ?_
        obtain ⟨v14, σ13, hc12, hF⟩ := bbd_e hF
        refine b_cV1i (d' := (d + 3)) (pc := 51) C dX11_coal_51 mm_X11_124 (Hh.1 _ _ sh_0) rfl (Nat.le_of_ble_eq_true rfl) (by omega) (Hh.2.2 _ _ _ _ _ _ _ _ _ (lvl_eq (by omega) (e_X11_answered (d + 3) v11 _ _ _ hc12))) ?_
        exact b_iret (pc := 54) C Rt dX11_coal_54 hF
      · rw [if_neg hc7] at hF
        exact b_sub [0] rfl (e_X11_coal_J31 C Hh Rt  _ hF)
  · rw [if_pos hc5] at hF
    refine b_aload_n (pc := 14) C dX11_coal_14 rfl 0 rfl ?_
    refine b_iconst (pc := 15) C dX11_coal_15 ic_1 ?_
    obtain ⟨v17, σ16, hc15, hF⟩ := bbd_e hF
    refine b_cV1i (d' := (d + 3)) (pc := 16) C dX11_coal_16 mm_X11_75 (Hh.1 _ _ sh_0) rfl (Nat.le_of_ble_eq_true rfl) (by omega) (Hh.2.2 _ _ _ _ _ _ _ _ _ (lvl_eq (by omega) (e_X11_refused (d + 2) (1 : Int32) _ _ _ hc15))) ?_
    exact b_iret (pc := 19) C Rt dX11_coal_19 hF
set_option maxHeartbeats 4000000 in
set_option maxRecDepth 20000 in
theorem e_X11_coal {l : Launch} {G : bG} {ρ : Nat → Nat} {A : Nat → Prop} (d : Nat) (x1 : Int32) (x2 : Int32) (σ : bSto) (r : Int32) (σ' : bSto) (hF : f_X11_coal x1 x2 σ = some (r, σ')) : bEv l G bSHf ρ A yX11_coal cX11_coal 3 (some .int) (d + 4) [.ref 0, .int x1, .int x2] σ (some (.int r)) σ' := b_met (d := d + 4) (by decide +kernel) (Nat.le_of_ble_eq_true rfl) rfl (fun X C Rt h1 h2 h3 => e_X11_coal_0 C ⟨fun o q h => by rw [h1]; exact h, fun i h => by rw [h2]; exact h, h3⟩ Rt _ _ _ hF)
/-! BenchColony.couples -/
def f_X11_couples  (σ : bSto) : Option (Int32 × bSto) := if kR (σ.2.2 0 7) then (if (σ.1 (σ.2.2 0 7) 4) = 0 then bbd (f_X11_refused (1 : Int32) σ) (fun v12 σ11 => some (v12, σ11)) else if kR (σ.2.2 0 7) then bbd (f_X0_pair ((σ.2.2 0 7) + 7) σ) (fun v6 σ5 => bbd (f_X11_answered v6 σ5) (fun v9 σ8 => some (v9, σ8))) else none) else none
set_option maxHeartbeats 4000000 in
set_option maxRecDepth 20000 in
theorem e_X11_couples_0 {X : bX} {l : Launch} {G : bG} {ρ : Nat → Nat} {A : Nat → Prop} {d : Nat} {r : Int32} {σ' : bSto} (C : bCX X cX11_couples RX11 (d + 4)) (Hh : bH X l G bSHf ρ A 1) (Rt : bRX X (some .int) (some (.int r)) σ')  (σ : bSto) (hF : f_X11_couples  σ = some (r, σ')) : bAJ X 0 [(0, .ref 0)] [] σ := by
  rw [f_X11_couples] at hF
  refine b_aload_n (pc := 0) C dX11_couples_0 rfl 0 rfl ?_
  obtain ⟨hk1, hF⟩ := bif_y hF
  refine b_getR (pc := 1) C dX11_couples_1 fl_X11_57 (Hh.1 _ _ sh_0) rfl ?_
  refine b_getI (pc := 4) C dX11_couples_4 fl_X11_196 (Hh.1 _ _ (shR hk1)) rfl ?_
  refine b_if_ne (tgt := 16) (pc := 7) C dX11_couples_7 rfl (fun hc2 => ?_) (fun hc2 => ?_)
  · rw [if_neg hc2] at hF
    refine b_aload_n (pc := 16) C dX11_couples_16 rfl 0 rfl ?_
    refine b_aload_n (pc := 17) C dX11_couples_17 rfl 0 rfl ?_
    refine b_getS (pc := 18) C dX11_couples_18 fl_X11_43 (Hh.1 _ _ sh_0) rfl ?_
    refine b_aload_n (pc := 21) C dX11_couples_21 rfl 0 rfl ?_
    obtain ⟨hk3, hF⟩ := bif_y hF
    refine b_getR (pc := 22) C dX11_couples_22 fl_X11_57 (Hh.1 _ _ sh_0) rfl ?_
    refine b_getS (pc := 25) C dX11_couples_25 fl_X11_163 (Hh.1 _ _ (shR hk3)) rfl ?_
    obtain ⟨v6, σ5, hc4, hF⟩ := bbd_e hF
    refine b_cV1i (d' := (d + 3)) (pc := 28) C dX11_couples_28 mm_X11_239 (Hh.1 _ _ sh_63) rfl (Nat.le_of_ble_eq_true rfl) (by omega) (Hh.2.2 _ _ _ _ _ _ _ _ _ (lvl_eq (by omega) (e_X0_pair (d + 0) _ (kk_7_1 hk3) _ _ _ hc4))) ?_
    obtain ⟨v9, σ8, hc7, hF⟩ := bbd_e hF
    refine b_cV1i (d' := (d + 3)) (pc := 31) C dX11_couples_31 mm_X11_124 (Hh.1 _ _ sh_0) rfl (Nat.le_of_ble_eq_true rfl) (by omega) (Hh.2.2 _ _ _ _ _ _ _ _ _ (lvl_eq (by omega) (e_X11_answered (d + 3) v6 _ _ _ hc7))) ?_
    exact b_iret (pc := 34) C Rt dX11_couples_34 hF
  · rw [if_pos hc2] at hF
    refine b_aload_n (pc := 10) C dX11_couples_10 rfl 0 rfl ?_
    refine b_iconst (pc := 11) C dX11_couples_11 ic_1 ?_
    obtain ⟨v12, σ11, hc10, hF⟩ := bbd_e hF
    refine b_cV1i (d' := (d + 3)) (pc := 12) C dX11_couples_12 mm_X11_75 (Hh.1 _ _ sh_0) rfl (Nat.le_of_ble_eq_true rfl) (by omega) (Hh.2.2 _ _ _ _ _ _ _ _ _ (lvl_eq (by omega) (e_X11_refused (d + 2) (1 : Int32) _ _ _ hc10))) ?_
    exact b_iret (pc := 15) C Rt dX11_couples_15 hF
set_option maxHeartbeats 4000000 in
set_option maxRecDepth 20000 in
theorem e_X11_couples {l : Launch} {G : bG} {ρ : Nat → Nat} {A : Nat → Prop} (d : Nat)  (σ : bSto) (r : Int32) (σ' : bSto) (hF : f_X11_couples  σ = some (r, σ')) : bEv l G bSHf ρ A yX11_couples cX11_couples 1 (some .int) (d + 4) [.ref 0] σ (some (.int r)) σ' := b_met (d := d + 4) (by decide +kernel) (Nat.le_of_ble_eq_true rfl) rfl (fun X C Rt h1 h2 h3 => e_X11_couples_0 C ⟨fun o q h => by rw [h1]; exact h, fun i h => by rw [h2]; exact h, h3⟩ Rt  _ hF)
/-! BenchColony.spouse -/
def f_X11_spouse (x1 : Int32) (σ : bSto) : Option (Int32 × bSto) := if kR (σ.2.2 0 7) then bbd (f_X2_has ((σ.2.2 0 7) + 7) x1 σ) (fun v4 σ3 => (if v4 = 0 then bbd (f_X11_refused (1 : Int32) σ3) (fun v16 σ15 => some (v16, σ15)) else if kR (σ3.2.2 0 7) then bbd (f_X0_pair ((σ3.2.2 0 7) + 7) σ3) (fun v9 σ8 => if x1 < 0 ∨ 7 ≤ x1.toNatClampNeg then none else bbd (f_X11_answered (σ8.1 65 x1.toNatClampNeg) σ8) (fun v13 σ12 => some (v13, σ12))) else none)) else none
set_option maxHeartbeats 4000000 in
set_option maxRecDepth 20000 in
theorem e_X11_spouse_0 {X : bX} {l : Launch} {G : bG} {ρ : Nat → Nat} {A : Nat → Prop} {d : Nat} {r : Int32} {σ' : bSto} (C : bCX X cX11_spouse RX11 (d + 4)) (Hh : bH X l G bSHf ρ A 2) (Rt : bRX X (some .int) (some (.int r)) σ') (x1 : Int32) (σ : bSto) (hF : f_X11_spouse x1 σ = some (r, σ')) : bAJ X 0 [(0, .ref 0), (1, .int x1)] [] σ := by
  rw [f_X11_spouse] at hF
  refine b_aload_n (pc := 0) C dX11_spouse_0 rfl 0 rfl ?_
  obtain ⟨hk1, hF⟩ := bif_y hF
  refine b_getR (pc := 1) C dX11_spouse_1 fl_X11_57 (Hh.1 _ _ sh_0) rfl ?_
  refine b_getS (pc := 4) C dX11_spouse_4 fl_X11_163 (Hh.1 _ _ (shR hk1)) rfl ?_
  refine b_iload_n (pc := 7) C dX11_spouse_7 rfl 1 rfl ?_
  obtain ⟨v4, σ3, hc2, hF⟩ := bbd_e hF
  refine b_cV1i (d' := (d + 3)) (pc := 8) C dX11_spouse_8 mm_X11_167 (Hh.1 _ _ (shF (kk_7_1 hk1))) rfl (Nat.le_of_ble_eq_true rfl) (by omega) (Hh.2.2 _ _ _ _ _ _ _ _ _ (lvl_eq (by omega) (e_X2_has (d + 3) _ (kk_7_1 hk1) x1 _ _ _ hc2))) ?_
  refine b_if_ne (tgt := 20) (pc := 11) C dX11_spouse_11 rfl (fun hc5 => ?_) (fun hc5 => ?_)
  · rw [if_neg hc5] at hF
    refine b_aload_n (pc := 20) C dX11_spouse_20 rfl 0 rfl ?_
    refine b_getS (pc := 21) C dX11_spouse_21 fl_X11_43 (Hh.1 _ _ sh_0) rfl ?_
    refine b_aload_n (pc := 24) C dX11_spouse_24 rfl 0 rfl ?_
    obtain ⟨hk6, hF⟩ := bif_y hF
    refine b_getR (pc := 25) C dX11_spouse_25 fl_X11_57 (Hh.1 _ _ sh_0) rfl ?_
    refine b_getS (pc := 28) C dX11_spouse_28 fl_X11_163 (Hh.1 _ _ (shR hk6)) rfl ?_
    obtain ⟨v9, σ8, hc7, hF⟩ := bbd_e hF
    refine b_cV1i (d' := (d + 3)) (pc := 31) C dX11_spouse_31 mm_X11_239 (Hh.1 _ _ sh_63) rfl (Nat.le_of_ble_eq_true rfl) (by omega) (Hh.2.2 _ _ _ _ _ _ _ _ _ (lvl_eq (by omega) (e_X0_pair (d + 0) _ (kk_7_1 hk6) _ _ _ hc7))) ?_
    refine b_pop (pc := 34) C dX11_spouse_34 rfl ?_
    refine b_aload_n (pc := 35) C dX11_spouse_35 rfl 0 rfl ?_
    refine b_aload_n (pc := 36) C dX11_spouse_36 rfl 0 rfl ?_
    refine b_getS (pc := 37) C dX11_spouse_37 fl_X11_43 (Hh.1 _ _ sh_0) rfl ?_
    refine b_getS (pc := 40) C dX11_spouse_40 fl_X11_243 (Hh.1 _ _ sh_63) rfl ?_
    refine b_iload_n (pc := 43) C dX11_spouse_43 rfl 1 rfl ?_
    obtain ⟨hb10, hF⟩ := bif_n hF
    refine b_iald (pc := 44) C dX11_spouse_44 (Hh.1 _ _ sh_65) hb10 ?_
    obtain ⟨v13, σ12, hc11, hF⟩ := bbd_e hF
    refine b_cV1i (d' := (d + 3)) (pc := 45) C dX11_spouse_45 mm_X11_124 (Hh.1 _ _ sh_0) rfl (Nat.le_of_ble_eq_true rfl) (by omega) (Hh.2.2 _ _ _ _ _ _ _ _ _ (lvl_eq (by omega) (e_X11_answered (d + 3) (σ8.1 65 x1.toNatClampNeg) _ _ _ hc11))) ?_
    exact b_iret (pc := 48) C Rt dX11_spouse_48 hF
  · rw [if_pos hc5] at hF
    refine b_aload_n (pc := 14) C dX11_spouse_14 rfl 0 rfl ?_
    refine b_iconst (pc := 15) C dX11_spouse_15 ic_1 ?_
    obtain ⟨v16, σ15, hc14, hF⟩ := bbd_e hF
    refine b_cV1i (d' := (d + 3)) (pc := 16) C dX11_spouse_16 mm_X11_75 (Hh.1 _ _ sh_0) rfl (Nat.le_of_ble_eq_true rfl) (by omega) (Hh.2.2 _ _ _ _ _ _ _ _ _ (lvl_eq (by omega) (e_X11_refused (d + 2) (1 : Int32) _ _ _ hc14))) ?_
    exact b_iret (pc := 19) C Rt dX11_spouse_19 hF
set_option maxHeartbeats 4000000 in
set_option maxRecDepth 20000 in
theorem e_X11_spouse {l : Launch} {G : bG} {ρ : Nat → Nat} {A : Nat → Prop} (d : Nat) (x1 : Int32) (σ : bSto) (r : Int32) (σ' : bSto) (hF : f_X11_spouse x1 σ = some (r, σ')) : bEv l G bSHf ρ A yX11_spouse cX11_spouse 2 (some .int) (d + 4) [.ref 0, .int x1] σ (some (.int r)) σ' := b_met (d := d + 4) (by decide +kernel) (Nat.le_of_ble_eq_true rfl) rfl (fun X C Rt h1 h2 h3 => e_X11_spouse_0 C ⟨fun o q h => by rw [h1]; exact h, fun i h => by rw [h2]; exact h, h3⟩ Rt _ _ hF)
/-! BenchColony.mayMarry -/
def f_X11_mayMarry (x1 : Int32) (σ : bSto) : Option (Int32 × bSto) := if kR (σ.2.2 0 7) then bbd (f_X2_has ((σ.2.2 0 7) + 7) x1 σ) (fun v4 σ3 => (if v4 = 0 then bbd (f_X11_refused (1 : Int32) σ3) (fun v15 σ14 => some (v15, σ14)) else if kR (σ3.2.2 0 7) then bbd (f_X2_marriable ((σ3.2.2 0 7) + 7) x1 σ3) (fun v9 σ8 => bbd (f_X11_answered v9 σ8) (fun v12 σ11 => some (v12, σ11))) else none)) else none
set_option maxHeartbeats 4000000 in
set_option maxRecDepth 20000 in
theorem e_X11_mayMarry_0 {X : bX} {l : Launch} {G : bG} {ρ : Nat → Nat} {A : Nat → Prop} {d : Nat} {r : Int32} {σ' : bSto} (C : bCX X cX11_mayMarry RX11 (d + 2)) (Hh : bH X l G bSHf ρ A 2) (Rt : bRX X (some .int) (some (.int r)) σ') (x1 : Int32) (σ : bSto) (hF : f_X11_mayMarry x1 σ = some (r, σ')) : bAJ X 0 [(0, .ref 0), (1, .int x1)] [] σ := by
  rw [f_X11_mayMarry] at hF
  refine b_aload_n (pc := 0) C dX11_mayMarry_0 rfl 0 rfl ?_
  obtain ⟨hk1, hF⟩ := bif_y hF
  refine b_getR (pc := 1) C dX11_mayMarry_1 fl_X11_57 (Hh.1 _ _ sh_0) rfl ?_
  refine b_getS (pc := 4) C dX11_mayMarry_4 fl_X11_163 (Hh.1 _ _ (shR hk1)) rfl ?_
  refine b_iload_n (pc := 7) C dX11_mayMarry_7 rfl 1 rfl ?_
  obtain ⟨v4, σ3, hc2, hF⟩ := bbd_e hF
  refine b_cV1i (d' := (d + 1)) (pc := 8) C dX11_mayMarry_8 mm_X11_167 (Hh.1 _ _ (shF (kk_7_1 hk1))) rfl (Nat.le_of_ble_eq_true rfl) (by omega) (Hh.2.2 _ _ _ _ _ _ _ _ _ (lvl_eq (by omega) (e_X2_has (d + 1) _ (kk_7_1 hk1) x1 _ _ _ hc2))) ?_
  refine b_if_ne (tgt := 20) (pc := 11) C dX11_mayMarry_11 rfl (fun hc5 => ?_) (fun hc5 => ?_)
  · rw [if_neg hc5] at hF
    refine b_aload_n (pc := 20) C dX11_mayMarry_20 rfl 0 rfl ?_
    refine b_aload_n (pc := 21) C dX11_mayMarry_21 rfl 0 rfl ?_
    obtain ⟨hk6, hF⟩ := bif_y hF
    refine b_getR (pc := 22) C dX11_mayMarry_22 fl_X11_57 (Hh.1 _ _ sh_0) rfl ?_
    refine b_getS (pc := 25) C dX11_mayMarry_25 fl_X11_163 (Hh.1 _ _ (shR hk6)) rfl ?_
    refine b_iload_n (pc := 28) C dX11_mayMarry_28 rfl 1 rfl ?_
    obtain ⟨v9, σ8, hc7, hF⟩ := bbd_e hF
    refine b_cV1i (d' := (d + 1)) (pc := 29) C dX11_mayMarry_29 mm_X11_246 (Hh.1 _ _ (shF (kk_7_1 hk6))) rfl (Nat.le_of_ble_eq_true rfl) (by omega) (Hh.2.2 _ _ _ _ _ _ _ _ _ (lvl_eq (by omega) (e_X2_marriable (d + 0) _ (kk_7_1 hk6) x1 _ _ _ hc7))) ?_
    obtain ⟨v12, σ11, hc10, hF⟩ := bbd_e hF
    refine b_cV1i (d' := (d + 1)) (pc := 32) C dX11_mayMarry_32 mm_X11_124 (Hh.1 _ _ sh_0) rfl (Nat.le_of_ble_eq_true rfl) (by omega) (Hh.2.2 _ _ _ _ _ _ _ _ _ (lvl_eq (by omega) (e_X11_answered (d + 1) v9 _ _ _ hc10))) ?_
    exact b_iret (pc := 35) C Rt dX11_mayMarry_35 hF
  · rw [if_pos hc5] at hF
    refine b_aload_n (pc := 14) C dX11_mayMarry_14 rfl 0 rfl ?_
    refine b_iconst (pc := 15) C dX11_mayMarry_15 ic_1 ?_
    obtain ⟨v15, σ14, hc13, hF⟩ := bbd_e hF
    refine b_cV1i (d' := (d + 1)) (pc := 16) C dX11_mayMarry_16 mm_X11_75 (Hh.1 _ _ sh_0) rfl (Nat.le_of_ble_eq_true rfl) (by omega) (Hh.2.2 _ _ _ _ _ _ _ _ _ (lvl_eq (by omega) (e_X11_refused (d + 0) (1 : Int32) _ _ _ hc13))) ?_
    exact b_iret (pc := 19) C Rt dX11_mayMarry_19 hF
set_option maxHeartbeats 4000000 in
set_option maxRecDepth 20000 in
theorem e_X11_mayMarry {l : Launch} {G : bG} {ρ : Nat → Nat} {A : Nat → Prop} (d : Nat) (x1 : Int32) (σ : bSto) (r : Int32) (σ' : bSto) (hF : f_X11_mayMarry x1 σ = some (r, σ')) : bEv l G bSHf ρ A yX11_mayMarry cX11_mayMarry 2 (some .int) (d + 2) [.ref 0, .int x1] σ (some (.int r)) σ' := b_met (d := d + 2) (by decide +kernel) (Nat.le_of_ble_eq_true rfl) rfl (fun X C Rt h1 h2 h3 => e_X11_mayMarry_0 C ⟨fun o q h => by rw [h1]; exact h, fun i h => by rw [h2]; exact h, h3⟩ Rt _ _ hF)
/-! BenchColony.fed -/
def f_X11_fed  (σ : bSto) : Option (Int32 × bSto) := if kR (σ.2.2 0 7) then (if (σ.1 (σ.2.2 0 7) 4) = 0 then bbd (f_X11_refused (1 : Int32) σ) (fun v16 σ15 => some (v16, σ15)) else if kR (σ.2.2 0 7) then blet (σ.1 ((σ.2.2 0 7) + 7) 7) (fun x1_4 => (if x1_4 ≤ 0 then bbd (f_X11_answered (-2 : Int32) σ) (fun v9 σ8 => some (v9, σ8)) else if x1_4 = 0 then none else bbd (f_X11_answered ((σ.1 30 2) / x1_4) σ) (fun v13 σ12 => some (v13, σ12)))) else none) else none
set_option maxHeartbeats 4000000 in
set_option maxRecDepth 20000 in
theorem e_X11_fed_0 {X : bX} {l : Launch} {G : bG} {ρ : Nat → Nat} {A : Nat → Prop} {d : Nat} {r : Int32} {σ' : bSto} (C : bCX X cX11_fed RX11 (d + 2)) (Hh : bH X l G bSHf ρ A 2) (Rt : bRX X (some .int) (some (.int r)) σ')  (σ : bSto) (hF : f_X11_fed  σ = some (r, σ')) : bAJ X 0 [(0, .ref 0)] [] σ := by
  rw [f_X11_fed] at hF
  refine b_aload_n (pc := 0) C dX11_fed_0 rfl 0 rfl ?_
  obtain ⟨hk1, hF⟩ := bif_y hF
  refine b_getR (pc := 1) C dX11_fed_1 fl_X11_57 (Hh.1 _ _ sh_0) rfl ?_
  refine b_getI (pc := 4) C dX11_fed_4 fl_X11_196 (Hh.1 _ _ (shR hk1)) rfl ?_
  refine b_if_ne (tgt := 16) (pc := 7) C dX11_fed_7 rfl (fun hc2 => ?_) (fun hc2 => ?_)
  · rw [if_neg hc2] at hF
    refine b_aload_n (pc := 16) C dX11_fed_16 rfl 0 rfl ?_
    obtain ⟨hk3, hF⟩ := bif_y hF
    refine b_getR (pc := 17) C dX11_fed_17 fl_X11_57 (Hh.1 _ _ sh_0) rfl ?_
    refine b_getS (pc := 20) C dX11_fed_20 fl_X11_163 (Hh.1 _ _ (shR hk3)) rfl ?_
    refine b_getI (pc := 23) C dX11_fed_23 fl_X11_249 (Hh.1 _ _ (shF (kk_7_1 hk3))) rfl ?_
    obtain ⟨x1_4, e5, hF⟩ := blet_e hF
    refine b_istore_n (L' := [(1, .int x1_4), (0, .ref 0)]) (pc := 26) C dX11_fed_26 rfl e5 (Hh.2.1 _ (Nat.le_of_ble_eq_true rfl)) rfl ?_
    refine b_aload_n (pc := 27) C dX11_fed_27 rfl 1 rfl ?_
    refine b_iload_n (pc := 28) C dX11_fed_28 rfl 0 rfl ?_
    refine b_if_le (tgt := 44) (pc := 29) C dX11_fed_29 rfl (fun hc6 => ?_) (fun hc6 => ?_)
    · rw [if_pos hc6] at hF
      refine b_bipush (pc := 44) C dX11_fed_44 bp_m2 ?_
      obtain ⟨v9, σ8, hc7, hF⟩ := bbd_e hF
      refine b_cV1i (d' := (d + 1)) (pc := 46) C dX11_fed_46 mm_X11_124 (Hh.1 _ _ sh_0) rfl (Nat.le_of_ble_eq_true rfl) (by omega) (Hh.2.2 _ _ _ _ _ _ _ _ _ (lvl_eq (by omega) (e_X11_answered (d + 1) (-2 : Int32) _ _ _ hc7))) ?_
      exact b_iret (pc := 49) C Rt dX11_fed_49 hF
    · rw [if_neg hc6] at hF
      refine b_aload_n (pc := 32) C dX11_fed_32 rfl 1 rfl ?_
      refine b_getS (pc := 33) C dX11_fed_33 fl_X11_19 (Hh.1 _ _ sh_0) rfl ?_
      refine b_getI (pc := 36) C dX11_fed_36 fl_X11_250 (Hh.1 _ _ sh_30) rfl ?_
      refine b_iload_n (pc := 39) C dX11_fed_39 rfl 0 rfl ?_
      obtain ⟨hz10, hF⟩ := bif_n hF
      refine b_idiv (pc := 40) C dX11_fed_40 hz10 ?_
      refine b_goto (tgt := 46) (pc := 41) C dX11_fed_41 rfl ?_
      obtain ⟨v13, σ12, hc11, hF⟩ := bbd_e hF
      refine b_cV1i (d' := (d + 1)) (pc := 46) C dX11_fed_46 mm_X11_124 (Hh.1 _ _ sh_0) rfl (Nat.le_of_ble_eq_true rfl) (by omega) (Hh.2.2 _ _ _ _ _ _ _ _ _ (lvl_eq (by omega) (e_X11_answered (d + 1) ((σ.1 30 2) / x1_4) _ _ _ hc11))) ?_
      exact b_iret (pc := 49) C Rt dX11_fed_49 hF
  · rw [if_pos hc2] at hF
    refine b_aload_n (pc := 10) C dX11_fed_10 rfl 0 rfl ?_
    refine b_iconst (pc := 11) C dX11_fed_11 ic_1 ?_
    obtain ⟨v16, σ15, hc14, hF⟩ := bbd_e hF
    refine b_cV1i (d' := (d + 1)) (pc := 12) C dX11_fed_12 mm_X11_75 (Hh.1 _ _ sh_0) rfl (Nat.le_of_ble_eq_true rfl) (by omega) (Hh.2.2 _ _ _ _ _ _ _ _ _ (lvl_eq (by omega) (e_X11_refused (d + 0) (1 : Int32) _ _ _ hc14))) ?_
    exact b_iret (pc := 15) C Rt dX11_fed_15 hF
set_option maxHeartbeats 4000000 in
set_option maxRecDepth 20000 in
theorem e_X11_fed {l : Launch} {G : bG} {ρ : Nat → Nat} {A : Nat → Prop} (d : Nat)  (σ : bSto) (r : Int32) (σ' : bSto) (hF : f_X11_fed  σ = some (r, σ')) : bEv l G bSHf ρ A yX11_fed cX11_fed 2 (some .int) (d + 2) [.ref 0] σ (some (.int r)) σ' := b_met (d := d + 2) (by decide +kernel) (Nat.le_of_ble_eq_true rfl) rfl (fun X C Rt h1 h2 h3 => e_X11_fed_0 C ⟨fun o q h => by rw [h1]; exact h, fun i h => by rw [h2]; exact h, h3⟩ Rt  _ hF)
/-! BenchColony.leftBehind -/
def f_X11_leftBehind (x1 : Int32) (σ : bSto) : Option (Int32 × bSto) := if kR (σ.2.2 0 7) then bbd (f_J9_max_7cf53 (0 : Int32) ((σ.1 30 2) - (x1 * (σ.1 ((σ.2.2 0 7) + 7) 7))) σ) (fun v4 σ3 => some (v4, σ3)) else none
set_option maxHeartbeats 4000000 in
set_option maxRecDepth 20000 in
theorem e_X11_leftBehind_0 {X : bX} {l : Launch} {G : bG} {ρ : Nat → Nat} {A : Nat → Prop} {d : Nat} {r : Int32} {σ' : bSto} (C : bCX X cX11_leftBehind RX11 (d + 1)) (Hh : bH X l G bSHf ρ A 2) (Rt : bRX X (some .int) (some (.int r)) σ') (x1 : Int32) (σ : bSto) (hF : f_X11_leftBehind x1 σ = some (r, σ')) : bAJ X 0 [(0, .ref 0), (1, .int x1)] [] σ := by
  rw [f_X11_leftBehind] at hF
  refine b_iconst (pc := 0) C dX11_leftBehind_0 ic_0 ?_
  refine b_aload_n (pc := 1) C dX11_leftBehind_1 rfl 0 rfl ?_
  refine b_getS (pc := 2) C dX11_leftBehind_2 fl_X11_19 (Hh.1 _ _ sh_0) rfl ?_
  refine b_getI (pc := 5) C dX11_leftBehind_5 fl_X11_250 (Hh.1 _ _ sh_30) rfl ?_
  refine b_iload_n (pc := 8) C dX11_leftBehind_8 rfl 1 rfl ?_
  refine b_aload_n (pc := 9) C dX11_leftBehind_9 rfl 0 rfl ?_
  obtain ⟨hk1, hF⟩ := bif_y hF
  refine b_getR (pc := 10) C dX11_leftBehind_10 fl_X11_57 (Hh.1 _ _ sh_0) rfl ?_
  refine b_getS (pc := 13) C dX11_leftBehind_13 fl_X11_163 (Hh.1 _ _ (shR hk1)) rfl ?_
  refine b_getI (pc := 16) C dX11_leftBehind_16 fl_X11_249 (Hh.1 _ _ (shF (kk_7_1 hk1))) rfl ?_
  refine b_imul (pc := 19) C dX11_leftBehind_19 ?_
  refine b_isub (pc := 20) C dX11_leftBehind_20 ?_
  obtain ⟨v4, σ3, hc2, hF⟩ := bbd_e hF
  refine b_cS2i (d' := (d + 0)) (pc := 21) C dX11_leftBehind_21 mm_X11_394 (Nat.le_of_ble_eq_true rfl) (by omega) (Hh.2.2 _ _ _ _ _ _ _ _ _ (lvl_eq (by omega) (e_J9_max_7cf53 (d + 0) (0 : Int32) ((σ.1 30 2) - (x1 * (σ.1 ((σ.2.2 0 7) + 7) 7))) _ _ _ hc2))) ?_
  exact b_iret (pc := 24) C Rt dX11_leftBehind_24 hF
set_option maxHeartbeats 4000000 in
set_option maxRecDepth 20000 in
theorem e_X11_leftBehind {l : Launch} {G : bG} {ρ : Nat → Nat} {A : Nat → Prop} (d : Nat) (x1 : Int32) (σ : bSto) (r : Int32) (σ' : bSto) (hF : f_X11_leftBehind x1 σ = some (r, σ')) : bEv l G bSHf ρ A yX11_leftBehind cX11_leftBehind 2 (some .int) (d + 1) [.ref 0, .int x1] σ (some (.int r)) σ' := b_met (d := d + 1) (by decide +kernel) (Nat.le_of_ble_eq_true rfl) rfl (fun X C Rt h1 h2 h3 => e_X11_leftBehind_0 C ⟨fun o q h => by rw [h1]; exact h, fun i h => by rw [h2]; exact h, h3⟩ Rt _ _ hF)
/-! BenchColony.eats -/
def f_X11_eats_J30  (σ : bSto) : Option (Int32 × bSto) := bbd (f_X11_refused (2 : Int32) σ) (fun v3 σ2 => some (v3, σ2))
def f_X11_eats_L54 : Nat → Int32 → Int32 → Int32 → Int32 → bSto → Option (Int32 × bSto)
  | 0, _, _, _, _, _ => none
  | n + 1, x2, x3, x4, x5, σ => (if x2 ≤ x5 then some (x4, σ) else bbd (f_X11_leftBehind x5 σ) (fun v4 σ3 => (if v4 ≤ x3 then blet (x5 + (1 : Int32)) (fun x5_6 => f_X11_eats_L54 n x2 x3 x4 x5_6 σ3) else blet (x4 + (1 : Int32)) (fun x4_8 => blet (x5 + (1 : Int32)) (fun x5_10 => f_X11_eats_L54 n x2 x3 x4_8 x5_10 σ3)))))
def f_X11_eats (x1 : Int32) (x2 : Int32) (σ : bSto) : Option (Int32 × bSto) := if kR (σ.2.2 0 7) then bbd (f_X2_has ((σ.2.2 0 7) + 7) x1 σ) (fun v4 σ3 => (if v4 = 0 then bbd (f_X11_refused (1 : Int32) σ3) (fun v19 σ18 => some (v19, σ18)) else (if x2 < 0 then f_X11_eats_J30  σ3 else (if x2 ≤ (99 : Int32) then if kR (σ3.2.2 0 7) then bbd (f_X2_eatersAhead ((σ3.2.2 0 7) + 7) x1 σ3) (fun v11 σ10 => bl1 (f_X11_eats_L54 bFU x2 v11 (0 : Int32) (0 : Int32) σ10) (fun x4_12 σ13 => bbd (f_X11_answered x4_12 σ13) (fun v16 σ15 => some (v16, σ15)))) else none else f_X11_eats_J30  σ3)))) else none
set_option maxHeartbeats 4000000 in
set_option maxRecDepth 20000 in
theorem e_X11_eats_J30 {X : bX} {l : Launch} {G : bG} {ρ : Nat → Nat} {A : Nat → Prop} {d : Nat} {r : Int32} {σ' : bSto} (C : bCX X cX11_eats RX11 (d + 2)) (Hh : bH X l G bSHf ρ A 6) (Rt : bRX X (some .int) (some (.int r)) σ')  (σ : bSto) (hF : f_X11_eats_J30  σ = some (r, σ')) : bAJ X 30 [(0, .ref 0)] [] σ := by
  rw [f_X11_eats_J30] at hF
  refine b_aload_n (pc := 30) C dX11_eats_30 rfl 0 rfl ?_
  refine b_iconst (pc := 31) C dX11_eats_31 ic_2 ?_
  obtain ⟨v3, σ2, hc1, hF⟩ := bbd_e hF
  refine b_cV1i (d' := (d + 1)) (pc := 32) C dX11_eats_32 mm_X11_75 (Hh.1 _ _ sh_0) rfl (Nat.le_of_ble_eq_true rfl) (by omega) (Hh.2.2 _ _ _ _ _ _ _ _ _ (lvl_eq (by omega) (e_X11_refused (d + 0) (2 : Int32) _ _ _ hc1))) ?_
  exact b_iret (pc := 35) C Rt dX11_eats_35 hF
set_option maxHeartbeats 4000000 in
set_option maxRecDepth 20000 in
theorem e_X11_eats_L54 {X : bX} {l : Launch} {G : bG} {ρ : Nat → Nat} {A : Nat → Prop} {d : Nat} {r : Int32} {σ' : bSto} (C : bCX X cX11_eats RX11 (d + 2)) (Hh : bH X l G bSHf ρ A 6) (Rt : bRX X (some .int) (some (.int r)) σ') : ∀ (n : Nat) (x2 : Int32) (x3 : Int32) (x4 : Int32) (x5 : Int32) (σ : bSto) (q : (Int32 × bSto)), f_X11_eats_L54 n x2 x3 x4 x5 σ = some q → (∀ (x4 : Int32) (s : bSto), q = (x4, s) → bAJ X 79 [(0, .ref 0), (4, .int x4)] [] s) → bAJ X 54 [(0, .ref 0), (2, .int x2), (3, .int x3), (4, .int x4), (5, .int x5)] [] σ := by
  intro n
  induction n with
  | zero => intro x2 x3 x4 x5 σ q hF; rw [f_X11_eats_L54] at hF; cases hF
  | succ n ih =>
    intro x2 x3 x4 x5 σ q hF hx
    rw [f_X11_eats_L54] at hF
    refine b_iload (pc := 54) C dX11_eats_54 4 rfl ?_
    refine b_iload_n (pc := 56) C dX11_eats_56 rfl 1 rfl ?_
    refine b_icmp_ge (tgt := 79) (pc := 57) C dX11_eats_57 rfl (fun hc1 => ?_) (fun hc1 => ?_)
    · rw [if_pos hc1] at hF
      exact b_sub [0, 3] rfl (hx _ _ (Option.some.inj hF).symm )
    · rw [if_neg hc1] at hF
      refine b_aload_n (pc := 60) C dX11_eats_60 rfl 0 rfl ?_
      refine b_iload (pc := 61) C dX11_eats_61 4 rfl ?_
      obtain ⟨v4, σ3, hc2, hF⟩ := bbd_e hF
      refine b_cV1i (d' := (d + 1)) (pc := 63) C dX11_eats_63 mm_X11_256 (Hh.1 _ _ sh_0) rfl (Nat.le_of_ble_eq_true rfl) (by omega) (Hh.2.2 _ _ _ _ _ _ _ _ _ (lvl_eq (by omega) (e_X11_leftBehind (d + 0) x5 _ _ _ hc2))) ?_
      refine b_iload_n (pc := 66) C dX11_eats_66 rfl 2 rfl ?_
      refine b_icmp_le (tgt := 73) (pc := 67) C dX11_eats_67 rfl (fun hc5 => ?_) (fun hc5 => ?_)
      · rw [if_pos hc5] at hF
        obtain ⟨x5_6, e7, hF⟩ := blet_e hF
        refine b_iinc (L' := [(5, .int x5_6), (0, .ref 0), (2, .int x2), (3, .int x3), (4, .int x4)]) (pc := 73) C dX11_eats_73 4 rfl ic_1 e7 (Hh.2.1 _ (Nat.le_of_ble_eq_true rfl)) rfl ?_
        refine b_goto (tgt := 54) (pc := 76) C dX11_eats_76 rfl ?_
        exact b_sub [1, 2, 3, 4, 0] rfl (ih x2 x3 x4 x5_6 _ _ hF hx)
      · rw [if_neg hc5] at hF
        obtain ⟨x4_8, e9, hF⟩ := blet_e hF
        refine b_iinc (L' := [(4, .int x4_8), (0, .ref 0), (2, .int x2), (3, .int x3), (5, .int x5)]) (pc := 70) C dX11_eats_70 3 rfl ic_1 e9 (Hh.2.1 _ (Nat.le_of_ble_eq_true rfl)) rfl ?_
        obtain ⟨x5_10, e11, hF⟩ := blet_e hF
        refine b_iinc (L' := [(5, .int x5_10), (4, .int x4_8), (0, .ref 0), (2, .int x2), (3, .int x3)]) (pc := 73) C dX11_eats_73 4 rfl ic_1 e11 (Hh.2.1 _ (Nat.le_of_ble_eq_true rfl)) rfl ?_
        refine b_goto (tgt := 54) (pc := 76) C dX11_eats_76 rfl ?_
        exact b_sub [2, 3, 4, 1, 0] rfl (ih x2 x3 x4_8 x5_10 _ _ hF hx)
set_option maxHeartbeats 4000000 in
set_option maxRecDepth 20000 in
theorem e_X11_eats_0 {X : bX} {l : Launch} {G : bG} {ρ : Nat → Nat} {A : Nat → Prop} {d : Nat} {r : Int32} {σ' : bSto} (C : bCX X cX11_eats RX11 (d + 2)) (Hh : bH X l G bSHf ρ A 6) (Rt : bRX X (some .int) (some (.int r)) σ') (x1 : Int32) (x2 : Int32) (σ : bSto) (hF : f_X11_eats x1 x2 σ = some (r, σ')) : bAJ X 0 [(0, .ref 0), (1, .int x1), (2, .int x2)] [] σ := by
  rw [f_X11_eats] at hF
  refine b_aload_n (pc := 0) C dX11_eats_0 rfl 0 rfl ?_
  obtain ⟨hk1, hF⟩ := bif_y hF
  refine b_getR (pc := 1) C dX11_eats_1 fl_X11_57 (Hh.1 _ _ sh_0) rfl ?_
  refine b_getS (pc := 4) C dX11_eats_4 fl_X11_163 (Hh.1 _ _ (shR hk1)) rfl ?_
  refine b_iload_n (pc := 7) C dX11_eats_7 rfl 1 rfl ?_
  obtain ⟨v4, σ3, hc2, hF⟩ := bbd_e hF
  refine b_cV1i (d' := (d + 1)) (pc := 8) C dX11_eats_8 mm_X11_167 (Hh.1 _ _ (shF (kk_7_1 hk1))) rfl (Nat.le_of_ble_eq_true rfl) (by omega) (Hh.2.2 _ _ _ _ _ _ _ _ _ (lvl_eq (by omega) (e_X2_has (d + 1) _ (kk_7_1 hk1) x1 _ _ _ hc2))) ?_
  refine b_if_ne (tgt := 20) (pc := 11) C dX11_eats_11 rfl (fun hc5 => ?_) (fun hc5 => ?_)
  · rw [if_neg hc5] at hF
    refine b_iload_n (pc := 20) C dX11_eats_20 rfl 2 rfl ?_
    refine b_if_lt (tgt := 30) (pc := 21) C dX11_eats_21 rfl (fun hc6 => ?_) (fun hc6 => ?_)
    · rw [if_pos hc6] at hF
      exact b_sub [0] rfl (e_X11_eats_J30 C Hh Rt  _ hF)
    · rw [if_neg hc6] at hF
      refine b_iload_n (pc := 24) C dX11_eats_24 rfl 2 rfl ?_
      refine b_bipush (pc := 25) C dX11_eats_25 bp_99 ?_
      refine b_icmp_le (tgt := 36) (pc := 27) C dX11_eats_27 rfl (fun hc7 => ?_) (fun hc7 => ?_)
      · rw [if_pos hc7] at hF
        refine b_aload_n (pc := 36) C dX11_eats_36 rfl 0 rfl ?_
        obtain ⟨hk8, hF⟩ := bif_y hF
        refine b_getR (pc := 37) C dX11_eats_37 fl_X11_57 (Hh.1 _ _ sh_0) rfl ?_
        refine b_getS (pc := 40) C dX11_eats_40 fl_X11_163 (Hh.1 _ _ (shR hk8)) rfl ?_
        refine b_iload_n (pc := 43) C dX11_eats_43 rfl 1 rfl ?_
        obtain ⟨v11, σ10, hc9, hF⟩ := bbd_e hF
        refine b_cV1i (d' := (d + 1)) (pc := 44) C dX11_eats_44 mm_X11_253 (Hh.1 _ _ (shF (kk_7_1 hk8))) rfl (Nat.le_of_ble_eq_true rfl) (by omega) (Hh.2.2 _ _ _ _ _ _ _ _ _ (lvl_eq (by omega) (e_X2_eatersAhead (d + 0) _ (kk_7_1 hk8) x1 _ _ _ hc9))) ?_
        refine b_istore_n (L' := [(3, .int v11), (0, .ref 0), (1, .int x1), (2, .int x2)]) (pc := 47) C dX11_eats_47 rfl rfl (Hh.2.1 _ (Nat.le_of_ble_eq_true rfl)) rfl ?_
        refine b_iconst (pc := 48) C dX11_eats_48 ic_0 ?_
        refine b_istore (L' := [(4, .int (0 : Int32)), (3, .int v11), (0, .ref 0), (1, .int x1), (2, .int x2)]) (pc := 49) C dX11_eats_49 rfl (Hh.2.1 _ (Nat.le_of_ble_eq_true rfl)) rfl ?_
        refine b_iconst (pc := 51) C dX11_eats_51 ic_0 ?_
        refine b_istore (L' := [(5, .int (0 : Int32)), (4, .int (0 : Int32)), (3, .int v11), (0, .ref 0), (1, .int x1), (2, .int x2)]) (pc := 52) C dX11_eats_52 rfl (Hh.2.1 _ (Nat.le_of_ble_eq_true rfl)) rfl ?_
        obtain ⟨x4_12, σ13, hq12, hF⟩ := bl1_e hF
        refine b_sub [3, 5, 2, 1, 0] rfl (e_X11_eats_L54 C Hh Rt bFU x2 v11 (0 : Int32) (0 : Int32) _ _ hq12 (fun _ _ e  => ?_))
        cases e
        refine b_aload_n (pc := 79) C dX11_eats_79 rfl 0 rfl ?_
        refine b_iload (pc := 80) C dX11_eats_80 1 rfl ?_
        obtain ⟨v16, σ15, hc14, hF⟩ := bbd_e hF
        refine b_cV1i (d' := (d + 1)) (pc := 82) C dX11_eats_82 mm_X11_124 (Hh.1 _ _ sh_0) rfl (Nat.le_of_ble_eq_true rfl) (by omega) (Hh.2.2 _ _ _ _ _ _ _ _ _ (lvl_eq (by omega) (e_X11_answered (d + 1) x4_12 _ _ _ hc14))) ?_
        exact b_iret (pc := 85) C Rt dX11_eats_85 hF
      · rw [if_neg hc7] at hF
        exact b_sub [0] rfl (e_X11_eats_J30 C Hh Rt  _ hF)
  · rw [if_pos hc5] at hF
    refine b_aload_n (pc := 14) C dX11_eats_14 rfl 0 rfl ?_
    refine b_iconst (pc := 15) C dX11_eats_15 ic_1 ?_
    obtain ⟨v19, σ18, hc17, hF⟩ := bbd_e hF
    refine b_cV1i (d' := (d + 1)) (pc := 16) C dX11_eats_16 mm_X11_75 (Hh.1 _ _ sh_0) rfl (Nat.le_of_ble_eq_true rfl) (by omega) (Hh.2.2 _ _ _ _ _ _ _ _ _ (lvl_eq (by omega) (e_X11_refused (d + 0) (1 : Int32) _ _ _ hc17))) ?_
    exact b_iret (pc := 19) C Rt dX11_eats_19 hF
set_option maxHeartbeats 4000000 in
set_option maxRecDepth 20000 in
theorem e_X11_eats {l : Launch} {G : bG} {ρ : Nat → Nat} {A : Nat → Prop} (d : Nat) (x1 : Int32) (x2 : Int32) (σ : bSto) (r : Int32) (σ' : bSto) (hF : f_X11_eats x1 x2 σ = some (r, σ')) : bEv l G bSHf ρ A yX11_eats cX11_eats 6 (some .int) (d + 2) [.ref 0, .int x1, .int x2] σ (some (.int r)) σ' := b_met (d := d + 2) (by decide +kernel) (Nat.le_of_ble_eq_true rfl) rfl (fun X C Rt h1 h2 h3 => e_X11_eats_0 C ⟨fun o q h => by rw [h1]; exact h, fun i h => by rw [h2]; exact h, h3⟩ Rt _ _ _ hF)
/-! BenchColony.left -/
def f_X11_left_J26  (σ : bSto) : Option (Int32 × bSto) := bbd (f_X11_refused (2 : Int32) σ) (fun v3 σ2 => some (v3, σ2))
def f_X11_left (x1 : Int32) (σ : bSto) : Option (Int32 × bSto) := if kR (σ.2.2 0 7) then (if (σ.1 (σ.2.2 0 7) 4) = 0 then bbd (f_X11_refused (1 : Int32) σ) (fun v13 σ12 => some (v13, σ12)) else (if x1 < 0 then f_X11_left_J26  σ else (if x1 ≤ (99 : Int32) then bbd (f_X11_leftBehind x1 σ) (fun v7 σ6 => bbd (f_X11_answered v7 σ6) (fun v10 σ9 => some (v10, σ9))) else f_X11_left_J26  σ))) else none
set_option maxHeartbeats 4000000 in
set_option maxRecDepth 20000 in
theorem e_X11_left_J26 {X : bX} {l : Launch} {G : bG} {ρ : Nat → Nat} {A : Nat → Prop} {d : Nat} {r : Int32} {σ' : bSto} (C : bCX X cX11_left RX11 (d + 2)) (Hh : bH X l G bSHf ρ A 2) (Rt : bRX X (some .int) (some (.int r)) σ')  (σ : bSto) (hF : f_X11_left_J26  σ = some (r, σ')) : bAJ X 26 [(0, .ref 0)] [] σ := by
  rw [f_X11_left_J26] at hF
  refine b_aload_n (pc := 26) C dX11_left_26 rfl 0 rfl ?_
  refine b_iconst (pc := 27) C dX11_left_27 ic_2 ?_
  obtain ⟨v3, σ2, hc1, hF⟩ := bbd_e hF
  refine b_cV1i (d' := (d + 1)) (pc := 28) C dX11_left_28 mm_X11_75 (Hh.1 _ _ sh_0) rfl (Nat.le_of_ble_eq_true rfl) (by omega) (Hh.2.2 _ _ _ _ _ _ _ _ _ (lvl_eq (by omega) (e_X11_refused (d + 0) (2 : Int32) _ _ _ hc1))) ?_
  exact b_iret (pc := 31) C Rt dX11_left_31 hF
set_option maxHeartbeats 4000000 in
set_option maxRecDepth 20000 in
theorem e_X11_left_0 {X : bX} {l : Launch} {G : bG} {ρ : Nat → Nat} {A : Nat → Prop} {d : Nat} {r : Int32} {σ' : bSto} (C : bCX X cX11_left RX11 (d + 2)) (Hh : bH X l G bSHf ρ A 2) (Rt : bRX X (some .int) (some (.int r)) σ') (x1 : Int32) (σ : bSto) (hF : f_X11_left x1 σ = some (r, σ')) : bAJ X 0 [(0, .ref 0), (1, .int x1)] [] σ := by
  rw [f_X11_left] at hF
  refine b_aload_n (pc := 0) C dX11_left_0 rfl 0 rfl ?_
  obtain ⟨hk1, hF⟩ := bif_y hF
  refine b_getR (pc := 1) C dX11_left_1 fl_X11_57 (Hh.1 _ _ sh_0) rfl ?_
  refine b_getI (pc := 4) C dX11_left_4 fl_X11_196 (Hh.1 _ _ (shR hk1)) rfl ?_
  refine b_if_ne (tgt := 16) (pc := 7) C dX11_left_7 rfl (fun hc2 => ?_) (fun hc2 => ?_)
  · rw [if_neg hc2] at hF
    refine b_iload_n (pc := 16) C dX11_left_16 rfl 1 rfl ?_
    refine b_if_lt (tgt := 26) (pc := 17) C dX11_left_17 rfl (fun hc3 => ?_) (fun hc3 => ?_)
    · rw [if_pos hc3] at hF
      exact b_sub [0] rfl (e_X11_left_J26 C Hh Rt  _ hF)
    · rw [if_neg hc3] at hF
      refine b_iload_n (pc := 20) C dX11_left_20 rfl 1 rfl ?_
      refine b_bipush (pc := 21) C dX11_left_21 bp_99 ?_
      refine b_icmp_le (tgt := 32) (pc := 23) C dX11_left_23 rfl (fun hc4 => ?_) (fun hc4 => ?_)
      · rw [if_pos hc4] at hF
        refine b_aload_n (pc := 32) C dX11_left_32 rfl 0 rfl ?_
        refine b_aload_n (pc := 33) C dX11_left_33 rfl 0 rfl ?_
        refine b_iload_n (pc := 34) C dX11_left_34 rfl 1 rfl ?_
        obtain ⟨v7, σ6, hc5, hF⟩ := bbd_e hF
        refine b_cV1i (d' := (d + 1)) (pc := 35) C dX11_left_35 mm_X11_256 (Hh.1 _ _ sh_0) rfl (Nat.le_of_ble_eq_true rfl) (by omega) (Hh.2.2 _ _ _ _ _ _ _ _ _ (lvl_eq (by omega) (e_X11_leftBehind (d + 0) x1 _ _ _ hc5))) ?_
        obtain ⟨v10, σ9, hc8, hF⟩ := bbd_e hF
        refine b_cV1i (d' := (d + 1)) (pc := 38) C dX11_left_38 mm_X11_124 (Hh.1 _ _ sh_0) rfl (Nat.le_of_ble_eq_true rfl) (by omega) (Hh.2.2 _ _ _ _ _ _ _ _ _ (lvl_eq (by omega) (e_X11_answered (d + 1) v7 _ _ _ hc8))) ?_
        exact b_iret (pc := 41) C Rt dX11_left_41 hF
      · rw [if_neg hc4] at hF
        exact b_sub [0] rfl (e_X11_left_J26 C Hh Rt  _ hF)
  · rw [if_pos hc2] at hF
    refine b_aload_n (pc := 10) C dX11_left_10 rfl 0 rfl ?_
    refine b_iconst (pc := 11) C dX11_left_11 ic_1 ?_
    obtain ⟨v13, σ12, hc11, hF⟩ := bbd_e hF
    refine b_cV1i (d' := (d + 1)) (pc := 12) C dX11_left_12 mm_X11_75 (Hh.1 _ _ sh_0) rfl (Nat.le_of_ble_eq_true rfl) (by omega) (Hh.2.2 _ _ _ _ _ _ _ _ _ (lvl_eq (by omega) (e_X11_refused (d + 0) (1 : Int32) _ _ _ hc11))) ?_
    exact b_iret (pc := 15) C Rt dX11_left_15 hF
set_option maxHeartbeats 4000000 in
set_option maxRecDepth 20000 in
theorem e_X11_left {l : Launch} {G : bG} {ρ : Nat → Nat} {A : Nat → Prop} (d : Nat) (x1 : Int32) (σ : bSto) (r : Int32) (σ' : bSto) (hF : f_X11_left x1 σ = some (r, σ')) : bEv l G bSHf ρ A yX11_left cX11_left 2 (some .int) (d + 2) [.ref 0, .int x1] σ (some (.int r)) σ' := b_met (d := d + 2) (by decide +kernel) (Nat.le_of_ble_eq_true rfl) rfl (fun X C Rt h1 h2 h3 => e_X11_left_0 C ⟨fun o q h => by rw [h1]; exact h, fun i h => by rw [h2]; exact h, h3⟩ Rt _ _ hF)
/-! BenchColony.trains -/
def f_X11_trains  (σ : bSto) : Option (Int32 × bSto) := if kR (σ.2.2 0 7) then (if (σ.1 (σ.2.2 0 7) 4) = 0 then bbd (f_X11_refused (1 : Int32) σ) (fun v9 σ8 => some (v9, σ8)) else if kR (σ.2.2 0 7) then bbd (f_X11_answered (σ.1 ((σ.2.2 0 7) + 15) 6) σ) (fun v6 σ5 => some (v6, σ5)) else none) else none
set_option maxHeartbeats 4000000 in
set_option maxRecDepth 20000 in
theorem e_X11_trains_0 {X : bX} {l : Launch} {G : bG} {ρ : Nat → Nat} {A : Nat → Prop} {d : Nat} {r : Int32} {σ' : bSto} (C : bCX X cX11_trains RX11 (d + 2)) (Hh : bH X l G bSHf ρ A 1) (Rt : bRX X (some .int) (some (.int r)) σ')  (σ : bSto) (hF : f_X11_trains  σ = some (r, σ')) : bAJ X 0 [(0, .ref 0)] [] σ := by
  rw [f_X11_trains] at hF
  refine b_aload_n (pc := 0) C dX11_trains_0 rfl 0 rfl ?_
  obtain ⟨hk1, hF⟩ := bif_y hF
  refine b_getR (pc := 1) C dX11_trains_1 fl_X11_57 (Hh.1 _ _ sh_0) rfl ?_
  refine b_getI (pc := 4) C dX11_trains_4 fl_X11_196 (Hh.1 _ _ (shR hk1)) rfl ?_
  refine b_if_ne (tgt := 16) (pc := 7) C dX11_trains_7 rfl (fun hc2 => ?_) (fun hc2 => ?_)
  · rw [if_neg hc2] at hF
    refine b_aload_n (pc := 16) C dX11_trains_16 rfl 0 rfl ?_
    refine b_aload_n (pc := 17) C dX11_trains_17 rfl 0 rfl ?_
    obtain ⟨hk3, hF⟩ := bif_y hF
    refine b_getR (pc := 18) C dX11_trains_18 fl_X11_57 (Hh.1 _ _ sh_0) rfl ?_
    refine b_getS (pc := 21) C dX11_trains_21 fl_X11_96 (Hh.1 _ _ (shR hk3)) rfl ?_
    refine b_getI (pc := 24) C dX11_trains_24 fl_X11_259 (Hh.1 _ _ (shT (kk_7_2 hk3))) rfl ?_
    obtain ⟨v6, σ5, hc4, hF⟩ := bbd_e hF
    refine b_cV1i (d' := (d + 1)) (pc := 27) C dX11_trains_27 mm_X11_124 (Hh.1 _ _ sh_0) rfl (Nat.le_of_ble_eq_true rfl) (by omega) (Hh.2.2 _ _ _ _ _ _ _ _ _ (lvl_eq (by omega) (e_X11_answered (d + 1) (σ.1 ((σ.2.2 0 7) + 15) 6) _ _ _ hc4))) ?_
    exact b_iret (pc := 30) C Rt dX11_trains_30 hF
  · rw [if_pos hc2] at hF
    refine b_aload_n (pc := 10) C dX11_trains_10 rfl 0 rfl ?_
    refine b_iconst (pc := 11) C dX11_trains_11 ic_1 ?_
    obtain ⟨v9, σ8, hc7, hF⟩ := bbd_e hF
    refine b_cV1i (d' := (d + 1)) (pc := 12) C dX11_trains_12 mm_X11_75 (Hh.1 _ _ sh_0) rfl (Nat.le_of_ble_eq_true rfl) (by omega) (Hh.2.2 _ _ _ _ _ _ _ _ _ (lvl_eq (by omega) (e_X11_refused (d + 0) (1 : Int32) _ _ _ hc7))) ?_
    exact b_iret (pc := 15) C Rt dX11_trains_15 hF
set_option maxHeartbeats 4000000 in
set_option maxRecDepth 20000 in
theorem e_X11_trains {l : Launch} {G : bG} {ρ : Nat → Nat} {A : Nat → Prop} (d : Nat)  (σ : bSto) (r : Int32) (σ' : bSto) (hF : f_X11_trains  σ = some (r, σ')) : bEv l G bSHf ρ A yX11_trains cX11_trains 1 (some .int) (d + 2) [.ref 0] σ (some (.int r)) σ' := b_met (d := d + 2) (by decide +kernel) (Nat.le_of_ble_eq_true rfl) rfl (fun X C Rt h1 h2 h3 => e_X11_trains_0 C ⟨fun o q h => by rw [h1]; exact h, fun i h => by rw [h2]; exact h, h3⟩ Rt  _ hF)
/-! BenchColony.trainAt -/
def f_X11_trainAt_J30  (σ : bSto) : Option (Int32 × bSto) := bbd (f_X11_refused (1 : Int32) σ) (fun v3 σ2 => some (v3, σ2))
def f_X11_trainAt (x1 : Int32) (σ : bSto) : Option (Int32 × bSto) := if kR (σ.2.2 0 7) then if kR (σ.2.2 0 7) then (if (σ.1 (σ.2.2 0 7) 4) = 0 then f_X11_trainAt_J30  σ else (if x1 < 0 then f_X11_trainAt_J30  σ else (if x1 < (σ.1 ((σ.2.2 0 7) + 15) 6) then if x1 < 0 ∨ 77 ≤ x1.toNatClampNeg then none else bbd (f_X11_answered (σ.1 (((σ.2.2 0 7) + 15) + 3) x1.toNatClampNeg) σ) (fun v9 σ8 => some (v9, σ8)) else f_X11_trainAt_J30  σ))) else none else none
set_option maxHeartbeats 4000000 in
set_option maxRecDepth 20000 in
theorem e_X11_trainAt_J30 {X : bX} {l : Launch} {G : bG} {ρ : Nat → Nat} {A : Nat → Prop} {d : Nat} {r : Int32} {σ' : bSto} (C : bCX X cX11_trainAt RX11 (d + 2)) (Hh : bH X l G bSHf ρ A 3) (Rt : bRX X (some .int) (some (.int r)) σ')  (σ : bSto) (hF : f_X11_trainAt_J30  σ = some (r, σ')) : bAJ X 30 [(0, .ref 0)] [] σ := by
  rw [f_X11_trainAt_J30] at hF
  refine b_aload_n (pc := 30) C dX11_trainAt_30 rfl 0 rfl ?_
  refine b_iconst (pc := 31) C dX11_trainAt_31 ic_1 ?_
  obtain ⟨v3, σ2, hc1, hF⟩ := bbd_e hF
  refine b_cV1i (d' := (d + 1)) (pc := 32) C dX11_trainAt_32 mm_X11_75 (Hh.1 _ _ sh_0) rfl (Nat.le_of_ble_eq_true rfl) (by omega) (Hh.2.2 _ _ _ _ _ _ _ _ _ (lvl_eq (by omega) (e_X11_refused (d + 0) (1 : Int32) _ _ _ hc1))) ?_
  exact b_iret (pc := 35) C Rt dX11_trainAt_35 hF
set_option maxHeartbeats 4000000 in
set_option maxRecDepth 20000 in
theorem e_X11_trainAt_0 {X : bX} {l : Launch} {G : bG} {ρ : Nat → Nat} {A : Nat → Prop} {d : Nat} {r : Int32} {σ' : bSto} (C : bCX X cX11_trainAt RX11 (d + 2)) (Hh : bH X l G bSHf ρ A 3) (Rt : bRX X (some .int) (some (.int r)) σ') (x1 : Int32) (σ : bSto) (hF : f_X11_trainAt x1 σ = some (r, σ')) : bAJ X 0 [(0, .ref 0), (1, .int x1)] [] σ := by
  rw [f_X11_trainAt] at hF
  refine b_aload_n (pc := 0) C dX11_trainAt_0 rfl 0 rfl ?_
  obtain ⟨hk1, hF⟩ := bif_y hF
  refine b_getR (pc := 1) C dX11_trainAt_1 fl_X11_57 (Hh.1 _ _ sh_0) rfl ?_
  refine b_getS (pc := 4) C dX11_trainAt_4 fl_X11_96 (Hh.1 _ _ (shR hk1)) rfl ?_
  refine b_astore_n (L' := [(2, .ref ((σ.2.2 0 7) + 15)), (0, .ref 0), (1, .int x1)]) (pc := 7) C dX11_trainAt_7 rfl rfl (Hh.2.1 _ (Nat.le_of_ble_eq_true rfl)) rfl ?_
  refine b_aload_n (pc := 8) C dX11_trainAt_8 rfl 1 rfl ?_
  obtain ⟨hk2, hF⟩ := bif_y hF
  refine b_getR (pc := 9) C dX11_trainAt_9 fl_X11_57 (Hh.1 _ _ sh_0) rfl ?_
  refine b_getI (pc := 12) C dX11_trainAt_12 fl_X11_196 (Hh.1 _ _ (shR hk2)) rfl ?_
  refine b_if_eq (tgt := 30) (pc := 15) C dX11_trainAt_15 rfl (fun hc3 => ?_) (fun hc3 => ?_)
  · rw [if_pos hc3] at hF
    exact b_sub [1] rfl (e_X11_trainAt_J30 C Hh Rt  _ hF)
  · rw [if_neg hc3] at hF
    refine b_iload_n (pc := 18) C dX11_trainAt_18 rfl 2 rfl ?_
    refine b_if_lt (tgt := 30) (pc := 19) C dX11_trainAt_19 rfl (fun hc4 => ?_) (fun hc4 => ?_)
    · rw [if_pos hc4] at hF
      exact b_sub [1] rfl (e_X11_trainAt_J30 C Hh Rt  _ hF)
    · rw [if_neg hc4] at hF
      refine b_iload_n (pc := 22) C dX11_trainAt_22 rfl 2 rfl ?_
      refine b_aload_n (pc := 23) C dX11_trainAt_23 rfl 0 rfl ?_
      refine b_getI (pc := 24) C dX11_trainAt_24 fl_X11_259 (Hh.1 _ _ (shT (kk_7_2 hk1))) rfl ?_
      refine b_icmp_lt (tgt := 36) (pc := 27) C dX11_trainAt_27 rfl (fun hc5 => ?_) (fun hc5 => ?_)
      · rw [if_pos hc5] at hF
        refine b_aload_n (pc := 36) C dX11_trainAt_36 rfl 1 rfl ?_
        refine b_aload_n (pc := 37) C dX11_trainAt_37 rfl 0 rfl ?_
        refine b_getS (pc := 38) C dX11_trainAt_38 fl_X11_262 (Hh.1 _ _ (shT (kk_7_2 hk1))) rfl ?_
        refine b_iload_n (pc := 41) C dX11_trainAt_41 rfl 2 rfl ?_
        obtain ⟨hb6, hF⟩ := bif_n hF
        refine b_iald (pc := 42) C dX11_trainAt_42 (Hh.1 _ _ (sa_10_2 (kk_7_2 hk1))) hb6 ?_
        obtain ⟨v9, σ8, hc7, hF⟩ := bbd_e hF
        refine b_cV1i (d' := (d + 1)) (pc := 43) C dX11_trainAt_43 mm_X11_124 (Hh.1 _ _ sh_0) rfl (Nat.le_of_ble_eq_true rfl) (by omega) (Hh.2.2 _ _ _ _ _ _ _ _ _ (lvl_eq (by omega) (e_X11_answered (d + 1) (σ.1 (((σ.2.2 0 7) + 15) + 3) x1.toNatClampNeg) _ _ _ hc7))) ?_
        exact b_iret (pc := 46) C Rt dX11_trainAt_46 hF
      · rw [if_neg hc5] at hF
        exact b_sub [1] rfl (e_X11_trainAt_J30 C Hh Rt  _ hF)
set_option maxHeartbeats 4000000 in
set_option maxRecDepth 20000 in
theorem e_X11_trainAt {l : Launch} {G : bG} {ρ : Nat → Nat} {A : Nat → Prop} (d : Nat) (x1 : Int32) (σ : bSto) (r : Int32) (σ' : bSto) (hF : f_X11_trainAt x1 σ = some (r, σ')) : bEv l G bSHf ρ A yX11_trainAt cX11_trainAt 3 (some .int) (d + 2) [.ref 0, .int x1] σ (some (.int r)) σ' := b_met (d := d + 2) (by decide +kernel) (Nat.le_of_ble_eq_true rfl) rfl (fun X C Rt h1 h2 h3 => e_X11_trainAt_0 C ⟨fun o q h => by rw [h1]; exact h, fun i h => by rw [h2]; exact h, h3⟩ Rt _ _ hF)
/-! BenchColony.isHour -/
def f_X11_isHour_J14  (σ : bSto) : Option (Int32 × bSto) := some ((0 : Int32), σ)
def f_X11_isHour (x0 : Int32) (σ : bSto) : Option (Int32 × bSto) := (if x0 < 0 then f_X11_isHour_J14  σ else (if (100 : Int32) ≤ x0 then f_X11_isHour_J14  σ else some ((1 : Int32), σ)))
set_option maxHeartbeats 4000000 in
set_option maxRecDepth 20000 in
theorem e_X11_isHour_J14 {X : bX} {l : Launch} {G : bG} {ρ : Nat → Nat} {A : Nat → Prop} {d : Nat} {r : Int32} {σ' : bSto} (C : bCX X cX11_isHour RX11 (d + 0)) (Hh : bH X l G bSHf ρ A 1) (Rt : bRX X (some .boolean) (some (.int r)) σ')  (σ : bSto) (hF : f_X11_isHour_J14  σ = some (r, σ')) : bAJ X 14 [] [] σ := by
  rw [f_X11_isHour_J14] at hF
  refine b_iconst (pc := 14) C dX11_isHour_14 ic_0 ?_
  exact b_zret (pc := 15) C Rt dX11_isHour_15 rfl hF
set_option maxHeartbeats 4000000 in
set_option maxRecDepth 20000 in
theorem e_X11_isHour_0 {X : bX} {l : Launch} {G : bG} {ρ : Nat → Nat} {A : Nat → Prop} {d : Nat} {r : Int32} {σ' : bSto} (C : bCX X cX11_isHour RX11 (d + 0)) (Hh : bH X l G bSHf ρ A 1) (Rt : bRX X (some .boolean) (some (.int r)) σ') (x0 : Int32) (σ : bSto) (hF : f_X11_isHour x0 σ = some (r, σ')) : bAJ X 0 [(0, .int x0)] [] σ := by
  rw [f_X11_isHour] at hF
  refine b_iload_n (pc := 0) C dX11_isHour_0 rfl 0 rfl ?_
  refine b_if_lt (tgt := 14) (pc := 1) C dX11_isHour_1 rfl (fun hc1 => ?_) (fun hc1 => ?_)
  · rw [if_pos hc1] at hF
    exact b_sub [] rfl (e_X11_isHour_J14 C Hh Rt  _ hF)
  · rw [if_neg hc1] at hF
    refine b_iload_n (pc := 4) C dX11_isHour_4 rfl 0 rfl ?_
    refine b_bipush (pc := 5) C dX11_isHour_5 bp_100 ?_
    refine b_icmp_ge (tgt := 14) (pc := 7) C dX11_isHour_7 rfl (fun hc2 => ?_) (fun hc2 => ?_)
    · rw [if_pos hc2] at hF
      exact b_sub [] rfl (e_X11_isHour_J14 C Hh Rt  _ hF)
    · rw [if_neg hc2] at hF
      refine b_iconst (pc := 10) C dX11_isHour_10 ic_1 ?_
      refine b_goto (tgt := 15) (pc := 11) C dX11_isHour_11 rfl ?_
      exact b_zret (pc := 15) C Rt dX11_isHour_15 rfl hF
set_option maxHeartbeats 4000000 in
set_option maxRecDepth 20000 in
theorem e_X11_isHour {l : Launch} {G : bG} {ρ : Nat → Nat} {A : Nat → Prop} (d : Nat) (x0 : Int32) (σ : bSto) (r : Int32) (σ' : bSto) (hF : f_X11_isHour x0 σ = some (r, σ')) : bEv l G bSHf ρ A yX11_isHour cX11_isHour 1 (some .boolean) (d + 0) [.int x0] σ (some (.int r)) σ' := b_met (d := d + 0) (by decide +kernel) (Nat.le_of_ble_eq_true rfl) rfl (fun X C Rt h1 h2 h3 => e_X11_isHour_0 C ⟨fun o q h => by rw [h1]; exact h, fun i h => by rw [h2]; exact h, h3⟩ Rt _ _ hF)
/-! BenchColony.comes -/
def f_X11_comes (x1 : Int32) (σ : bSto) : Option (Int32 × bSto) := if kR (σ.2.2 0 7) then (if (σ.1 (σ.2.2 0 7) 4) = 0 then bbd (f_X11_refused (1 : Int32) σ) (fun v17 σ16 => some (v17, σ16)) else bbd (f_X11_isHour x1 σ) (fun v5 σ4 => (if v5 = 0 then bbd (f_X11_refused (2 : Int32) σ4) (fun v14 σ13 => some (v14, σ13)) else if kR (σ4.2.2 0 7) then if x1 < 0 ∨ 100 ≤ x1.toNatClampNeg then none else bbd (f_X11_answered (σ4.1 (((σ4.2.2 0 7) + 15) + 4) x1.toNatClampNeg) σ4) (fun v11 σ10 => some (v11, σ10)) else none))) else none
set_option maxHeartbeats 4000000 in
set_option maxRecDepth 20000 in
theorem e_X11_comes_0 {X : bX} {l : Launch} {G : bG} {ρ : Nat → Nat} {A : Nat → Prop} {d : Nat} {r : Int32} {σ' : bSto} (C : bCX X cX11_comes RX11 (d + 2)) (Hh : bH X l G bSHf ρ A 2) (Rt : bRX X (some .int) (some (.int r)) σ') (x1 : Int32) (σ : bSto) (hF : f_X11_comes x1 σ = some (r, σ')) : bAJ X 0 [(0, .ref 0), (1, .int x1)] [] σ := by
  rw [f_X11_comes] at hF
  refine b_aload_n (pc := 0) C dX11_comes_0 rfl 0 rfl ?_
  obtain ⟨hk1, hF⟩ := bif_y hF
  refine b_getR (pc := 1) C dX11_comes_1 fl_X11_57 (Hh.1 _ _ sh_0) rfl ?_
  refine b_getI (pc := 4) C dX11_comes_4 fl_X11_196 (Hh.1 _ _ (shR hk1)) rfl ?_
  refine b_if_ne (tgt := 16) (pc := 7) C dX11_comes_7 rfl (fun hc2 => ?_) (fun hc2 => ?_)
  · rw [if_neg hc2] at hF
    refine b_iload_n (pc := 16) C dX11_comes_16 rfl 1 rfl ?_
    obtain ⟨v5, σ4, hc3, hF⟩ := bbd_e hF
    refine b_cS1i (d' := (d + 1)) (pc := 17) C dX11_comes_17 mm_X11_265 (Nat.le_of_ble_eq_true rfl) (by omega) (Hh.2.2 _ _ _ _ _ _ _ _ _ (lvl_eq (by omega) (e_X11_isHour (d + 1) x1 _ _ _ hc3))) ?_
    refine b_if_ne (tgt := 29) (pc := 20) C dX11_comes_20 rfl (fun hc6 => ?_) (fun hc6 => ?_)
    · rw [if_neg hc6] at hF
      refine b_aload_n (pc := 29) C dX11_comes_29 rfl 0 rfl ?_
      refine b_aload_n (pc := 30) C dX11_comes_30 rfl 0 rfl ?_
      obtain ⟨hk7, hF⟩ := bif_y hF
      refine b_getR (pc := 31) C dX11_comes_31 fl_X11_57 (Hh.1 _ _ sh_0) rfl ?_
      refine b_getS (pc := 34) C dX11_comes_34 fl_X11_96 (Hh.1 _ _ (shR hk7)) rfl ?_
      refine b_getS (pc := 37) C dX11_comes_37 fl_X11_268 (Hh.1 _ _ (shT (kk_7_2 hk7))) rfl ?_
      refine b_iload_n (pc := 40) C dX11_comes_40 rfl 1 rfl ?_
      obtain ⟨hb8, hF⟩ := bif_n hF
      refine b_iald (pc := 41) C dX11_comes_41 (Hh.1 _ _ (sa_10_3 (kk_7_2 hk7))) hb8 ?_
      obtain ⟨v11, σ10, hc9, hF⟩ := bbd_e hF
      refine b_cV1i (d' := (d + 1)) (pc := 42) C dX11_comes_42 mm_X11_124 (Hh.1 _ _ sh_0) rfl (Nat.le_of_ble_eq_true rfl) (by omega) (Hh.2.2 _ _ _ _ _ _ _ _ _ (lvl_eq (by omega) (e_X11_answered (d + 1) (σ4.1 (((σ4.2.2 0 7) + 15) + 4) x1.toNatClampNeg) _ _ _ hc9))) ?_
      exact b_iret (pc := 45) C Rt dX11_comes_45 hF
    · rw [if_pos hc6] at hF
      refine b_aload_n (pc := 23) C dX11_comes_23 rfl 0 rfl ?_
      refine b_iconst (pc := 24) C dX11_comes_24 ic_2 ?_
      obtain ⟨v14, σ13, hc12, hF⟩ := bbd_e hF
      refine b_cV1i (d' := (d + 1)) (pc := 25) C dX11_comes_25 mm_X11_75 (Hh.1 _ _ sh_0) rfl (Nat.le_of_ble_eq_true rfl) (by omega) (Hh.2.2 _ _ _ _ _ _ _ _ _ (lvl_eq (by omega) (e_X11_refused (d + 0) (2 : Int32) _ _ _ hc12))) ?_
      exact b_iret (pc := 28) C Rt dX11_comes_28 hF
  · rw [if_pos hc2] at hF
    refine b_aload_n (pc := 10) C dX11_comes_10 rfl 0 rfl ?_
    refine b_iconst (pc := 11) C dX11_comes_11 ic_1 ?_
    obtain ⟨v17, σ16, hc15, hF⟩ := bbd_e hF
    refine b_cV1i (d' := (d + 1)) (pc := 12) C dX11_comes_12 mm_X11_75 (Hh.1 _ _ sh_0) rfl (Nat.le_of_ble_eq_true rfl) (by omega) (Hh.2.2 _ _ _ _ _ _ _ _ _ (lvl_eq (by omega) (e_X11_refused (d + 0) (1 : Int32) _ _ _ hc15))) ?_
    exact b_iret (pc := 15) C Rt dX11_comes_15 hF
set_option maxHeartbeats 4000000 in
set_option maxRecDepth 20000 in
theorem e_X11_comes {l : Launch} {G : bG} {ρ : Nat → Nat} {A : Nat → Prop} (d : Nat) (x1 : Int32) (σ : bSto) (r : Int32) (σ' : bSto) (hF : f_X11_comes x1 σ = some (r, σ')) : bEv l G bSHf ρ A yX11_comes cX11_comes 2 (some .int) (d + 2) [.ref 0, .int x1] σ (some (.int r)) σ' := b_met (d := d + 2) (by decide +kernel) (Nat.le_of_ble_eq_true rfl) rfl (fun X C Rt h1 h2 h3 => e_X11_comes_0 C ⟨fun o q h => by rw [h1]; exact h, fun i h => by rw [h2]; exact h, h3⟩ Rt _ _ hF)
/-! BenchColony.surely -/
def f_X11_surely (x1 : Int32) (σ : bSto) : Option (Int32 × bSto) := if kR (σ.2.2 0 7) then (if (σ.1 (σ.2.2 0 7) 4) = 0 then bbd (f_X11_refused (1 : Int32) σ) (fun v19 σ18 => some (v19, σ18)) else bbd (f_X11_isHour x1 σ) (fun v5 σ4 => (if v5 = 0 then bbd (f_X11_refused (2 : Int32) σ4) (fun v16 σ15 => some (v16, σ15)) else if kR (σ4.2.2 0 7) then bbd (f_X10_sureFrom ((σ4.2.2 0 7) + 15) x1 σ4) (fun v10 σ9 => bbd (f_X11_answered v10 σ9) (fun v13 σ12 => some (v13, σ12))) else none))) else none
set_option maxHeartbeats 4000000 in
set_option maxRecDepth 20000 in
theorem e_X11_surely_0 {X : bX} {l : Launch} {G : bG} {ρ : Nat → Nat} {A : Nat → Prop} {d : Nat} {r : Int32} {σ' : bSto} (C : bCX X cX11_surely RX11 (d + 2)) (Hh : bH X l G bSHf ρ A 2) (Rt : bRX X (some .int) (some (.int r)) σ') (x1 : Int32) (σ : bSto) (hF : f_X11_surely x1 σ = some (r, σ')) : bAJ X 0 [(0, .ref 0), (1, .int x1)] [] σ := by
  rw [f_X11_surely] at hF
  refine b_aload_n (pc := 0) C dX11_surely_0 rfl 0 rfl ?_
  obtain ⟨hk1, hF⟩ := bif_y hF
  refine b_getR (pc := 1) C dX11_surely_1 fl_X11_57 (Hh.1 _ _ sh_0) rfl ?_
  refine b_getI (pc := 4) C dX11_surely_4 fl_X11_196 (Hh.1 _ _ (shR hk1)) rfl ?_
  refine b_if_ne (tgt := 16) (pc := 7) C dX11_surely_7 rfl (fun hc2 => ?_) (fun hc2 => ?_)
  · rw [if_neg hc2] at hF
    refine b_iload_n (pc := 16) C dX11_surely_16 rfl 1 rfl ?_
    obtain ⟨v5, σ4, hc3, hF⟩ := bbd_e hF
    refine b_cS1i (d' := (d + 1)) (pc := 17) C dX11_surely_17 mm_X11_265 (Nat.le_of_ble_eq_true rfl) (by omega) (Hh.2.2 _ _ _ _ _ _ _ _ _ (lvl_eq (by omega) (e_X11_isHour (d + 1) x1 _ _ _ hc3))) ?_
    refine b_if_ne (tgt := 29) (pc := 20) C dX11_surely_20 rfl (fun hc6 => ?_) (fun hc6 => ?_)
    · rw [if_neg hc6] at hF
      refine b_aload_n (pc := 29) C dX11_surely_29 rfl 0 rfl ?_
      refine b_aload_n (pc := 30) C dX11_surely_30 rfl 0 rfl ?_
      obtain ⟨hk7, hF⟩ := bif_y hF
      refine b_getR (pc := 31) C dX11_surely_31 fl_X11_57 (Hh.1 _ _ sh_0) rfl ?_
      refine b_getS (pc := 34) C dX11_surely_34 fl_X11_96 (Hh.1 _ _ (shR hk7)) rfl ?_
      refine b_iload_n (pc := 37) C dX11_surely_37 rfl 1 rfl ?_
      obtain ⟨v10, σ9, hc8, hF⟩ := bbd_e hF
      refine b_cV1i (d' := (d + 1)) (pc := 38) C dX11_surely_38 mm_X11_271 (Hh.1 _ _ (shT (kk_7_2 hk7))) rfl (Nat.le_of_ble_eq_true rfl) (by omega) (Hh.2.2 _ _ _ _ _ _ _ _ _ (lvl_eq (by omega) (e_X10_sureFrom (d + 1) _ (kk_7_2 hk7) x1 _ _ _ hc8))) ?_
      obtain ⟨v13, σ12, hc11, hF⟩ := bbd_e hF
      refine b_cV1i (d' := (d + 1)) (pc := 41) C dX11_surely_41 mm_X11_124 (Hh.1 _ _ sh_0) rfl (Nat.le_of_ble_eq_true rfl) (by omega) (Hh.2.2 _ _ _ _ _ _ _ _ _ (lvl_eq (by omega) (e_X11_answered (d + 1) v10 _ _ _ hc11))) ?_
      exact b_iret (pc := 44) C Rt dX11_surely_44 hF
    · rw [if_pos hc6] at hF
      refine b_aload_n (pc := 23) C dX11_surely_23 rfl 0 rfl ?_
      refine b_iconst (pc := 24) C dX11_surely_24 ic_2 ?_
      obtain ⟨v16, σ15, hc14, hF⟩ := bbd_e hF
      refine b_cV1i (d' := (d + 1)) (pc := 25) C dX11_surely_25 mm_X11_75 (Hh.1 _ _ sh_0) rfl (Nat.le_of_ble_eq_true rfl) (by omega) (Hh.2.2 _ _ _ _ _ _ _ _ _ (lvl_eq (by omega) (e_X11_refused (d + 0) (2 : Int32) _ _ _ hc14))) ?_
      exact b_iret (pc := 28) C Rt dX11_surely_28 hF
  · rw [if_pos hc2] at hF
    refine b_aload_n (pc := 10) C dX11_surely_10 rfl 0 rfl ?_
    refine b_iconst (pc := 11) C dX11_surely_11 ic_1 ?_
    obtain ⟨v19, σ18, hc17, hF⟩ := bbd_e hF
    refine b_cV1i (d' := (d + 1)) (pc := 12) C dX11_surely_12 mm_X11_75 (Hh.1 _ _ sh_0) rfl (Nat.le_of_ble_eq_true rfl) (by omega) (Hh.2.2 _ _ _ _ _ _ _ _ _ (lvl_eq (by omega) (e_X11_refused (d + 0) (1 : Int32) _ _ _ hc17))) ?_
    exact b_iret (pc := 15) C Rt dX11_surely_15 hF
set_option maxHeartbeats 4000000 in
set_option maxRecDepth 20000 in
theorem e_X11_surely {l : Launch} {G : bG} {ρ : Nat → Nat} {A : Nat → Prop} (d : Nat) (x1 : Int32) (σ : bSto) (r : Int32) (σ' : bSto) (hF : f_X11_surely x1 σ = some (r, σ')) : bEv l G bSHf ρ A yX11_surely cX11_surely 2 (some .int) (d + 2) [.ref 0, .int x1] σ (some (.int r)) σ' := b_met (d := d + 2) (by decide +kernel) (Nat.le_of_ble_eq_true rfl) rfl (fun X C Rt h1 h2 h3 => e_X11_surely_0 C ⟨fun o q h => by rw [h1]; exact h, fun i h => by rw [h2]; exact h, h3⟩ Rt _ _ hF)
/-! BenchColony.listen -/
def f_X11_listen  (σ : bSto) : Option (Int32 × bSto) := if kR (σ.2.2 0 7) then (if (σ.1 (σ.2.2 0 7) 4) = 0 then bbd (f_X11_refused (1 : Int32) σ) (fun v12 σ11 => some (v12, σ11)) else if kR (σ.2.2 0 7) then bbd (f_X10_bestHour ((σ.2.2 0 7) + 15) σ) (fun v6 σ5 => bbd (f_X11_answered v6 σ5) (fun v9 σ8 => some (v9, σ8))) else none) else none
set_option maxHeartbeats 4000000 in
set_option maxRecDepth 20000 in
theorem e_X11_listen_0 {X : bX} {l : Launch} {G : bG} {ρ : Nat → Nat} {A : Nat → Prop} {d : Nat} {r : Int32} {σ' : bSto} (C : bCX X cX11_listen RX11 (d + 3)) (Hh : bH X l G bSHf ρ A 1) (Rt : bRX X (some .int) (some (.int r)) σ')  (σ : bSto) (hF : f_X11_listen  σ = some (r, σ')) : bAJ X 0 [(0, .ref 0)] [] σ := by
  rw [f_X11_listen] at hF
  refine b_aload_n (pc := 0) C dX11_listen_0 rfl 0 rfl ?_
  obtain ⟨hk1, hF⟩ := bif_y hF
  refine b_getR (pc := 1) C dX11_listen_1 fl_X11_57 (Hh.1 _ _ sh_0) rfl ?_
  refine b_getI (pc := 4) C dX11_listen_4 fl_X11_196 (Hh.1 _ _ (shR hk1)) rfl ?_
  refine b_if_ne (tgt := 16) (pc := 7) C dX11_listen_7 rfl (fun hc2 => ?_) (fun hc2 => ?_)
  · rw [if_neg hc2] at hF
    refine b_aload_n (pc := 16) C dX11_listen_16 rfl 0 rfl ?_
    refine b_aload_n (pc := 17) C dX11_listen_17 rfl 0 rfl ?_
    obtain ⟨hk3, hF⟩ := bif_y hF
    refine b_getR (pc := 18) C dX11_listen_18 fl_X11_57 (Hh.1 _ _ sh_0) rfl ?_
    refine b_getS (pc := 21) C dX11_listen_21 fl_X11_96 (Hh.1 _ _ (shR hk3)) rfl ?_
    obtain ⟨v6, σ5, hc4, hF⟩ := bbd_e hF
    refine b_cV0i (d' := (d + 2)) (pc := 24) C dX11_listen_24 mm_X11_274 (Hh.1 _ _ (shT (kk_7_2 hk3))) rfl (Nat.le_of_ble_eq_true rfl) (by omega) (Hh.2.2 _ _ _ _ _ _ _ _ _ (lvl_eq (by omega) (e_X10_bestHour (d + 0) _ (kk_7_2 hk3) _ _ _ hc4))) ?_
    obtain ⟨v9, σ8, hc7, hF⟩ := bbd_e hF
    refine b_cV1i (d' := (d + 2)) (pc := 27) C dX11_listen_27 mm_X11_124 (Hh.1 _ _ sh_0) rfl (Nat.le_of_ble_eq_true rfl) (by omega) (Hh.2.2 _ _ _ _ _ _ _ _ _ (lvl_eq (by omega) (e_X11_answered (d + 2) v6 _ _ _ hc7))) ?_
    exact b_iret (pc := 30) C Rt dX11_listen_30 hF
  · rw [if_pos hc2] at hF
    refine b_aload_n (pc := 10) C dX11_listen_10 rfl 0 rfl ?_
    refine b_iconst (pc := 11) C dX11_listen_11 ic_1 ?_
    obtain ⟨v12, σ11, hc10, hF⟩ := bbd_e hF
    refine b_cV1i (d' := (d + 2)) (pc := 12) C dX11_listen_12 mm_X11_75 (Hh.1 _ _ sh_0) rfl (Nat.le_of_ble_eq_true rfl) (by omega) (Hh.2.2 _ _ _ _ _ _ _ _ _ (lvl_eq (by omega) (e_X11_refused (d + 1) (1 : Int32) _ _ _ hc10))) ?_
    exact b_iret (pc := 15) C Rt dX11_listen_15 hF
set_option maxHeartbeats 4000000 in
set_option maxRecDepth 20000 in
theorem e_X11_listen {l : Launch} {G : bG} {ρ : Nat → Nat} {A : Nat → Prop} (d : Nat)  (σ : bSto) (r : Int32) (σ' : bSto) (hF : f_X11_listen  σ = some (r, σ')) : bEv l G bSHf ρ A yX11_listen cX11_listen 1 (some .int) (d + 3) [.ref 0] σ (some (.int r)) σ' := b_met (d := d + 3) (by decide +kernel) (Nat.le_of_ble_eq_true rfl) rfl (fun X C Rt h1 h2 h3 => e_X11_listen_0 C ⟨fun o q h => by rw [h1]; exact h, fun i h => by rw [h2]; exact h, h3⟩ Rt  _ hF)
/-! BenchColony.listenLeaves -/
def f_X11_listenLeaves  (σ : bSto) : Option (Int32 × bSto) := if kR (σ.2.2 0 7) then (if (σ.1 (σ.2.2 0 7) 4) = 0 then bbd (f_X11_refused (1 : Int32) σ) (fun v23 σ22 => some (v23, σ22)) else if kR (σ.2.2 0 7) then bbd (f_X10_bestHour ((σ.2.2 0 7) + 15) σ) (fun v6 σ5 => bbd (f_X11_isHour v6 σ5) (fun v9 σ8 => (if v9 = 0 then bbd (f_X11_answered (-2 : Int32) σ8) (fun v13 σ12 => some (v13, σ12)) else if kR (σ8.2.2 0 7) then bbd (f_X10_mostLeftBy ((σ8.2.2 0 7) + 15) v6 σ8) (fun v17 σ16 => bbd (f_X11_answered v17 σ16) (fun v20 σ19 => some (v20, σ19))) else none))) else none) else none
set_option maxHeartbeats 4000000 in
set_option maxRecDepth 20000 in
theorem e_X11_listenLeaves_0 {X : bX} {l : Launch} {G : bG} {ρ : Nat → Nat} {A : Nat → Prop} {d : Nat} {r : Int32} {σ' : bSto} (C : bCX X cX11_listenLeaves RX11 (d + 3)) (Hh : bH X l G bSHf ρ A 2) (Rt : bRX X (some .int) (some (.int r)) σ')  (σ : bSto) (hF : f_X11_listenLeaves  σ = some (r, σ')) : bAJ X 0 [(0, .ref 0)] [] σ := by
  rw [f_X11_listenLeaves] at hF
  refine b_aload_n (pc := 0) C dX11_listenLeaves_0 rfl 0 rfl ?_
  obtain ⟨hk1, hF⟩ := bif_y hF
  refine b_getR (pc := 1) C dX11_listenLeaves_1 fl_X11_57 (Hh.1 _ _ sh_0) rfl ?_
  refine b_getI (pc := 4) C dX11_listenLeaves_4 fl_X11_196 (Hh.1 _ _ (shR hk1)) rfl ?_
  refine b_if_ne (tgt := 16) (pc := 7) C dX11_listenLeaves_7 rfl (fun hc2 => ?_) (fun hc2 => ?_)
  · rw [if_neg hc2] at hF
    refine b_aload_n (pc := 16) C dX11_listenLeaves_16 rfl 0 rfl ?_
    obtain ⟨hk3, hF⟩ := bif_y hF
    refine b_getR (pc := 17) C dX11_listenLeaves_17 fl_X11_57 (Hh.1 _ _ sh_0) rfl ?_
    refine b_getS (pc := 20) C dX11_listenLeaves_20 fl_X11_96 (Hh.1 _ _ (shR hk3)) rfl ?_
    obtain ⟨v6, σ5, hc4, hF⟩ := bbd_e hF
    refine b_cV0i (d' := (d + 2)) (pc := 23) C dX11_listenLeaves_23 mm_X11_274 (Hh.1 _ _ (shT (kk_7_2 hk3))) rfl (Nat.le_of_ble_eq_true rfl) (by omega) (Hh.2.2 _ _ _ _ _ _ _ _ _ (lvl_eq (by omega) (e_X10_bestHour (d + 0) _ (kk_7_2 hk3) _ _ _ hc4))) ?_
    refine b_istore_n (L' := [(1, .int v6), (0, .ref 0)]) (pc := 26) C dX11_listenLeaves_26 rfl rfl (Hh.2.1 _ (Nat.le_of_ble_eq_true rfl)) rfl ?_
    refine b_aload_n (pc := 27) C dX11_listenLeaves_27 rfl 1 rfl ?_
    refine b_iload_n (pc := 28) C dX11_listenLeaves_28 rfl 0 rfl ?_
    obtain ⟨v9, σ8, hc7, hF⟩ := bbd_e hF
    refine b_cS1i (d' := (d + 2)) (pc := 29) C dX11_listenLeaves_29 mm_X11_265 (Nat.le_of_ble_eq_true rfl) (by omega) (Hh.2.2 _ _ _ _ _ _ _ _ _ (lvl_eq (by omega) (e_X11_isHour (d + 2) v6 _ _ _ hc7))) ?_
    refine b_if_eq (tgt := 49) (pc := 32) C dX11_listenLeaves_32 rfl (fun hc10 => ?_) (fun hc10 => ?_)
    · rw [if_pos hc10] at hF
      refine b_bipush (pc := 49) C dX11_listenLeaves_49 bp_m2 ?_
      obtain ⟨v13, σ12, hc11, hF⟩ := bbd_e hF
      refine b_cV1i (d' := (d + 2)) (pc := 51) C dX11_listenLeaves_51 mm_X11_124 (Hh.1 _ _ sh_0) rfl (Nat.le_of_ble_eq_true rfl) (by omega) (Hh.2.2 _ _ _ _ _ _ _ _ _ (lvl_eq (by omega) (e_X11_answered (d + 2) (-2 : Int32) _ _ _ hc11))) ?_
      exact b_iret (pc := 54) C Rt dX11_listenLeaves_54 hF
    · rw [if_neg hc10] at hF
      refine b_aload_n (pc := 35) C dX11_listenLeaves_35 rfl 1 rfl ?_
      obtain ⟨hk14, hF⟩ := bif_y hF
      refine b_getR (pc := 36) C dX11_listenLeaves_36 fl_X11_57 (Hh.1 _ _ sh_0) rfl ?_
      refine b_getS (pc := 39) C dX11_listenLeaves_39 fl_X11_96 (Hh.1 _ _ (shR hk14)) rfl ?_
      refine b_iload_n (pc := 42) C dX11_listenLeaves_42 rfl 0 rfl ?_
      obtain ⟨v17, σ16, hc15, hF⟩ := bbd_e hF
      refine b_cV1i (d' := (d + 2)) (pc := 43) C dX11_listenLeaves_43 mm_X11_277 (Hh.1 _ _ (shT (kk_7_2 hk14))) rfl (Nat.le_of_ble_eq_true rfl) (by omega) (Hh.2.2 _ _ _ _ _ _ _ _ _ (lvl_eq (by omega) (e_X10_mostLeftBy (d + 1) _ (kk_7_2 hk14) v6 _ _ _ hc15))) ?_
      refine b_goto (tgt := 51) (pc := 46) C dX11_listenLeaves_46 rfl ?_
      obtain ⟨v20, σ19, hc18, hF⟩ := bbd_e hF
      refine b_cV1i (d' := (d + 2)) (pc := 51) C dX11_listenLeaves_51 mm_X11_124 (Hh.1 _ _ sh_0) rfl (Nat.le_of_ble_eq_true rfl) (by omega) (Hh.2.2 _ _ _ _ _ _ _ _ _ (lvl_eq (by omega) (e_X11_answered (d + 2) v17 _ _ _ hc18))) ?_
      exact b_iret (pc := 54) C Rt dX11_listenLeaves_54 hF
  · rw [if_pos hc2] at hF
    refine b_aload_n (pc := 10) C dX11_listenLeaves_10 rfl 0 rfl ?_
    refine b_iconst (pc := 11) C dX11_listenLeaves_11 ic_1 ?_
    obtain ⟨v23, σ22, hc21, hF⟩ := bbd_e hF
    refine b_cV1i (d' := (d + 2)) (pc := 12) C dX11_listenLeaves_12 mm_X11_75 (Hh.1 _ _ sh_0) rfl (Nat.le_of_ble_eq_true rfl) (by omega) (Hh.2.2 _ _ _ _ _ _ _ _ _ (lvl_eq (by omega) (e_X11_refused (d + 1) (1 : Int32) _ _ _ hc21))) ?_
    exact b_iret (pc := 15) C Rt dX11_listenLeaves_15 hF
set_option maxHeartbeats 4000000 in
set_option maxRecDepth 20000 in
theorem e_X11_listenLeaves {l : Launch} {G : bG} {ρ : Nat → Nat} {A : Nat → Prop} (d : Nat)  (σ : bSto) (r : Int32) (σ' : bSto) (hF : f_X11_listenLeaves  σ = some (r, σ')) : bEv l G bSHf ρ A yX11_listenLeaves cX11_listenLeaves 2 (some .int) (d + 3) [.ref 0] σ (some (.int r)) σ' := b_met (d := d + 3) (by decide +kernel) (Nat.le_of_ble_eq_true rfl) rfl (fun X C Rt h1 h2 h3 => e_X11_listenLeaves_0 C ⟨fun o q h => by rw [h1]; exact h, fun i h => by rw [h2]; exact h, h3⟩ Rt  _ hF)
/-! BenchColony.drawn -/
def f_X11_drawn (x1 : Int32) (σ : bSto) : Option (Int32 × bSto) := if kR (σ.2.2 0 7) then bbd (f_X2_has ((σ.2.2 0 7) + 7) x1 σ) (fun v4 σ3 => (if v4 = 0 then bbd (f_X11_refusedWith (1 : Int32) (-1000 : Int32) σ3) (fun v17 σ16 => some (v17, σ16)) else bbv (f_X1_begin 30 σ3) (fun σ7 => if kR (σ7.2.2 0 7) then bbv (f_X1_pull ((σ7.2.2 0 7) + 7) σ7) (fun σ10 => if x1 < 0 ∨ 7 ≤ x1.toNatClampNeg then none else bbd (f_X11_answered (σ10.1 68 x1.toNatClampNeg) σ10) (fun v14 σ13 => some (v14, σ13))) else none))) else none
set_option maxHeartbeats 4000000 in
set_option maxRecDepth 20000 in
theorem e_X11_drawn_0 {X : bX} {l : Launch} {G : bG} {ρ : Nat → Nat} {A : Nat → Prop} {d : Nat} {r : Int32} {σ' : bSto} (C : bCX X cX11_drawn RX11 (d + 2)) (Hh : bH X l G bSHf ρ A 2) (Rt : bRX X (some .int) (some (.int r)) σ') (x1 : Int32) (σ : bSto) (hF : f_X11_drawn x1 σ = some (r, σ')) : bAJ X 0 [(0, .ref 0), (1, .int x1)] [] σ := by
  rw [f_X11_drawn] at hF
  refine b_aload_n (pc := 0) C dX11_drawn_0 rfl 0 rfl ?_
  obtain ⟨hk1, hF⟩ := bif_y hF
  refine b_getR (pc := 1) C dX11_drawn_1 fl_X11_57 (Hh.1 _ _ sh_0) rfl ?_
  refine b_getS (pc := 4) C dX11_drawn_4 fl_X11_163 (Hh.1 _ _ (shR hk1)) rfl ?_
  refine b_iload_n (pc := 7) C dX11_drawn_7 rfl 1 rfl ?_
  obtain ⟨v4, σ3, hc2, hF⟩ := bbd_e hF
  refine b_cV1i (d' := (d + 1)) (pc := 8) C dX11_drawn_8 mm_X11_167 (Hh.1 _ _ (shF (kk_7_1 hk1))) rfl (Nat.le_of_ble_eq_true rfl) (by omega) (Hh.2.2 _ _ _ _ _ _ _ _ _ (lvl_eq (by omega) (e_X2_has (d + 1) _ (kk_7_1 hk1) x1 _ _ _ hc2))) ?_
  refine b_if_ne (tgt := 23) (pc := 11) C dX11_drawn_11 rfl (fun hc5 => ?_) (fun hc5 => ?_)
  · rw [if_neg hc5] at hF
    refine b_aload_n (pc := 23) C dX11_drawn_23 rfl 0 rfl ?_
    refine b_getS (pc := 24) C dX11_drawn_24 fl_X11_50 (Hh.1 _ _ sh_0) rfl ?_
    refine b_aload_n (pc := 27) C dX11_drawn_27 rfl 0 rfl ?_
    refine b_getS (pc := 28) C dX11_drawn_28 fl_X11_19 (Hh.1 _ _ sh_0) rfl ?_
    obtain ⟨σ7, hc6, hF⟩ := bbv_e hF
    refine b_cV1v (d' := (d + 1)) (pc := 31) C dX11_drawn_31 mm_X11_280 (Hh.1 _ _ sh_66) rfl (Nat.le_of_ble_eq_true rfl) (by omega) (Hh.2.2 _ _ _ _ _ _ _ _ _ (lvl_eq (by omega) (e_X1_begin (d + 1) _ (by decide) _ _ hc6))) ?_
    refine b_aload_n (pc := 34) C dX11_drawn_34 rfl 0 rfl ?_
    refine b_getS (pc := 35) C dX11_drawn_35 fl_X11_50 (Hh.1 _ _ sh_0) rfl ?_
    refine b_aload_n (pc := 38) C dX11_drawn_38 rfl 0 rfl ?_
    obtain ⟨hk8, hF⟩ := bif_y hF
    refine b_getR (pc := 39) C dX11_drawn_39 fl_X11_57 (Hh.1 _ _ sh_0) rfl ?_
    refine b_getS (pc := 42) C dX11_drawn_42 fl_X11_163 (Hh.1 _ _ (shR hk8)) rfl ?_
    obtain ⟨σ10, hc9, hF⟩ := bbv_e hF
    refine b_cV1v (d' := (d + 1)) (pc := 45) C dX11_drawn_45 mm_X11_282 (Hh.1 _ _ sh_66) rfl (Nat.le_of_ble_eq_true rfl) (by omega) (Hh.2.2 _ _ _ _ _ _ _ _ _ (lvl_eq (by omega) (e_X1_pull (d + 0) _ (kk_7_1 hk8) _ _ hc9))) ?_
    refine b_aload_n (pc := 48) C dX11_drawn_48 rfl 0 rfl ?_
    refine b_aload_n (pc := 49) C dX11_drawn_49 rfl 0 rfl ?_
    refine b_getS (pc := 50) C dX11_drawn_50 fl_X11_50 (Hh.1 _ _ sh_0) rfl ?_
    refine b_getS (pc := 53) C dX11_drawn_53 fl_X11_286 (Hh.1 _ _ sh_66) rfl ?_
    refine b_iload_n (pc := 56) C dX11_drawn_56 rfl 1 rfl ?_
    obtain ⟨hb11, hF⟩ := bif_n hF
    refine b_iald (pc := 57) C dX11_drawn_57 (Hh.1 _ _ sh_68) hb11 ?_
    obtain ⟨v14, σ13, hc12, hF⟩ := bbd_e hF
    refine b_cV1i (d' := (d + 1)) (pc := 58) C dX11_drawn_58 mm_X11_124 (Hh.1 _ _ sh_0) rfl (Nat.le_of_ble_eq_true rfl) (by omega) (Hh.2.2 _ _ _ _ _ _ _ _ _ (lvl_eq (by omega) (e_X11_answered (d + 1) (σ10.1 68 x1.toNatClampNeg) _ _ _ hc12))) ?_
    exact b_iret (pc := 61) C Rt dX11_drawn_61 hF
  · rw [if_pos hc5] at hF
    refine b_aload_n (pc := 14) C dX11_drawn_14 rfl 0 rfl ?_
    refine b_iconst (pc := 15) C dX11_drawn_15 ic_1 ?_
    refine b_sipush (pc := 16) C dX11_drawn_16 sp_m1000 ?_
    obtain ⟨v17, σ16, hc15, hF⟩ := bbd_e hF
    refine b_cV2i (d' := (d + 1)) (pc := 19) C dX11_drawn_19 mm_X11_170 (Hh.1 _ _ sh_0) rfl (Nat.le_of_ble_eq_true rfl) (by omega) (Hh.2.2 _ _ _ _ _ _ _ _ _ (lvl_eq (by omega) (e_X11_refusedWith (d + 1) (1 : Int32) (-1000 : Int32) _ _ _ hc15))) ?_
    exact b_iret (pc := 22) C Rt dX11_drawn_22 hF
set_option maxHeartbeats 4000000 in
set_option maxRecDepth 20000 in
theorem e_X11_drawn {l : Launch} {G : bG} {ρ : Nat → Nat} {A : Nat → Prop} (d : Nat) (x1 : Int32) (σ : bSto) (r : Int32) (σ' : bSto) (hF : f_X11_drawn x1 σ = some (r, σ')) : bEv l G bSHf ρ A yX11_drawn cX11_drawn 2 (some .int) (d + 2) [.ref 0, .int x1] σ (some (.int r)) σ' := b_met (d := d + 2) (by decide +kernel) (Nat.le_of_ble_eq_true rfl) rfl (fun X C Rt h1 h2 h3 => e_X11_drawn_0 C ⟨fun o q h => by rw [h1]; exact h, fun i h => by rw [h2]; exact h, h3⟩ Rt _ _ hF)
/-! BenchColony.believers -/
def f_X11_believers_J26  (σ : bSto) : Option (Int32 × bSto) := bbd (f_X11_refused (2 : Int32) σ) (fun v3 σ2 => some (v3, σ2))
def f_X11_believers (x1 : Int32) (σ : bSto) : Option (Int32 × bSto) := if kR (σ.2.2 0 7) then (if (σ.1 (σ.2.2 0 7) 4) = 0 then bbd (f_X11_refused (1 : Int32) σ) (fun v19 σ18 => some (v19, σ18)) else (if x1 < 0 then f_X11_believers_J26  σ else (if x1 ≤ (20 : Int32) then bbv (f_X1_begin 30 σ) (fun σ6 => if kR (σ6.2.2 0 7) then bbv (f_X1_go ((σ6.2.2 0 7) + 7) x1 σ6) (fun σ9 => if kR (σ9.2.2 0 7) then bbd (f_X1_believing ((σ9.2.2 0 7) + 7) σ9) (fun v13 σ12 => bbd (f_X11_answered v13 σ12) (fun v16 σ15 => some (v16, σ15))) else none) else none) else f_X11_believers_J26  σ))) else none
set_option maxHeartbeats 4000000 in
set_option maxRecDepth 20000 in
theorem e_X11_believers_J26 {X : bX} {l : Launch} {G : bG} {ρ : Nat → Nat} {A : Nat → Prop} {d : Nat} {r : Int32} {σ' : bSto} (C : bCX X cX11_believers RX11 (d + 4)) (Hh : bH X l G bSHf ρ A 2) (Rt : bRX X (some .int) (some (.int r)) σ')  (σ : bSto) (hF : f_X11_believers_J26  σ = some (r, σ')) : bAJ X 26 [(0, .ref 0)] [] σ := by
  rw [f_X11_believers_J26] at hF
  refine b_aload_n (pc := 26) C dX11_believers_26 rfl 0 rfl ?_
  refine b_iconst (pc := 27) C dX11_believers_27 ic_2 ?_
  obtain ⟨v3, σ2, hc1, hF⟩ := bbd_e hF
  refine b_cV1i (d' := (d + 3)) (pc := 28) C dX11_believers_28 mm_X11_75 (Hh.1 _ _ sh_0) rfl (Nat.le_of_ble_eq_true rfl) (by omega) (Hh.2.2 _ _ _ _ _ _ _ _ _ (lvl_eq (by omega) (e_X11_refused (d + 2) (2 : Int32) _ _ _ hc1))) ?_
  exact b_iret (pc := 31) C Rt dX11_believers_31 hF
set_option maxHeartbeats 4000000 in
set_option maxRecDepth 20000 in
theorem e_X11_believers_0 {X : bX} {l : Launch} {G : bG} {ρ : Nat → Nat} {A : Nat → Prop} {d : Nat} {r : Int32} {σ' : bSto} (C : bCX X cX11_believers RX11 (d + 4)) (Hh : bH X l G bSHf ρ A 2) (Rt : bRX X (some .int) (some (.int r)) σ') (x1 : Int32) (σ : bSto) (hF : f_X11_believers x1 σ = some (r, σ')) : bAJ X 0 [(0, .ref 0), (1, .int x1)] [] σ := by
  rw [f_X11_believers] at hF
  refine b_aload_n (pc := 0) C dX11_believers_0 rfl 0 rfl ?_
  obtain ⟨hk1, hF⟩ := bif_y hF
  refine b_getR (pc := 1) C dX11_believers_1 fl_X11_57 (Hh.1 _ _ sh_0) rfl ?_
  refine b_getI (pc := 4) C dX11_believers_4 fl_X11_196 (Hh.1 _ _ (shR hk1)) rfl ?_
  refine b_if_ne (tgt := 16) (pc := 7) C dX11_believers_7 rfl (fun hc2 => ?_) (fun hc2 => ?_)
  · rw [if_neg hc2] at hF
    refine b_iload_n (pc := 16) C dX11_believers_16 rfl 1 rfl ?_
    refine b_if_lt (tgt := 26) (pc := 17) C dX11_believers_17 rfl (fun hc3 => ?_) (fun hc3 => ?_)
    · rw [if_pos hc3] at hF
      exact b_sub [0] rfl (e_X11_believers_J26 C Hh Rt  _ hF)
    · rw [if_neg hc3] at hF
      refine b_iload_n (pc := 20) C dX11_believers_20 rfl 1 rfl ?_
      refine b_bipush (pc := 21) C dX11_believers_21 bp_20 ?_
      refine b_icmp_le (tgt := 32) (pc := 23) C dX11_believers_23 rfl (fun hc4 => ?_) (fun hc4 => ?_)
      · rw [if_pos hc4] at hF
        refine b_aload_n (pc := 32) C dX11_believers_32 rfl 0 rfl ?_
        refine b_getS (pc := 33) C dX11_believers_33 fl_X11_50 (Hh.1 _ _ sh_0) rfl ?_
        refine b_aload_n (pc := 36) C dX11_believers_36 rfl 0 rfl ?_
        refine b_getS (pc := 37) C dX11_believers_37 fl_X11_19 (Hh.1 _ _ sh_0) rfl ?_
        obtain ⟨σ6, hc5, hF⟩ := bbv_e hF
        refine b_cV1v (d' := (d + 3)) (pc := 40) C dX11_believers_40 mm_X11_280 (Hh.1 _ _ sh_66) rfl (Nat.le_of_ble_eq_true rfl) (by omega) (Hh.2.2 _ _ _ _ _ _ _ _ _ (lvl_eq (by omega) (e_X1_begin (d + 3) _ (by decide) _ _ hc5))) ?_
        refine b_aload_n (pc := 43) C dX11_believers_43 rfl 0 rfl ?_
        refine b_getS (pc := 44) C dX11_believers_44 fl_X11_50 (Hh.1 _ _ sh_0) rfl ?_
        refine b_aload_n (pc := 47) C dX11_believers_47 rfl 0 rfl ?_
        obtain ⟨hk7, hF⟩ := bif_y hF
        refine b_getR (pc := 48) C dX11_believers_48 fl_X11_57 (Hh.1 _ _ sh_0) rfl ?_
        refine b_getS (pc := 51) C dX11_believers_51 fl_X11_163 (Hh.1 _ _ (shR hk7)) rfl ?_
        refine b_iload_n (pc := 54) C dX11_believers_54 rfl 1 rfl ?_
        obtain ⟨σ9, hc8, hF⟩ := bbv_e hF
        refine b_cV2v (d' := (d + 3)) (pc := 55) C dX11_believers_55 mm_X11_289 (Hh.1 _ _ sh_66) rfl (Nat.le_of_ble_eq_true rfl) (by omega) (Hh.2.2 _ _ _ _ _ _ _ _ _ (lvl_eq (by omega) (e_X1_go (d + 0) _ (kk_7_1 hk7) x1 _ _ hc8))) ?_
        refine b_aload_n (pc := 58) C dX11_believers_58 rfl 0 rfl ?_
        refine b_aload_n (pc := 59) C dX11_believers_59 rfl 0 rfl ?_
        refine b_getS (pc := 60) C dX11_believers_60 fl_X11_50 (Hh.1 _ _ sh_0) rfl ?_
        refine b_aload_n (pc := 63) C dX11_believers_63 rfl 0 rfl ?_
        obtain ⟨hk10, hF⟩ := bif_y hF
        refine b_getR (pc := 64) C dX11_believers_64 fl_X11_57 (Hh.1 _ _ sh_0) rfl ?_
        refine b_getS (pc := 67) C dX11_believers_67 fl_X11_163 (Hh.1 _ _ (shR hk10)) rfl ?_
        obtain ⟨v13, σ12, hc11, hF⟩ := bbd_e hF
        refine b_cV1i (d' := (d + 3)) (pc := 70) C dX11_believers_70 mm_X11_293 (Hh.1 _ _ sh_66) rfl (Nat.le_of_ble_eq_true rfl) (by omega) (Hh.2.2 _ _ _ _ _ _ _ _ _ (lvl_eq (by omega) (e_X1_believing (d + 3) _ (kk_7_1 hk10) _ _ _ hc11))) ?_
        obtain ⟨v16, σ15, hc14, hF⟩ := bbd_e hF
        refine b_cV1i (d' := (d + 3)) (pc := 73) C dX11_believers_73 mm_X11_124 (Hh.1 _ _ sh_0) rfl (Nat.le_of_ble_eq_true rfl) (by omega) (Hh.2.2 _ _ _ _ _ _ _ _ _ (lvl_eq (by omega) (e_X11_answered (d + 3) v13 _ _ _ hc14))) ?_
        exact b_iret (pc := 76) C Rt dX11_believers_76 hF
      · rw [if_neg hc4] at hF
        exact b_sub [0] rfl (e_X11_believers_J26 C Hh Rt  _ hF)
  · rw [if_pos hc2] at hF
    refine b_aload_n (pc := 10) C dX11_believers_10 rfl 0 rfl ?_
    refine b_iconst (pc := 11) C dX11_believers_11 ic_1 ?_
    obtain ⟨v19, σ18, hc17, hF⟩ := bbd_e hF
    refine b_cV1i (d' := (d + 3)) (pc := 12) C dX11_believers_12 mm_X11_75 (Hh.1 _ _ sh_0) rfl (Nat.le_of_ble_eq_true rfl) (by omega) (Hh.2.2 _ _ _ _ _ _ _ _ _ (lvl_eq (by omega) (e_X11_refused (d + 2) (1 : Int32) _ _ _ hc17))) ?_
    exact b_iret (pc := 15) C Rt dX11_believers_15 hF
set_option maxHeartbeats 4000000 in
set_option maxRecDepth 20000 in
theorem e_X11_believers {l : Launch} {G : bG} {ρ : Nat → Nat} {A : Nat → Prop} (d : Nat) (x1 : Int32) (σ : bSto) (r : Int32) (σ' : bSto) (hF : f_X11_believers x1 σ = some (r, σ')) : bEv l G bSHf ρ A yX11_believers cX11_believers 2 (some .int) (d + 4) [.ref 0, .int x1] σ (some (.int r)) σ' := b_met (d := d + 4) (by decide +kernel) (Nat.le_of_ble_eq_true rfl) rfl (fun X C Rt h1 h2 h3 => e_X11_believers_0 C ⟨fun o q h => by rw [h1]; exact h, fun i h => by rw [h2]; exact h, h3⟩ Rt _ _ hF)
/-! BenchColony.settled -/
def f_X11_settled  (σ : bSto) : Option (Int32 × bSto) := if kR (σ.2.2 0 7) then (if (σ.1 (σ.2.2 0 7) 4) = 0 then bbd (f_X11_refused (1 : Int32) σ) (fun v14 σ13 => some (v14, σ13)) else bbv (f_X1_begin 30 σ) (fun σ4 => if kR (σ4.2.2 0 7) then bbd (f_X1_roundsToRest ((σ4.2.2 0 7) + 7) σ4) (fun v8 σ7 => bbd (f_X11_answered v8 σ7) (fun v11 σ10 => some (v11, σ10))) else none)) else none
set_option maxHeartbeats 4000000 in
set_option maxRecDepth 20000 in
theorem e_X11_settled_0 {X : bX} {l : Launch} {G : bG} {ρ : Nat → Nat} {A : Nat → Prop} {d : Nat} {r : Int32} {σ' : bSto} (C : bCX X cX11_settled RX11 (d + 4)) (Hh : bH X l G bSHf ρ A 1) (Rt : bRX X (some .int) (some (.int r)) σ')  (σ : bSto) (hF : f_X11_settled  σ = some (r, σ')) : bAJ X 0 [(0, .ref 0)] [] σ := by
  rw [f_X11_settled] at hF
  refine b_aload_n (pc := 0) C dX11_settled_0 rfl 0 rfl ?_
  obtain ⟨hk1, hF⟩ := bif_y hF
  refine b_getR (pc := 1) C dX11_settled_1 fl_X11_57 (Hh.1 _ _ sh_0) rfl ?_
  refine b_getI (pc := 4) C dX11_settled_4 fl_X11_196 (Hh.1 _ _ (shR hk1)) rfl ?_
  refine b_if_ne (tgt := 16) (pc := 7) C dX11_settled_7 rfl (fun hc2 => ?_) (fun hc2 => ?_)
  · rw [if_neg hc2] at hF
    refine b_aload_n (pc := 16) C dX11_settled_16 rfl 0 rfl ?_
    refine b_getS (pc := 17) C dX11_settled_17 fl_X11_50 (Hh.1 _ _ sh_0) rfl ?_
    refine b_aload_n (pc := 20) C dX11_settled_20 rfl 0 rfl ?_
    refine b_getS (pc := 21) C dX11_settled_21 fl_X11_19 (Hh.1 _ _ sh_0) rfl ?_
    obtain ⟨σ4, hc3, hF⟩ := bbv_e hF
    refine b_cV1v (d' := (d + 3)) (pc := 24) C dX11_settled_24 mm_X11_280 (Hh.1 _ _ sh_66) rfl (Nat.le_of_ble_eq_true rfl) (by omega) (Hh.2.2 _ _ _ _ _ _ _ _ _ (lvl_eq (by omega) (e_X1_begin (d + 3) _ (by decide) _ _ hc3))) ?_
    refine b_aload_n (pc := 27) C dX11_settled_27 rfl 0 rfl ?_
    refine b_aload_n (pc := 28) C dX11_settled_28 rfl 0 rfl ?_
    refine b_getS (pc := 29) C dX11_settled_29 fl_X11_50 (Hh.1 _ _ sh_0) rfl ?_
    refine b_aload_n (pc := 32) C dX11_settled_32 rfl 0 rfl ?_
    obtain ⟨hk5, hF⟩ := bif_y hF
    refine b_getR (pc := 33) C dX11_settled_33 fl_X11_57 (Hh.1 _ _ sh_0) rfl ?_
    refine b_getS (pc := 36) C dX11_settled_36 fl_X11_163 (Hh.1 _ _ (shR hk5)) rfl ?_
    obtain ⟨v8, σ7, hc6, hF⟩ := bbd_e hF
    refine b_cV1i (d' := (d + 3)) (pc := 39) C dX11_settled_39 mm_X11_296 (Hh.1 _ _ sh_66) rfl (Nat.le_of_ble_eq_true rfl) (by omega) (Hh.2.2 _ _ _ _ _ _ _ _ _ (lvl_eq (by omega) (e_X1_roundsToRest (d + 0) _ (kk_7_1 hk5) _ _ _ hc6))) ?_
    obtain ⟨v11, σ10, hc9, hF⟩ := bbd_e hF
    refine b_cV1i (d' := (d + 3)) (pc := 42) C dX11_settled_42 mm_X11_124 (Hh.1 _ _ sh_0) rfl (Nat.le_of_ble_eq_true rfl) (by omega) (Hh.2.2 _ _ _ _ _ _ _ _ _ (lvl_eq (by omega) (e_X11_answered (d + 3) v8 _ _ _ hc9))) ?_
    exact b_iret (pc := 45) C Rt dX11_settled_45 hF
  · rw [if_pos hc2] at hF
    refine b_aload_n (pc := 10) C dX11_settled_10 rfl 0 rfl ?_
    refine b_iconst (pc := 11) C dX11_settled_11 ic_1 ?_
    obtain ⟨v14, σ13, hc12, hF⟩ := bbd_e hF
    refine b_cV1i (d' := (d + 3)) (pc := 12) C dX11_settled_12 mm_X11_75 (Hh.1 _ _ sh_0) rfl (Nat.le_of_ble_eq_true rfl) (by omega) (Hh.2.2 _ _ _ _ _ _ _ _ _ (lvl_eq (by omega) (e_X11_refused (d + 2) (1 : Int32) _ _ _ hc12))) ?_
    exact b_iret (pc := 15) C Rt dX11_settled_15 hF
set_option maxHeartbeats 4000000 in
set_option maxRecDepth 20000 in
theorem e_X11_settled {l : Launch} {G : bG} {ρ : Nat → Nat} {A : Nat → Prop} (d : Nat)  (σ : bSto) (r : Int32) (σ' : bSto) (hF : f_X11_settled  σ = some (r, σ')) : bEv l G bSHf ρ A yX11_settled cX11_settled 1 (some .int) (d + 4) [.ref 0] σ (some (.int r)) σ' := b_met (d := d + 4) (by decide +kernel) (Nat.le_of_ble_eq_true rfl) rfl (fun X C Rt h1 h2 h3 => e_X11_settled_0 C ⟨fun o q h => by rw [h1]; exact h, fun i h => by rw [h2]; exact h, h3⟩ Rt  _ hF)
/-! BenchColony.won -/
def f_X11_won  (σ : bSto) : Option (Int32 × bSto) := if kR (σ.2.2 0 7) then (if (σ.1 (σ.2.2 0 7) 4) = 0 then bbd (f_X11_refused (1 : Int32) σ) (fun v12 σ11 => some (v12, σ11)) else if kR (σ.2.2 0 7) then bbd (f_X1_fewestToWin ((σ.2.2 0 7) + 7) 30 σ) (fun v6 σ5 => bbd (f_X11_answered v6 σ5) (fun v9 σ8 => some (v9, σ8))) else none) else none
set_option maxHeartbeats 4000000 in
set_option maxRecDepth 20000 in
theorem e_X11_won_0 {X : bX} {l : Launch} {G : bG} {ρ : Nat → Nat} {A : Nat → Prop} {d : Nat} {r : Int32} {σ' : bSto} (C : bCX X cX11_won RX11 (d + 6)) (Hh : bH X l G bSHf ρ A 1) (Rt : bRX X (some .int) (some (.int r)) σ')  (σ : bSto) (hF : f_X11_won  σ = some (r, σ')) : bAJ X 0 [(0, .ref 0)] [] σ := by
  rw [f_X11_won] at hF
  refine b_aload_n (pc := 0) C dX11_won_0 rfl 0 rfl ?_
  obtain ⟨hk1, hF⟩ := bif_y hF
  refine b_getR (pc := 1) C dX11_won_1 fl_X11_57 (Hh.1 _ _ sh_0) rfl ?_
  refine b_getI (pc := 4) C dX11_won_4 fl_X11_196 (Hh.1 _ _ (shR hk1)) rfl ?_
  refine b_if_ne (tgt := 16) (pc := 7) C dX11_won_7 rfl (fun hc2 => ?_) (fun hc2 => ?_)
  · rw [if_neg hc2] at hF
    refine b_aload_n (pc := 16) C dX11_won_16 rfl 0 rfl ?_
    refine b_aload_n (pc := 17) C dX11_won_17 rfl 0 rfl ?_
    refine b_getS (pc := 18) C dX11_won_18 fl_X11_50 (Hh.1 _ _ sh_0) rfl ?_
    refine b_aload_n (pc := 21) C dX11_won_21 rfl 0 rfl ?_
    obtain ⟨hk3, hF⟩ := bif_y hF
    refine b_getR (pc := 22) C dX11_won_22 fl_X11_57 (Hh.1 _ _ sh_0) rfl ?_
    refine b_getS (pc := 25) C dX11_won_25 fl_X11_163 (Hh.1 _ _ (shR hk3)) rfl ?_
    refine b_aload_n (pc := 28) C dX11_won_28 rfl 0 rfl ?_
    refine b_getS (pc := 29) C dX11_won_29 fl_X11_19 (Hh.1 _ _ sh_0) rfl ?_
    obtain ⟨v6, σ5, hc4, hF⟩ := bbd_e hF
    refine b_cV2i (d' := (d + 5)) (pc := 32) C dX11_won_32 mm_X11_299 (Hh.1 _ _ sh_66) rfl (Nat.le_of_ble_eq_true rfl) (by omega) (Hh.2.2 _ _ _ _ _ _ _ _ _ (lvl_eq (by omega) (e_X1_fewestToWin (d + 0) _ (kk_7_1 hk3) _ (by decide) _ _ _ hc4))) ?_
    obtain ⟨v9, σ8, hc7, hF⟩ := bbd_e hF
    refine b_cV1i (d' := (d + 5)) (pc := 35) C dX11_won_35 mm_X11_124 (Hh.1 _ _ sh_0) rfl (Nat.le_of_ble_eq_true rfl) (by omega) (Hh.2.2 _ _ _ _ _ _ _ _ _ (lvl_eq (by omega) (e_X11_answered (d + 5) v6 _ _ _ hc7))) ?_
    exact b_iret (pc := 38) C Rt dX11_won_38 hF
  · rw [if_pos hc2] at hF
    refine b_aload_n (pc := 10) C dX11_won_10 rfl 0 rfl ?_
    refine b_iconst (pc := 11) C dX11_won_11 ic_1 ?_
    obtain ⟨v12, σ11, hc10, hF⟩ := bbd_e hF
    refine b_cV1i (d' := (d + 5)) (pc := 12) C dX11_won_12 mm_X11_75 (Hh.1 _ _ sh_0) rfl (Nat.le_of_ble_eq_true rfl) (by omega) (Hh.2.2 _ _ _ _ _ _ _ _ _ (lvl_eq (by omega) (e_X11_refused (d + 4) (1 : Int32) _ _ _ hc10))) ?_
    exact b_iret (pc := 15) C Rt dX11_won_15 hF
set_option maxHeartbeats 4000000 in
set_option maxRecDepth 20000 in
theorem e_X11_won {l : Launch} {G : bG} {ρ : Nat → Nat} {A : Nat → Prop} (d : Nat)  (σ : bSto) (r : Int32) (σ' : bSto) (hF : f_X11_won  σ = some (r, σ')) : bEv l G bSHf ρ A yX11_won cX11_won 1 (some .int) (d + 6) [.ref 0] σ (some (.int r)) σ' := b_met (d := d + 6) (by decide +kernel) (Nat.le_of_ble_eq_true rfl) rfl (fun X C Rt h1 h2 h3 => e_X11_won_0 C ⟨fun o q h => by rw [h1]; exact h, fun i h => by rw [h2]; exact h, h3⟩ Rt  _ hF)
/-! BenchColony.prophet -/
def f_X11_prophet  (σ : bSto) : Option (Int32 × bSto) := if kR (σ.2.2 0 7) then (if (σ.1 (σ.2.2 0 7) 4) = 0 then bbd (f_X11_refused (1 : Int32) σ) (fun v12 σ11 => some (v12, σ11)) else if kR (σ.2.2 0 7) then bbd (f_X1_bestPreacher ((σ.2.2 0 7) + 7) 30 σ) (fun v6 σ5 => bbd (f_X11_answered v6 σ5) (fun v9 σ8 => some (v9, σ8))) else none) else none
set_option maxHeartbeats 4000000 in
set_option maxRecDepth 20000 in
theorem e_X11_prophet_0 {X : bX} {l : Launch} {G : bG} {ρ : Nat → Nat} {A : Nat → Prop} {d : Nat} {r : Int32} {σ' : bSto} (C : bCX X cX11_prophet RX11 (d + 6)) (Hh : bH X l G bSHf ρ A 1) (Rt : bRX X (some .int) (some (.int r)) σ')  (σ : bSto) (hF : f_X11_prophet  σ = some (r, σ')) : bAJ X 0 [(0, .ref 0)] [] σ := by
  rw [f_X11_prophet] at hF
  refine b_aload_n (pc := 0) C dX11_prophet_0 rfl 0 rfl ?_
  obtain ⟨hk1, hF⟩ := bif_y hF
  refine b_getR (pc := 1) C dX11_prophet_1 fl_X11_57 (Hh.1 _ _ sh_0) rfl ?_
  refine b_getI (pc := 4) C dX11_prophet_4 fl_X11_196 (Hh.1 _ _ (shR hk1)) rfl ?_
  refine b_if_ne (tgt := 16) (pc := 7) C dX11_prophet_7 rfl (fun hc2 => ?_) (fun hc2 => ?_)
  · rw [if_neg hc2] at hF
    refine b_aload_n (pc := 16) C dX11_prophet_16 rfl 0 rfl ?_
    refine b_aload_n (pc := 17) C dX11_prophet_17 rfl 0 rfl ?_
    refine b_getS (pc := 18) C dX11_prophet_18 fl_X11_50 (Hh.1 _ _ sh_0) rfl ?_
    refine b_aload_n (pc := 21) C dX11_prophet_21 rfl 0 rfl ?_
    obtain ⟨hk3, hF⟩ := bif_y hF
    refine b_getR (pc := 22) C dX11_prophet_22 fl_X11_57 (Hh.1 _ _ sh_0) rfl ?_
    refine b_getS (pc := 25) C dX11_prophet_25 fl_X11_163 (Hh.1 _ _ (shR hk3)) rfl ?_
    refine b_aload_n (pc := 28) C dX11_prophet_28 rfl 0 rfl ?_
    refine b_getS (pc := 29) C dX11_prophet_29 fl_X11_19 (Hh.1 _ _ sh_0) rfl ?_
    obtain ⟨v6, σ5, hc4, hF⟩ := bbd_e hF
    refine b_cV2i (d' := (d + 5)) (pc := 32) C dX11_prophet_32 mm_X11_303 (Hh.1 _ _ sh_66) rfl (Nat.le_of_ble_eq_true rfl) (by omega) (Hh.2.2 _ _ _ _ _ _ _ _ _ (lvl_eq (by omega) (e_X1_bestPreacher (d + 0) _ (kk_7_1 hk3) _ (by decide) _ _ _ hc4))) ?_
    obtain ⟨v9, σ8, hc7, hF⟩ := bbd_e hF
    refine b_cV1i (d' := (d + 5)) (pc := 35) C dX11_prophet_35 mm_X11_124 (Hh.1 _ _ sh_0) rfl (Nat.le_of_ble_eq_true rfl) (by omega) (Hh.2.2 _ _ _ _ _ _ _ _ _ (lvl_eq (by omega) (e_X11_answered (d + 5) v6 _ _ _ hc7))) ?_
    exact b_iret (pc := 38) C Rt dX11_prophet_38 hF
  · rw [if_pos hc2] at hF
    refine b_aload_n (pc := 10) C dX11_prophet_10 rfl 0 rfl ?_
    refine b_iconst (pc := 11) C dX11_prophet_11 ic_1 ?_
    obtain ⟨v12, σ11, hc10, hF⟩ := bbd_e hF
    refine b_cV1i (d' := (d + 5)) (pc := 12) C dX11_prophet_12 mm_X11_75 (Hh.1 _ _ sh_0) rfl (Nat.le_of_ble_eq_true rfl) (by omega) (Hh.2.2 _ _ _ _ _ _ _ _ _ (lvl_eq (by omega) (e_X11_refused (d + 4) (1 : Int32) _ _ _ hc10))) ?_
    exact b_iret (pc := 15) C Rt dX11_prophet_15 hF
set_option maxHeartbeats 4000000 in
set_option maxRecDepth 20000 in
theorem e_X11_prophet {l : Launch} {G : bG} {ρ : Nat → Nat} {A : Nat → Prop} (d : Nat)  (σ : bSto) (r : Int32) (σ' : bSto) (hF : f_X11_prophet  σ = some (r, σ')) : bEv l G bSHf ρ A yX11_prophet cX11_prophet 1 (some .int) (d + 6) [.ref 0] σ (some (.int r)) σ' := b_met (d := d + 6) (by decide +kernel) (Nat.le_of_ble_eq_true rfl) rfl (fun X C Rt h1 h2 h3 => e_X11_prophet_0 C ⟨fun o q h => by rw [h1]; exact h, fun i h => by rw [h2]; exact h, h3⟩ Rt  _ hF)
/-! BenchColony.isCrowd -/
def f_X11_isCrowd_J14  (σ : bSto) : Option (Int32 × bSto) := some ((0 : Int32), σ)
def f_X11_isCrowd (x0 : Int32) (σ : bSto) : Option (Int32 × bSto) := (if x0 < 0 then f_X11_isCrowd_J14  σ else (if (99 : Int32) < x0 then f_X11_isCrowd_J14  σ else some ((1 : Int32), σ)))
set_option maxHeartbeats 4000000 in
set_option maxRecDepth 20000 in
theorem e_X11_isCrowd_J14 {X : bX} {l : Launch} {G : bG} {ρ : Nat → Nat} {A : Nat → Prop} {d : Nat} {r : Int32} {σ' : bSto} (C : bCX X cX11_isCrowd RX11 (d + 0)) (Hh : bH X l G bSHf ρ A 1) (Rt : bRX X (some .boolean) (some (.int r)) σ')  (σ : bSto) (hF : f_X11_isCrowd_J14  σ = some (r, σ')) : bAJ X 14 [] [] σ := by
  rw [f_X11_isCrowd_J14] at hF
  refine b_iconst (pc := 14) C dX11_isCrowd_14 ic_0 ?_
  exact b_zret (pc := 15) C Rt dX11_isCrowd_15 rfl hF
set_option maxHeartbeats 4000000 in
set_option maxRecDepth 20000 in
theorem e_X11_isCrowd_0 {X : bX} {l : Launch} {G : bG} {ρ : Nat → Nat} {A : Nat → Prop} {d : Nat} {r : Int32} {σ' : bSto} (C : bCX X cX11_isCrowd RX11 (d + 0)) (Hh : bH X l G bSHf ρ A 1) (Rt : bRX X (some .boolean) (some (.int r)) σ') (x0 : Int32) (σ : bSto) (hF : f_X11_isCrowd x0 σ = some (r, σ')) : bAJ X 0 [(0, .int x0)] [] σ := by
  rw [f_X11_isCrowd] at hF
  refine b_iload_n (pc := 0) C dX11_isCrowd_0 rfl 0 rfl ?_
  refine b_if_lt (tgt := 14) (pc := 1) C dX11_isCrowd_1 rfl (fun hc1 => ?_) (fun hc1 => ?_)
  · rw [if_pos hc1] at hF
    exact b_sub [] rfl (e_X11_isCrowd_J14 C Hh Rt  _ hF)
  · rw [if_neg hc1] at hF
    refine b_iload_n (pc := 4) C dX11_isCrowd_4 rfl 0 rfl ?_
    refine b_bipush (pc := 5) C dX11_isCrowd_5 bp_99 ?_
    refine b_icmp_gt (tgt := 14) (pc := 7) C dX11_isCrowd_7 rfl (fun hc2 => ?_) (fun hc2 => ?_)
    · rw [if_pos hc2] at hF
      exact b_sub [] rfl (e_X11_isCrowd_J14 C Hh Rt  _ hF)
    · rw [if_neg hc2] at hF
      refine b_iconst (pc := 10) C dX11_isCrowd_10 ic_1 ?_
      refine b_goto (tgt := 15) (pc := 11) C dX11_isCrowd_11 rfl ?_
      exact b_zret (pc := 15) C Rt dX11_isCrowd_15 rfl hF
set_option maxHeartbeats 4000000 in
set_option maxRecDepth 20000 in
theorem e_X11_isCrowd {l : Launch} {G : bG} {ρ : Nat → Nat} {A : Nat → Prop} (d : Nat) (x0 : Int32) (σ : bSto) (r : Int32) (σ' : bSto) (hF : f_X11_isCrowd x0 σ = some (r, σ')) : bEv l G bSHf ρ A yX11_isCrowd cX11_isCrowd 1 (some .boolean) (d + 0) [.int x0] σ (some (.int r)) σ' := b_met (d := d + 0) (by decide +kernel) (Nat.le_of_ble_eq_true rfl) rfl (fun X C Rt h1 h2 h3 => e_X11_isCrowd_0 C ⟨fun o q h => by rw [h1]; exact h, fun i h => by rw [h2]; exact h, h3⟩ Rt _ _ hF)
/-! BenchColony.isLoudness -/
def f_X11_isLoudness_J14  (σ : bSto) : Option (Int32 × bSto) := some ((0 : Int32), σ)
def f_X11_isLoudness (x0 : Int32) (σ : bSto) : Option (Int32 × bSto) := (if x0 < 0 then f_X11_isLoudness_J14  σ else (if (6 : Int32) < x0 then f_X11_isLoudness_J14  σ else some ((1 : Int32), σ)))
set_option maxHeartbeats 4000000 in
set_option maxRecDepth 20000 in
theorem e_X11_isLoudness_J14 {X : bX} {l : Launch} {G : bG} {ρ : Nat → Nat} {A : Nat → Prop} {d : Nat} {r : Int32} {σ' : bSto} (C : bCX X cX11_isLoudness RX11 (d + 0)) (Hh : bH X l G bSHf ρ A 1) (Rt : bRX X (some .boolean) (some (.int r)) σ')  (σ : bSto) (hF : f_X11_isLoudness_J14  σ = some (r, σ')) : bAJ X 14 [] [] σ := by
  rw [f_X11_isLoudness_J14] at hF
  refine b_iconst (pc := 14) C dX11_isLoudness_14 ic_0 ?_
  exact b_zret (pc := 15) C Rt dX11_isLoudness_15 rfl hF
set_option maxHeartbeats 4000000 in
set_option maxRecDepth 20000 in
theorem e_X11_isLoudness_0 {X : bX} {l : Launch} {G : bG} {ρ : Nat → Nat} {A : Nat → Prop} {d : Nat} {r : Int32} {σ' : bSto} (C : bCX X cX11_isLoudness RX11 (d + 0)) (Hh : bH X l G bSHf ρ A 1) (Rt : bRX X (some .boolean) (some (.int r)) σ') (x0 : Int32) (σ : bSto) (hF : f_X11_isLoudness x0 σ = some (r, σ')) : bAJ X 0 [(0, .int x0)] [] σ := by
  rw [f_X11_isLoudness] at hF
  refine b_iload_n (pc := 0) C dX11_isLoudness_0 rfl 0 rfl ?_
  refine b_if_lt (tgt := 14) (pc := 1) C dX11_isLoudness_1 rfl (fun hc1 => ?_) (fun hc1 => ?_)
  · rw [if_pos hc1] at hF
    exact b_sub [] rfl (e_X11_isLoudness_J14 C Hh Rt  _ hF)
  · rw [if_neg hc1] at hF
    refine b_iload_n (pc := 4) C dX11_isLoudness_4 rfl 0 rfl ?_
    refine b_bipush (pc := 5) C dX11_isLoudness_5 bp_6 ?_
    refine b_icmp_gt (tgt := 14) (pc := 7) C dX11_isLoudness_7 rfl (fun hc2 => ?_) (fun hc2 => ?_)
    · rw [if_pos hc2] at hF
      exact b_sub [] rfl (e_X11_isLoudness_J14 C Hh Rt  _ hF)
    · rw [if_neg hc2] at hF
      refine b_iconst (pc := 10) C dX11_isLoudness_10 ic_1 ?_
      refine b_goto (tgt := 15) (pc := 11) C dX11_isLoudness_11 rfl ?_
      exact b_zret (pc := 15) C Rt dX11_isLoudness_15 rfl hF
set_option maxHeartbeats 4000000 in
set_option maxRecDepth 20000 in
theorem e_X11_isLoudness {l : Launch} {G : bG} {ρ : Nat → Nat} {A : Nat → Prop} (d : Nat) (x0 : Int32) (σ : bSto) (r : Int32) (σ' : bSto) (hF : f_X11_isLoudness x0 σ = some (r, σ')) : bEv l G bSHf ρ A yX11_isLoudness cX11_isLoudness 1 (some .boolean) (d + 0) [.int x0] σ (some (.int r)) σ' := b_met (d := d + 0) (by decide +kernel) (Nat.le_of_ble_eq_true rfl) rfl (fun X C Rt h1 h2 h3 => e_X11_isLoudness_0 C ⟨fun o q h => by rw [h1]; exact h, fun i h => by rw [h2]; exact h, h3⟩ Rt _ _ hF)
/-! BenchColony.share -/
def f_X11_share_J21 (x1 : Int32) (s0 : Int32) (σ : bSto) : Option (Int32 × bSto) := some ((s0 - ((2 : Int32) * x1)), σ)
def f_X11_share (x0 : Int32) (x1 : Int32) (x2 : Int32) (σ : bSto) : Option (Int32 × bSto) := (if x1 = x2 then f_X11_share_J21 x1 (x0 / (2 : Int32)) σ else (if x1 ≤ x2 then f_X11_share_J21 x1 (0 : Int32) σ else f_X11_share_J21 x1 x0 σ))
set_option maxHeartbeats 4000000 in
set_option maxRecDepth 20000 in
theorem e_X11_share_J21 {X : bX} {l : Launch} {G : bG} {ρ : Nat → Nat} {A : Nat → Prop} {d : Nat} {r : Int32} {σ' : bSto} (C : bCX X cX11_share RX11 (d + 0)) (Hh : bH X l G bSHf ρ A 4) (Rt : bRX X (some .int) (some (.int r)) σ') (x1 : Int32) (s0 : Int32) (σ : bSto) (hF : f_X11_share_J21 x1 s0 σ = some (r, σ')) : bAJ X 21 [(1, .int x1)] [.int s0] σ := by
  rw [f_X11_share_J21] at hF
  refine b_istore_n (L' := [(3, .int s0), (1, .int x1)]) (pc := 21) C dX11_share_21 rfl rfl (Hh.2.1 _ (Nat.le_of_ble_eq_true rfl)) rfl ?_
  refine b_iload_n (pc := 22) C dX11_share_22 rfl 0 rfl ?_
  refine b_iconst (pc := 23) C dX11_share_23 ic_2 ?_
  refine b_iload_n (pc := 24) C dX11_share_24 rfl 1 rfl ?_
  refine b_imul (pc := 25) C dX11_share_25 ?_
  refine b_isub (pc := 26) C dX11_share_26 ?_
  exact b_iret (pc := 27) C Rt dX11_share_27 hF
set_option maxHeartbeats 4000000 in
set_option maxRecDepth 20000 in
theorem e_X11_share_0 {X : bX} {l : Launch} {G : bG} {ρ : Nat → Nat} {A : Nat → Prop} {d : Nat} {r : Int32} {σ' : bSto} (C : bCX X cX11_share RX11 (d + 0)) (Hh : bH X l G bSHf ρ A 4) (Rt : bRX X (some .int) (some (.int r)) σ') (x0 : Int32) (x1 : Int32) (x2 : Int32) (σ : bSto) (hF : f_X11_share x0 x1 x2 σ = some (r, σ')) : bAJ X 0 [(0, .int x0), (1, .int x1), (2, .int x2)] [] σ := by
  rw [f_X11_share] at hF
  refine b_iload_n (pc := 0) C dX11_share_0 rfl 1 rfl ?_
  refine b_iload_n (pc := 1) C dX11_share_1 rfl 2 rfl ?_
  refine b_icmp_ne (tgt := 11) (pc := 2) C dX11_share_2 rfl (fun hc1 => ?_) (fun hc1 => ?_)
  · rw [if_neg hc1] at hF
    refine b_iload_n (pc := 11) C dX11_share_11 rfl 1 rfl ?_
    refine b_iload_n (pc := 12) C dX11_share_12 rfl 2 rfl ?_
    refine b_icmp_le (tgt := 20) (pc := 13) C dX11_share_13 rfl (fun hc2 => ?_) (fun hc2 => ?_)
    · rw [if_pos hc2] at hF
      refine b_iconst (pc := 20) C dX11_share_20 ic_0 ?_
      exact b_sub [1] rfl (e_X11_share_J21 C Hh Rt x1 (0 : Int32) _ hF)
    · rw [if_neg hc2] at hF
      refine b_iload_n (pc := 16) C dX11_share_16 rfl 0 rfl ?_
      refine b_goto (tgt := 21) (pc := 17) C dX11_share_17 rfl ?_
      exact b_sub [1] rfl (e_X11_share_J21 C Hh Rt x1 x0 _ hF)
  · rw [if_pos hc1] at hF
    refine b_iload_n (pc := 5) C dX11_share_5 rfl 0 rfl ?_
    refine b_iconst (pc := 6) C dX11_share_6 ic_2 ?_
    refine b_idiv (pc := 7) C dX11_share_7 (by decide) ?_
    refine b_goto (tgt := 21) (pc := 8) C dX11_share_8 rfl ?_
    exact b_sub [1] rfl (e_X11_share_J21 C Hh Rt x1 (x0 / (2 : Int32)) _ hF)
set_option maxHeartbeats 4000000 in
set_option maxRecDepth 20000 in
theorem e_X11_share {l : Launch} {G : bG} {ρ : Nat → Nat} {A : Nat → Prop} (d : Nat) (x0 : Int32) (x1 : Int32) (x2 : Int32) (σ : bSto) (r : Int32) (σ' : bSto) (hF : f_X11_share x0 x1 x2 σ = some (r, σ')) : bEv l G bSHf ρ A yX11_share cX11_share 4 (some .int) (d + 0) [.int x0, .int x1, .int x2] σ (some (.int r)) σ' := b_met (d := d + 0) (by decide +kernel) (Nat.le_of_ble_eq_true rfl) rfl (fun X C Rt h1 h2 h3 => e_X11_share_0 C ⟨fun o q h => by rw [h1]; exact h, fun i h => by rw [h2]; exact h, h3⟩ Rt _ _ _ _ hF)
/-! BenchColony.shout -/
def f_X11_shout_J39  (σ : bSto) : Option (Int32 × bSto) := bbd (f_X11_refusedWith (2 : Int32) (-100 : Int32) σ) (fun v3 σ2 => some (v3, σ2))
def f_X11_shout (x1 : Int32) (x2 : Int32) (x3 : Int32) (x4 : Int32) (σ : bSto) : Option (Int32 × bSto) := if kR (σ.2.2 0 7) then (if (σ.1 (σ.2.2 0 7) 4) = 0 then bbd (f_X11_refusedWith (1 : Int32) (-100 : Int32) σ) (fun v30 σ29 => some (v30, σ29)) else bbd (f_X11_isCrowd x1 σ) (fun v5 σ4 => (if v5 = 0 then f_X11_shout_J39  σ4 else bbd (f_X11_isLoudness x2 σ4) (fun v9 σ8 => (if v9 = 0 then f_X11_shout_J39  σ8 else bbd (f_X11_isLoudness x3 σ8) (fun v13 σ12 => (if v13 = 0 then f_X11_shout_J39  σ12 else (if x4 = 0 then bbd (f_X11_share x1 x2 x3 σ12) (fun v18 σ17 => bbd (f_X11_answered v18 σ17) (fun v21 σ20 => some (v21, σ20))) else bbd (f_X11_share x1 x3 x2 σ12) (fun v24 σ23 => bbd (f_X11_answered v24 σ23) (fun v27 σ26 => some (v27, σ26))))))))))) else none
set_option maxHeartbeats 4000000 in
set_option maxRecDepth 20000 in
theorem e_X11_shout_J39 {X : bX} {l : Launch} {G : bG} {ρ : Nat → Nat} {A : Nat → Prop} {d : Nat} {r : Int32} {σ' : bSto} (C : bCX X cX11_shout RX11 (d + 1)) (Hh : bH X l G bSHf ρ A 5) (Rt : bRX X (some .int) (some (.int r)) σ')  (σ : bSto) (hF : f_X11_shout_J39  σ = some (r, σ')) : bAJ X 39 [(0, .ref 0)] [] σ := by
  rw [f_X11_shout_J39] at hF
  refine b_aload_n (pc := 39) C dX11_shout_39 rfl 0 rfl ?_
  refine b_iconst (pc := 40) C dX11_shout_40 ic_2 ?_
  refine b_bipush (pc := 41) C dX11_shout_41 bp_m100 ?_
  obtain ⟨v3, σ2, hc1, hF⟩ := bbd_e hF
  refine b_cV2i (d' := (d + 0)) (pc := 43) C dX11_shout_43 mm_X11_170 (Hh.1 _ _ sh_0) rfl (Nat.le_of_ble_eq_true rfl) (by omega) (Hh.2.2 _ _ _ _ _ _ _ _ _ (lvl_eq (by omega) (e_X11_refusedWith (d + 0) (2 : Int32) (-100 : Int32) _ _ _ hc1))) ?_
  exact b_iret (pc := 46) C Rt dX11_shout_46 hF
set_option maxHeartbeats 4000000 in
set_option maxRecDepth 20000 in
theorem e_X11_shout_0 {X : bX} {l : Launch} {G : bG} {ρ : Nat → Nat} {A : Nat → Prop} {d : Nat} {r : Int32} {σ' : bSto} (C : bCX X cX11_shout RX11 (d + 1)) (Hh : bH X l G bSHf ρ A 5) (Rt : bRX X (some .int) (some (.int r)) σ') (x1 : Int32) (x2 : Int32) (x3 : Int32) (x4 : Int32) (σ : bSto) (hF : f_X11_shout x1 x2 x3 x4 σ = some (r, σ')) : bAJ X 0 [(0, .ref 0), (1, .int x1), (2, .int x2), (3, .int x3), (4, .int x4)] [] σ := by
  rw [f_X11_shout] at hF
  refine b_aload_n (pc := 0) C dX11_shout_0 rfl 0 rfl ?_
  obtain ⟨hk1, hF⟩ := bif_y hF
  refine b_getR (pc := 1) C dX11_shout_1 fl_X11_57 (Hh.1 _ _ sh_0) rfl ?_
  refine b_getI (pc := 4) C dX11_shout_4 fl_X11_196 (Hh.1 _ _ (shR hk1)) rfl ?_
  refine b_if_ne (tgt := 18) (pc := 7) C dX11_shout_7 rfl (fun hc2 => ?_) (fun hc2 => ?_)
  · rw [if_neg hc2] at hF
    refine b_iload_n (pc := 18) C dX11_shout_18 rfl 1 rfl ?_
    obtain ⟨v5, σ4, hc3, hF⟩ := bbd_e hF
    refine b_cS1i (d' := (d + 0)) (pc := 19) C dX11_shout_19 mm_X11_306 (Nat.le_of_ble_eq_true rfl) (by omega) (Hh.2.2 _ _ _ _ _ _ _ _ _ (lvl_eq (by omega) (e_X11_isCrowd (d + 0) x1 _ _ _ hc3))) ?_
    refine b_if_eq (tgt := 39) (pc := 22) C dX11_shout_22 rfl (fun hc6 => ?_) (fun hc6 => ?_)
    · rw [if_pos hc6] at hF
      exact b_sub [0] rfl (e_X11_shout_J39 C Hh Rt  _ hF)
    · rw [if_neg hc6] at hF
      refine b_iload_n (pc := 25) C dX11_shout_25 rfl 2 rfl ?_
      obtain ⟨v9, σ8, hc7, hF⟩ := bbd_e hF
      refine b_cS1i (d' := (d + 0)) (pc := 26) C dX11_shout_26 mm_X11_309 (Nat.le_of_ble_eq_true rfl) (by omega) (Hh.2.2 _ _ _ _ _ _ _ _ _ (lvl_eq (by omega) (e_X11_isLoudness (d + 0) x2 _ _ _ hc7))) ?_
      refine b_if_eq (tgt := 39) (pc := 29) C dX11_shout_29 rfl (fun hc10 => ?_) (fun hc10 => ?_)
      · rw [if_pos hc10] at hF
        exact b_sub [0] rfl (e_X11_shout_J39 C Hh Rt  _ hF)
      · rw [if_neg hc10] at hF
        refine b_iload_n (pc := 32) C dX11_shout_32 rfl 3 rfl ?_
        obtain ⟨v13, σ12, hc11, hF⟩ := bbd_e hF
        refine b_cS1i (d' := (d + 0)) (pc := 33) C dX11_shout_33 mm_X11_309 (Nat.le_of_ble_eq_true rfl) (by omega) (Hh.2.2 _ _ _ _ _ _ _ _ _ (lvl_eq (by omega) (e_X11_isLoudness (d + 0) x3 _ _ _ hc11))) ?_
        refine b_if_ne (tgt := 47) (pc := 36) C dX11_shout_36 rfl (fun hc14 => ?_) (fun hc14 => ?_)
        · rw [if_neg hc14] at hF
          refine b_aload_n (pc := 47) C dX11_shout_47 rfl 0 rfl ?_
          refine b_iload (pc := 48) C dX11_shout_48 4 rfl ?_
          refine b_if_eq (tgt := 62) (pc := 50) C dX11_shout_50 rfl (fun hc15 => ?_) (fun hc15 => ?_)
          · rw [if_pos hc15] at hF
            refine b_iload_n (pc := 62) C dX11_shout_62 rfl 1 rfl ?_
            refine b_iload_n (pc := 63) C dX11_shout_63 rfl 2 rfl ?_
            refine b_iload_n (pc := 64) C dX11_shout_64 rfl 3 rfl ?_
            obtain ⟨v18, σ17, hc16, hF⟩ := bbd_e hF
            refine b_cS3i (d' := (d + 0)) (pc := 65) C dX11_shout_65 mm_X11_312 (Nat.le_of_ble_eq_true rfl) (by omega) (Hh.2.2 _ _ _ _ _ _ _ _ _ (lvl_eq (by omega) (e_X11_share (d + 0) x1 x2 x3 _ _ _ hc16))) ?_
            obtain ⟨v21, σ20, hc19, hF⟩ := bbd_e hF
            refine b_cV1i (d' := (d + 0)) (pc := 68) C dX11_shout_68 mm_X11_124 (Hh.1 _ _ sh_0) rfl (Nat.le_of_ble_eq_true rfl) (by omega) (Hh.2.2 _ _ _ _ _ _ _ _ _ (lvl_eq (by omega) (e_X11_answered (d + 0) v18 _ _ _ hc19))) ?_
            exact b_iret (pc := 71) C Rt dX11_shout_71 hF
          · rw [if_neg hc15] at hF
            refine b_iload_n (pc := 53) C dX11_shout_53 rfl 1 rfl ?_
            refine b_iload_n (pc := 54) C dX11_shout_54 rfl 3 rfl ?_
            refine b_iload_n (pc := 55) C dX11_shout_55 rfl 2 rfl ?_
            obtain ⟨v24, σ23, hc22, hF⟩ := bbd_e hF
            refine b_cS3i (d' := (d + 0)) (pc := 56) C dX11_shout_56 mm_X11_312 (Nat.le_of_ble_eq_true rfl) (by omega) (Hh.2.2 _ _ _ _ _ _ _ _ _ (lvl_eq (by omega) (e_X11_share (d + 0) x1 x3 x2 _ _ _ hc22))) ?_
            refine b_goto (tgt := 68) (pc := 59) C dX11_shout_59 rfl ?_
            obtain ⟨v27, σ26, hc25, hF⟩ := bbd_e hF
            refine b_cV1i (d' := (d + 0)) (pc := 68) C dX11_shout_68 mm_X11_124 (Hh.1 _ _ sh_0) rfl (Nat.le_of_ble_eq_true rfl) (by omega) (Hh.2.2 _ _ _ _ _ _ _ _ _ (lvl_eq (by omega) (e_X11_answered (d + 0) v24 _ _ _ hc25))) ?_
            exact b_iret (pc := 71) C Rt dX11_shout_71 hF
        · rw [if_pos hc14] at hF
          exact b_sub [0] rfl (e_X11_shout_J39 C Hh Rt  _ hF)
  · rw [if_pos hc2] at hF
    refine b_aload_n (pc := 10) C dX11_shout_10 rfl 0 rfl ?_
    refine b_iconst (pc := 11) C dX11_shout_11 ic_1 ?_
    refine b_bipush (pc := 12) C dX11_shout_12 bp_m100 ?_
    obtain ⟨v30, σ29, hc28, hF⟩ := bbd_e hF
    refine b_cV2i (d' := (d + 0)) (pc := 14) C dX11_shout_14 mm_X11_170 (Hh.1 _ _ sh_0) rfl (Nat.le_of_ble_eq_true rfl) (by omega) (Hh.2.2 _ _ _ _ _ _ _ _ _ (lvl_eq (by omega) (e_X11_refusedWith (d + 0) (1 : Int32) (-100 : Int32) _ _ _ hc28))) ?_
    exact b_iret (pc := 17) C Rt dX11_shout_17 hF
set_option maxHeartbeats 4000000 in
set_option maxRecDepth 20000 in
theorem e_X11_shout {l : Launch} {G : bG} {ρ : Nat → Nat} {A : Nat → Prop} (d : Nat) (x1 : Int32) (x2 : Int32) (x3 : Int32) (x4 : Int32) (σ : bSto) (r : Int32) (σ' : bSto) (hF : f_X11_shout x1 x2 x3 x4 σ = some (r, σ')) : bEv l G bSHf ρ A yX11_shout cX11_shout 5 (some .int) (d + 1) [.ref 0, .int x1, .int x2, .int x3, .int x4] σ (some (.int r)) σ' := b_met (d := d + 1) (by decide +kernel) (Nat.le_of_ble_eq_true rfl) rfl (fun X C Rt h1 h2 h3 => e_X11_shout_0 C ⟨fun o q h => by rw [h1]; exact h, fun i h => by rw [h2]; exact h, h3⟩ Rt _ _ _ _ _ hF)
/-! BenchColony.isRest -/
def f_X11_isRest_L2 : Nat → Int32 → Int32 → Int32 → Int32 → bSto → Option ((Int32 × bSto) ⊕ (bSto))
  | 0, _, _, _, _, _ => none
  | n + 1, x0, x1, x2, x3, σ => (if (6 : Int32) < x3 then some (.inr σ) else bbd (f_X11_share x0 x3 x2 σ) (fun v4 σ3 => bbd (f_X11_share x0 x1 x2 σ3) (fun v7 σ6 => (if v7 < v4 then some (.inl ((0 : Int32), σ6)) else bbd (f_X11_share x0 x3 x1 σ6) (fun v11 σ10 => bbd (f_X11_share x0 x2 x1 σ10) (fun v14 σ13 => (if v11 ≤ v14 then blet (x3 + (1 : Int32)) (fun x3_16 => f_X11_isRest_L2 n x0 x1 x2 x3_16 σ13) else some (.inl ((0 : Int32), σ13)))))))))
def f_X11_isRest (x0 : Int32) (x1 : Int32) (x2 : Int32) (σ : bSto) : Option (Int32 × bSto) := br0 (f_X11_isRest_L2 bFU x0 x1 x2 (0 : Int32) σ) (fun v s => some (v, s)) (fun σ2 => some ((1 : Int32), σ2))
set_option maxHeartbeats 4000000 in
set_option maxRecDepth 20000 in
theorem e_X11_isRest_L2 {X : bX} {l : Launch} {G : bG} {ρ : Nat → Nat} {A : Nat → Prop} {d : Nat} {r : Int32} {σ' : bSto} (C : bCX X cX11_isRest RX11 (d + 1)) (Hh : bH X l G bSHf ρ A 4) (Rt : bRX X (some .boolean) (some (.int r)) σ') : ∀ (n : Nat) (x0 : Int32) (x1 : Int32) (x2 : Int32) (x3 : Int32) (σ : bSto) (q : ((Int32 × bSto) ⊕ (bSto))), f_X11_isRest_L2 n x0 x1 x2 x3 σ = some q → (∀ (v : Int32) (s : bSto), q = .inl (v, s) → some (v, s) = some (r, σ')) → (∀  (s : bSto), q = .inr s → bAJ X 46 [] [] s) → bAJ X 2 [(0, .int x0), (1, .int x1), (2, .int x2), (3, .int x3)] [] σ := by
  intro n
  induction n with
  | zero => intro x0 x1 x2 x3 σ q hF; rw [f_X11_isRest_L2] at hF; cases hF
  | succ n ih =>
    intro x0 x1 x2 x3 σ q hF hr hx
    rw [f_X11_isRest_L2] at hF
    refine b_iload_n (pc := 2) C dX11_isRest_2 rfl 3 rfl ?_
    refine b_bipush (pc := 3) C dX11_isRest_3 bp_6 ?_
    refine b_icmp_gt (tgt := 46) (pc := 5) C dX11_isRest_5 rfl (fun hc1 => ?_) (fun hc1 => ?_)
    · rw [if_pos hc1] at hF
      exact b_sub [] rfl (hx  _ (Option.some.inj hF).symm )
    · rw [if_neg hc1] at hF
      refine b_iload_n (pc := 8) C dX11_isRest_8 rfl 0 rfl ?_
      refine b_iload_n (pc := 9) C dX11_isRest_9 rfl 3 rfl ?_
      refine b_iload_n (pc := 10) C dX11_isRest_10 rfl 2 rfl ?_
      obtain ⟨v4, σ3, hc2, hF⟩ := bbd_e hF
      refine b_cS3i (d' := (d + 0)) (pc := 11) C dX11_isRest_11 mm_X11_312 (Nat.le_of_ble_eq_true rfl) (by omega) (Hh.2.2 _ _ _ _ _ _ _ _ _ (lvl_eq (by omega) (e_X11_share (d + 0) x0 x3 x2 _ _ _ hc2))) ?_
      refine b_iload_n (pc := 14) C dX11_isRest_14 rfl 0 rfl ?_
      refine b_iload_n (pc := 15) C dX11_isRest_15 rfl 1 rfl ?_
      refine b_iload_n (pc := 16) C dX11_isRest_16 rfl 2 rfl ?_
      obtain ⟨v7, σ6, hc5, hF⟩ := bbd_e hF
      refine b_cS3i (d' := (d + 0)) (pc := 17) C dX11_isRest_17 mm_X11_312 (Nat.le_of_ble_eq_true rfl) (by omega) (Hh.2.2 _ _ _ _ _ _ _ _ _ (lvl_eq (by omega) (e_X11_share (d + 0) x0 x1 x2 _ _ _ hc5))) ?_
      refine b_icmp_gt (tgt := 38) (pc := 20) C dX11_isRest_20 rfl (fun hc8 => ?_) (fun hc8 => ?_)
      · rw [if_pos hc8] at hF
        refine b_iconst (pc := 38) C dX11_isRest_38 ic_0 ?_
        exact b_zret (pc := 39) C Rt dX11_isRest_39 rfl (hr _ _ (Option.some.inj hF).symm)
      · rw [if_neg hc8] at hF
        refine b_iload_n (pc := 23) C dX11_isRest_23 rfl 0 rfl ?_
        refine b_iload_n (pc := 24) C dX11_isRest_24 rfl 3 rfl ?_
        refine b_iload_n (pc := 25) C dX11_isRest_25 rfl 1 rfl ?_
        obtain ⟨v11, σ10, hc9, hF⟩ := bbd_e hF
        refine b_cS3i (d' := (d + 0)) (pc := 26) C dX11_isRest_26 mm_X11_312 (Nat.le_of_ble_eq_true rfl) (by omega) (Hh.2.2 _ _ _ _ _ _ _ _ _ (lvl_eq (by omega) (e_X11_share (d + 0) x0 x3 x1 _ _ _ hc9))) ?_
        refine b_iload_n (pc := 29) C dX11_isRest_29 rfl 0 rfl ?_
        refine b_iload_n (pc := 30) C dX11_isRest_30 rfl 2 rfl ?_
        refine b_iload_n (pc := 31) C dX11_isRest_31 rfl 1 rfl ?_
        obtain ⟨v14, σ13, hc12, hF⟩ := bbd_e hF
        refine b_cS3i (d' := (d + 0)) (pc := 32) C dX11_isRest_32 mm_X11_312 (Nat.le_of_ble_eq_true rfl) (by omega) (Hh.2.2 _ _ _ _ _ _ _ _ _ (lvl_eq (by omega) (e_X11_share (d + 0) x0 x2 x1 _ _ _ hc12))) ?_
        refine b_icmp_le (tgt := 40) (pc := 35) C dX11_isRest_35 rfl (fun hc15 => ?_) (fun hc15 => ?_)
        · rw [if_pos hc15] at hF
          obtain ⟨x3_16, e17, hF⟩ := blet_e hF
          refine b_iinc (L' := [(3, .int x3_16), (0, .int x0), (1, .int x1), (2, .int x2)]) (pc := 40) C dX11_isRest_40 3 rfl ic_1 e17 (Hh.2.1 _ (Nat.le_of_ble_eq_true rfl)) rfl ?_
          refine b_goto (tgt := 2) (pc := 43) C dX11_isRest_43 rfl ?_
          exact b_sub [1, 2, 3, 0] rfl (ih x0 x1 x2 x3_16 _ _ hF hr hx)
        · rw [if_neg hc15] at hF
          refine b_iconst (pc := 38) C dX11_isRest_38 ic_0 ?_
          exact b_zret (pc := 39) C Rt dX11_isRest_39 rfl (hr _ _ (Option.some.inj hF).symm)
set_option maxHeartbeats 4000000 in
set_option maxRecDepth 20000 in
theorem e_X11_isRest_0 {X : bX} {l : Launch} {G : bG} {ρ : Nat → Nat} {A : Nat → Prop} {d : Nat} {r : Int32} {σ' : bSto} (C : bCX X cX11_isRest RX11 (d + 1)) (Hh : bH X l G bSHf ρ A 4) (Rt : bRX X (some .boolean) (some (.int r)) σ') (x0 : Int32) (x1 : Int32) (x2 : Int32) (σ : bSto) (hF : f_X11_isRest x0 x1 x2 σ = some (r, σ')) : bAJ X 0 [(0, .int x0), (1, .int x1), (2, .int x2)] [] σ := by
  rw [f_X11_isRest] at hF
  refine b_iconst (pc := 0) C dX11_isRest_0 ic_0 ?_
  refine b_istore_n (L' := [(3, .int (0 : Int32)), (0, .int x0), (1, .int x1), (2, .int x2)]) (pc := 1) C dX11_isRest_1 rfl rfl (Hh.2.1 _ (Nat.le_of_ble_eq_true rfl)) rfl ?_
  rcases br0_e hF with ⟨v, s, hq1, hF⟩ | ⟨σ2, hq1, hF⟩
  · exact b_sub [1, 2, 3, 0] rfl (e_X11_isRest_L2 C Hh Rt bFU x0 x1 x2 (0 : Int32) _ _ hq1 (fun v s e => by cases e; exact hF) (fun  _ e => by cases e))
  · refine b_sub [1, 2, 3, 0] rfl (e_X11_isRest_L2 C Hh Rt bFU x0 x1 x2 (0 : Int32) _ _ hq1 (fun v s e => by cases e) (fun  _ e  => ?_))
    cases e
    refine b_iconst (pc := 46) C dX11_isRest_46 ic_1 ?_
    exact b_zret (pc := 47) C Rt dX11_isRest_47 rfl hF
set_option maxHeartbeats 4000000 in
set_option maxRecDepth 20000 in
theorem e_X11_isRest {l : Launch} {G : bG} {ρ : Nat → Nat} {A : Nat → Prop} (d : Nat) (x0 : Int32) (x1 : Int32) (x2 : Int32) (σ : bSto) (r : Int32) (σ' : bSto) (hF : f_X11_isRest x0 x1 x2 σ = some (r, σ')) : bEv l G bSHf ρ A yX11_isRest cX11_isRest 4 (some .boolean) (d + 1) [.int x0, .int x1, .int x2] σ (some (.int r)) σ' := b_met (d := d + 1) (by decide +kernel) (Nat.le_of_ble_eq_true rfl) rfl (fun X C Rt h1 h2 h3 => e_X11_isRest_0 C ⟨fun o q h => by rw [h1]; exact h, fun i h => by rw [h2]; exact h, h3⟩ Rt _ _ _ _ hF)
/-! BenchColony.rests -/
def f_X11_rests_L42 : Nat → Int32 → Int32 → Int32 → Int32 → bSto → Option (Int32 × Int32 × Int32 × bSto)
  | 0, _, _, _, _, _ => none
  | n + 1, x1, x2, x3, x4, σ => (if (6 : Int32) < x4 then some (x1, x2, x3, σ) else bbd (f_X11_isRest x1 x3 x4 σ) (fun v4 σ3 => (if v4 = 0 then blet (x4 + (1 : Int32)) (fun x4_6 => f_X11_rests_L42 n x1 x2 x3 x4_6 σ3) else blet (x2 + (1 : Int32)) (fun x2_8 => blet (x4 + (1 : Int32)) (fun x4_10 => f_X11_rests_L42 n x1 x2_8 x3 x4_10 σ3)))))
def f_X11_rests_L33 : Nat → Int32 → Int32 → Int32 → bSto → Option (Int32 × bSto)
  | 0, _, _, _, _ => none
  | n + 1, x1, x2, x3, σ => (if (6 : Int32) < x3 then some (x2, σ) else bl3 (f_X11_rests_L42 bFU x1 x2 x3 (0 : Int32) σ) (fun x1_2 x2_2 x3_2 σ3 => blet (x3_2 + (1 : Int32)) (fun x3_4 => f_X11_rests_L33 n x1_2 x2_2 x3_4 σ3)))
def f_X11_rests (x1 : Int32) (σ : bSto) : Option (Int32 × bSto) := if kR (σ.2.2 0 7) then (if (σ.1 (σ.2.2 0 7) 4) = 0 then bbd (f_X11_refused (1 : Int32) σ) (fun v17 σ16 => some (v17, σ16)) else bbd (f_X11_isCrowd x1 σ) (fun v5 σ4 => (if v5 = 0 then bbd (f_X11_refused (2 : Int32) σ4) (fun v14 σ13 => some (v14, σ13)) else bl1 (f_X11_rests_L33 bFU x1 (0 : Int32) (0 : Int32) σ4) (fun x2_7 σ8 => bbd (f_X11_answered x2_7 σ8) (fun v11 σ10 => some (v11, σ10)))))) else none
set_option maxHeartbeats 4000000 in
set_option maxRecDepth 20000 in
theorem e_X11_rests_L42 {X : bX} {l : Launch} {G : bG} {ρ : Nat → Nat} {A : Nat → Prop} {d : Nat} {r : Int32} {σ' : bSto} (C : bCX X cX11_rests RX11 (d + 2)) (Hh : bH X l G bSHf ρ A 5) (Rt : bRX X (some .int) (some (.int r)) σ') : ∀ (n : Nat) (x1 : Int32) (x2 : Int32) (x3 : Int32) (x4 : Int32) (σ : bSto) (q : (Int32 × Int32 × Int32 × bSto)), f_X11_rests_L42 n x1 x2 x3 x4 σ = some q → (∀ (x1 : Int32) (x2 : Int32) (x3 : Int32) (s : bSto), q = (x1, x2, x3, s) → bAJ X 68 [(0, .ref 0), (1, .int x1), (2, .int x2), (3, .int x3)] [] s) → bAJ X 42 [(0, .ref 0), (1, .int x1), (2, .int x2), (3, .int x3), (4, .int x4)] [] σ := by
  intro n
  induction n with
  | zero => intro x1 x2 x3 x4 σ q hF; rw [f_X11_rests_L42] at hF; cases hF
  | succ n ih =>
    intro x1 x2 x3 x4 σ q hF hx
    rw [f_X11_rests_L42] at hF
    refine b_iload (pc := 42) C dX11_rests_42 4 rfl ?_
    refine b_bipush (pc := 44) C dX11_rests_44 bp_6 ?_
    refine b_icmp_gt (tgt := 68) (pc := 46) C dX11_rests_46 rfl (fun hc1 => ?_) (fun hc1 => ?_)
    · rw [if_pos hc1] at hF
      exact b_sub [0, 1, 2, 3] rfl (hx _ _ _ _ (Option.some.inj hF).symm )
    · rw [if_neg hc1] at hF
      refine b_iload_n (pc := 49) C dX11_rests_49 rfl 1 rfl ?_
      refine b_iload_n (pc := 50) C dX11_rests_50 rfl 3 rfl ?_
      refine b_iload (pc := 51) C dX11_rests_51 4 rfl ?_
      obtain ⟨v4, σ3, hc2, hF⟩ := bbd_e hF
      refine b_cS3i (d' := (d + 1)) (pc := 53) C dX11_rests_53 mm_X11_316 (Nat.le_of_ble_eq_true rfl) (by omega) (Hh.2.2 _ _ _ _ _ _ _ _ _ (lvl_eq (by omega) (e_X11_isRest (d + 0) x1 x3 x4 _ _ _ hc2))) ?_
      refine b_if_eq (tgt := 62) (pc := 56) C dX11_rests_56 rfl (fun hc5 => ?_) (fun hc5 => ?_)
      · rw [if_pos hc5] at hF
        obtain ⟨x4_6, e7, hF⟩ := blet_e hF
        refine b_iinc (L' := [(4, .int x4_6), (0, .ref 0), (1, .int x1), (2, .int x2), (3, .int x3)]) (pc := 62) C dX11_rests_62 4 rfl ic_1 e7 (Hh.2.1 _ (Nat.le_of_ble_eq_true rfl)) rfl ?_
        refine b_goto (tgt := 42) (pc := 65) C dX11_rests_65 rfl ?_
        exact b_sub [1, 2, 3, 4, 0] rfl (ih x1 x2 x3 x4_6 _ _ hF hx)
      · rw [if_neg hc5] at hF
        obtain ⟨x2_8, e9, hF⟩ := blet_e hF
        refine b_iinc (L' := [(2, .int x2_8), (0, .ref 0), (1, .int x1), (3, .int x3), (4, .int x4)]) (pc := 59) C dX11_rests_59 2 rfl ic_1 e9 (Hh.2.1 _ (Nat.le_of_ble_eq_true rfl)) rfl ?_
        obtain ⟨x4_10, e11, hF⟩ := blet_e hF
        refine b_iinc (L' := [(4, .int x4_10), (2, .int x2_8), (0, .ref 0), (1, .int x1), (3, .int x3)]) (pc := 62) C dX11_rests_62 4 rfl ic_1 e11 (Hh.2.1 _ (Nat.le_of_ble_eq_true rfl)) rfl ?_
        refine b_goto (tgt := 42) (pc := 65) C dX11_rests_65 rfl ?_
        exact b_sub [2, 3, 1, 4, 0] rfl (ih x1 x2_8 x3 x4_10 _ _ hF hx)
set_option maxHeartbeats 4000000 in
set_option maxRecDepth 20000 in
theorem e_X11_rests_L33 {X : bX} {l : Launch} {G : bG} {ρ : Nat → Nat} {A : Nat → Prop} {d : Nat} {r : Int32} {σ' : bSto} (C : bCX X cX11_rests RX11 (d + 2)) (Hh : bH X l G bSHf ρ A 5) (Rt : bRX X (some .int) (some (.int r)) σ') : ∀ (n : Nat) (x1 : Int32) (x2 : Int32) (x3 : Int32) (σ : bSto) (q : (Int32 × bSto)), f_X11_rests_L33 n x1 x2 x3 σ = some q → (∀ (x2 : Int32) (s : bSto), q = (x2, s) → bAJ X 74 [(0, .ref 0), (2, .int x2)] [] s) → bAJ X 33 [(0, .ref 0), (1, .int x1), (2, .int x2), (3, .int x3)] [] σ := by
  intro n
  induction n with
  | zero => intro x1 x2 x3 σ q hF; rw [f_X11_rests_L33] at hF; cases hF
  | succ n ih =>
    intro x1 x2 x3 σ q hF hx
    rw [f_X11_rests_L33] at hF
    refine b_iload_n (pc := 33) C dX11_rests_33 rfl 3 rfl ?_
    refine b_bipush (pc := 34) C dX11_rests_34 bp_6 ?_
    refine b_icmp_gt (tgt := 74) (pc := 36) C dX11_rests_36 rfl (fun hc1 => ?_) (fun hc1 => ?_)
    · rw [if_pos hc1] at hF
      exact b_sub [0, 2] rfl (hx _ _ (Option.some.inj hF).symm )
    · rw [if_neg hc1] at hF
      refine b_iconst (pc := 39) C dX11_rests_39 ic_0 ?_
      refine b_istore (L' := [(4, .int (0 : Int32)), (0, .ref 0), (1, .int x1), (2, .int x2), (3, .int x3)]) (pc := 40) C dX11_rests_40 rfl (Hh.2.1 _ (Nat.le_of_ble_eq_true rfl)) rfl ?_
      obtain ⟨x1_2, x2_2, x3_2, σ3, hq2, hF⟩ := bl3_e hF
      refine b_sub [1, 2, 3, 4, 0] rfl (e_X11_rests_L42 C Hh Rt bFU x1 x2 x3 (0 : Int32) _ _ hq2 (fun _ _ _ _ e  => ?_))
      cases e
      obtain ⟨x3_4, e5, hF⟩ := blet_e hF
      refine b_iinc (L' := [(3, .int x3_4), (0, .ref 0), (1, .int x1_2), (2, .int x2_2)]) (pc := 68) C dX11_rests_68 3 rfl ic_1 e5 (Hh.2.1 _ (Nat.le_of_ble_eq_true rfl)) rfl ?_
      refine b_goto (tgt := 33) (pc := 71) C dX11_rests_71 rfl ?_
      exact b_sub [1, 2, 3, 0] rfl (ih x1_2 x2_2 x3_4 _ _ hF hx)
set_option maxHeartbeats 4000000 in
set_option maxRecDepth 20000 in
theorem e_X11_rests_0 {X : bX} {l : Launch} {G : bG} {ρ : Nat → Nat} {A : Nat → Prop} {d : Nat} {r : Int32} {σ' : bSto} (C : bCX X cX11_rests RX11 (d + 2)) (Hh : bH X l G bSHf ρ A 5) (Rt : bRX X (some .int) (some (.int r)) σ') (x1 : Int32) (σ : bSto) (hF : f_X11_rests x1 σ = some (r, σ')) : bAJ X 0 [(0, .ref 0), (1, .int x1)] [] σ := by
  rw [f_X11_rests] at hF
  refine b_aload_n (pc := 0) C dX11_rests_0 rfl 0 rfl ?_
  obtain ⟨hk1, hF⟩ := bif_y hF
  refine b_getR (pc := 1) C dX11_rests_1 fl_X11_57 (Hh.1 _ _ sh_0) rfl ?_
  refine b_getI (pc := 4) C dX11_rests_4 fl_X11_196 (Hh.1 _ _ (shR hk1)) rfl ?_
  refine b_if_ne (tgt := 16) (pc := 7) C dX11_rests_7 rfl (fun hc2 => ?_) (fun hc2 => ?_)
  · rw [if_neg hc2] at hF
    refine b_iload_n (pc := 16) C dX11_rests_16 rfl 1 rfl ?_
    obtain ⟨v5, σ4, hc3, hF⟩ := bbd_e hF
    refine b_cS1i (d' := (d + 1)) (pc := 17) C dX11_rests_17 mm_X11_306 (Nat.le_of_ble_eq_true rfl) (by omega) (Hh.2.2 _ _ _ _ _ _ _ _ _ (lvl_eq (by omega) (e_X11_isCrowd (d + 1) x1 _ _ _ hc3))) ?_
    refine b_if_ne (tgt := 29) (pc := 20) C dX11_rests_20 rfl (fun hc6 => ?_) (fun hc6 => ?_)
    · rw [if_neg hc6] at hF
      refine b_iconst (pc := 29) C dX11_rests_29 ic_0 ?_
      refine b_istore_n (L' := [(2, .int (0 : Int32)), (0, .ref 0), (1, .int x1)]) (pc := 30) C dX11_rests_30 rfl rfl (Hh.2.1 _ (Nat.le_of_ble_eq_true rfl)) rfl ?_
      refine b_iconst (pc := 31) C dX11_rests_31 ic_0 ?_
      refine b_istore_n (L' := [(3, .int (0 : Int32)), (2, .int (0 : Int32)), (0, .ref 0), (1, .int x1)]) (pc := 32) C dX11_rests_32 rfl rfl (Hh.2.1 _ (Nat.le_of_ble_eq_true rfl)) rfl ?_
      obtain ⟨x2_7, σ8, hq7, hF⟩ := bl1_e hF
      refine b_sub [2, 3, 1, 0] rfl (e_X11_rests_L33 C Hh Rt bFU x1 (0 : Int32) (0 : Int32) _ _ hq7 (fun _ _ e  => ?_))
      cases e
      refine b_aload_n (pc := 74) C dX11_rests_74 rfl 0 rfl ?_
      refine b_iload_n (pc := 75) C dX11_rests_75 rfl 1 rfl ?_
      obtain ⟨v11, σ10, hc9, hF⟩ := bbd_e hF
      refine b_cV1i (d' := (d + 1)) (pc := 76) C dX11_rests_76 mm_X11_124 (Hh.1 _ _ sh_0) rfl (Nat.le_of_ble_eq_true rfl) (by omega) (Hh.2.2 _ _ _ _ _ _ _ _ _ (lvl_eq (by omega) (e_X11_answered (d + 1) x2_7 _ _ _ hc9))) ?_
      exact b_iret (pc := 79) C Rt dX11_rests_79 hF
    · rw [if_pos hc6] at hF
      refine b_aload_n (pc := 23) C dX11_rests_23 rfl 0 rfl ?_
      refine b_iconst (pc := 24) C dX11_rests_24 ic_2 ?_
      obtain ⟨v14, σ13, hc12, hF⟩ := bbd_e hF
      refine b_cV1i (d' := (d + 1)) (pc := 25) C dX11_rests_25 mm_X11_75 (Hh.1 _ _ sh_0) rfl (Nat.le_of_ble_eq_true rfl) (by omega) (Hh.2.2 _ _ _ _ _ _ _ _ _ (lvl_eq (by omega) (e_X11_refused (d + 0) (2 : Int32) _ _ _ hc12))) ?_
      exact b_iret (pc := 28) C Rt dX11_rests_28 hF
  · rw [if_pos hc2] at hF
    refine b_aload_n (pc := 10) C dX11_rests_10 rfl 0 rfl ?_
    refine b_iconst (pc := 11) C dX11_rests_11 ic_1 ?_
    obtain ⟨v17, σ16, hc15, hF⟩ := bbd_e hF
    refine b_cV1i (d' := (d + 1)) (pc := 12) C dX11_rests_12 mm_X11_75 (Hh.1 _ _ sh_0) rfl (Nat.le_of_ble_eq_true rfl) (by omega) (Hh.2.2 _ _ _ _ _ _ _ _ _ (lvl_eq (by omega) (e_X11_refused (d + 0) (1 : Int32) _ _ _ hc15))) ?_
    exact b_iret (pc := 15) C Rt dX11_rests_15 hF
set_option maxHeartbeats 4000000 in
set_option maxRecDepth 20000 in
theorem e_X11_rests {l : Launch} {G : bG} {ρ : Nat → Nat} {A : Nat → Prop} (d : Nat) (x1 : Int32) (σ : bSto) (r : Int32) (σ' : bSto) (hF : f_X11_rests x1 σ = some (r, σ')) : bEv l G bSHf ρ A yX11_rests cX11_rests 5 (some .int) (d + 2) [.ref 0, .int x1] σ (some (.int r)) σ' := b_met (d := d + 2) (by decide +kernel) (Nat.le_of_ble_eq_true rfl) rfl (fun X C Rt h1 h2 h3 => e_X11_rests_0 C ⟨fun o q h => by rw [h1]; exact h, fun i h => by rw [h2]; exact h, h3⟩ Rt _ _ hF)
/-! BenchColony.rest -/
def f_X11_rest_L39 : Nat → Int32 → Int32 → Int32 → bSto → Option ((Int32 × bSto) ⊕ (Int32 × Int32 × bSto))
  | 0, _, _, _, _ => none
  | n + 1, x1, x2, x3, σ => (if (6 : Int32) < x3 then some (.inr (x1, x2, σ)) else bbd (f_X11_isRest x1 x2 x3 σ) (fun v4 σ3 => (if v4 = 0 then blet (x3 + (1 : Int32)) (fun x3_6 => f_X11_rest_L39 n x1 x2 x3_6 σ3) else bbd (f_X11_answered (((10 : Int32) * x2) + x3) σ3) (fun v10 σ9 => some (.inl (v10, σ9))))))
def f_X11_rest_L31 : Nat → Int32 → Int32 → bSto → Option ((Int32 × bSto) ⊕ (bSto))
  | 0, _, _, _ => none
  | n + 1, x1, x2, σ => (if (6 : Int32) < x2 then some (.inr σ) else br2 (f_X11_rest_L39 bFU x1 x2 (0 : Int32) σ) (fun v s => some (.inl (v, s))) (fun x1_2 x2_2 σ3 => blet (x2_2 + (1 : Int32)) (fun x2_4 => f_X11_rest_L31 n x1_2 x2_4 σ3)))
def f_X11_rest (x1 : Int32) (σ : bSto) : Option (Int32 × bSto) := if kR (σ.2.2 0 7) then (if (σ.1 (σ.2.2 0 7) 4) = 0 then bbd (f_X11_refused (1 : Int32) σ) (fun v17 σ16 => some (v17, σ16)) else bbd (f_X11_isCrowd x1 σ) (fun v5 σ4 => (if v5 = 0 then bbd (f_X11_refused (2 : Int32) σ4) (fun v14 σ13 => some (v14, σ13)) else br0 (f_X11_rest_L31 bFU x1 (0 : Int32) σ4) (fun v s => some (v, s)) (fun σ8 => bbd (f_X11_answered (-2 : Int32) σ8) (fun v11 σ10 => some (v11, σ10)))))) else none
set_option maxHeartbeats 4000000 in
set_option maxRecDepth 20000 in
theorem e_X11_rest_L39 {X : bX} {l : Launch} {G : bG} {ρ : Nat → Nat} {A : Nat → Prop} {d : Nat} {r : Int32} {σ' : bSto} (C : bCX X cX11_rest RX11 (d + 2)) (Hh : bH X l G bSHf ρ A 4) (Rt : bRX X (some .int) (some (.int r)) σ') : ∀ (n : Nat) (x1 : Int32) (x2 : Int32) (x3 : Int32) (σ : bSto) (q : ((Int32 × bSto) ⊕ (Int32 × Int32 × bSto))), f_X11_rest_L39 n x1 x2 x3 σ = some q → (∀ (v : Int32) (s : bSto), q = .inl (v, s) → some (v, s) = some (r, σ')) → (∀ (x1 : Int32) (x2 : Int32) (s : bSto), q = .inr (x1, x2, s) → bAJ X 71 [(0, .ref 0), (1, .int x1), (2, .int x2)] [] s) → bAJ X 39 [(0, .ref 0), (1, .int x1), (2, .int x2), (3, .int x3)] [] σ := by
  intro n
  induction n with
  | zero => intro x1 x2 x3 σ q hF; rw [f_X11_rest_L39] at hF; cases hF
  | succ n ih =>
    intro x1 x2 x3 σ q hF hr hx
    rw [f_X11_rest_L39] at hF
    refine b_iload_n (pc := 39) C dX11_rest_39 rfl 3 rfl ?_
    refine b_bipush (pc := 40) C dX11_rest_40 bp_6 ?_
    refine b_icmp_gt (tgt := 71) (pc := 42) C dX11_rest_42 rfl (fun hc1 => ?_) (fun hc1 => ?_)
    · rw [if_pos hc1] at hF
      exact b_sub [0, 1, 2] rfl (hx _ _ _ (Option.some.inj hF).symm )
    · rw [if_neg hc1] at hF
      refine b_iload_n (pc := 45) C dX11_rest_45 rfl 1 rfl ?_
      refine b_iload_n (pc := 46) C dX11_rest_46 rfl 2 rfl ?_
      refine b_iload_n (pc := 47) C dX11_rest_47 rfl 3 rfl ?_
      obtain ⟨v4, σ3, hc2, hF⟩ := bbd_e hF
      refine b_cS3i (d' := (d + 1)) (pc := 48) C dX11_rest_48 mm_X11_316 (Nat.le_of_ble_eq_true rfl) (by omega) (Hh.2.2 _ _ _ _ _ _ _ _ _ (lvl_eq (by omega) (e_X11_isRest (d + 0) x1 x2 x3 _ _ _ hc2))) ?_
      refine b_if_eq (tgt := 65) (pc := 51) C dX11_rest_51 rfl (fun hc5 => ?_) (fun hc5 => ?_)
      · rw [if_pos hc5] at hF
        obtain ⟨x3_6, e7, hF⟩ := blet_e hF
        refine b_iinc (L' := [(3, .int x3_6), (0, .ref 0), (1, .int x1), (2, .int x2)]) (pc := 65) C dX11_rest_65 3 rfl ic_1 e7 (Hh.2.1 _ (Nat.le_of_ble_eq_true rfl)) rfl ?_
        refine b_goto (tgt := 39) (pc := 68) C dX11_rest_68 rfl ?_
        exact b_sub [1, 2, 3, 0] rfl (ih x1 x2 x3_6 _ _ hF hr hx)
      · rw [if_neg hc5] at hF
        refine b_aload_n (pc := 54) C dX11_rest_54 rfl 0 rfl ?_
        refine b_bipush (pc := 55) C dX11_rest_55 bp_10 ?_
        refine b_iload_n (pc := 57) C dX11_rest_57 rfl 2 rfl ?_
        refine b_imul (pc := 58) C dX11_rest_58 ?_
        refine b_iload_n (pc := 59) C dX11_rest_59 rfl 3 rfl ?_
        refine b_iadd (pc := 60) C dX11_rest_60 ?_
        obtain ⟨v10, σ9, hc8, hF⟩ := bbd_e hF
        refine b_cV1i (d' := (d + 1)) (pc := 61) C dX11_rest_61 mm_X11_124 (Hh.1 _ _ sh_0) rfl (Nat.le_of_ble_eq_true rfl) (by omega) (Hh.2.2 _ _ _ _ _ _ _ _ _ (lvl_eq (by omega) (e_X11_answered (d + 1) (((10 : Int32) * x2) + x3) _ _ _ hc8))) ?_
        exact b_iret (pc := 64) C Rt dX11_rest_64 (hr _ _ (Option.some.inj hF).symm)
set_option maxHeartbeats 4000000 in
set_option maxRecDepth 20000 in
theorem e_X11_rest_L31 {X : bX} {l : Launch} {G : bG} {ρ : Nat → Nat} {A : Nat → Prop} {d : Nat} {r : Int32} {σ' : bSto} (C : bCX X cX11_rest RX11 (d + 2)) (Hh : bH X l G bSHf ρ A 4) (Rt : bRX X (some .int) (some (.int r)) σ') : ∀ (n : Nat) (x1 : Int32) (x2 : Int32) (σ : bSto) (q : ((Int32 × bSto) ⊕ (bSto))), f_X11_rest_L31 n x1 x2 σ = some q → (∀ (v : Int32) (s : bSto), q = .inl (v, s) → some (v, s) = some (r, σ')) → (∀  (s : bSto), q = .inr s → bAJ X 77 [(0, .ref 0)] [] s) → bAJ X 31 [(0, .ref 0), (1, .int x1), (2, .int x2)] [] σ := by
  intro n
  induction n with
  | zero => intro x1 x2 σ q hF; rw [f_X11_rest_L31] at hF; cases hF
  | succ n ih =>
    intro x1 x2 σ q hF hr hx
    rw [f_X11_rest_L31] at hF
    refine b_iload_n (pc := 31) C dX11_rest_31 rfl 2 rfl ?_
    refine b_bipush (pc := 32) C dX11_rest_32 bp_6 ?_
    refine b_icmp_gt (tgt := 77) (pc := 34) C dX11_rest_34 rfl (fun hc1 => ?_) (fun hc1 => ?_)
    · rw [if_pos hc1] at hF
      exact b_sub [0] rfl (hx  _ (Option.some.inj hF).symm )
    · rw [if_neg hc1] at hF
      refine b_iconst (pc := 37) C dX11_rest_37 ic_0 ?_
      refine b_istore_n (L' := [(3, .int (0 : Int32)), (0, .ref 0), (1, .int x1), (2, .int x2)]) (pc := 38) C dX11_rest_38 rfl rfl (Hh.2.1 _ (Nat.le_of_ble_eq_true rfl)) rfl ?_
      rcases br2_e hF with ⟨v, s, hq2, hF⟩ | ⟨x1_2, x2_2, σ3, hq2, hF⟩
      · exact b_sub [1, 2, 3, 0] rfl (e_X11_rest_L39 C Hh Rt bFU x1 x2 (0 : Int32) _ _ hq2 (fun v s e => by cases e; exact hr _ _ (Option.some.inj hF).symm) (fun _ _ _ e => by cases e))
      · refine b_sub [1, 2, 3, 0] rfl (e_X11_rest_L39 C Hh Rt bFU x1 x2 (0 : Int32) _ _ hq2 (fun v s e => by cases e) (fun _ _ _ e  => ?_))
        cases e
        obtain ⟨x2_4, e5, hF⟩ := blet_e hF
        refine b_iinc (L' := [(2, .int x2_4), (0, .ref 0), (1, .int x1_2)]) (pc := 71) C dX11_rest_71 2 rfl ic_1 e5 (Hh.2.1 _ (Nat.le_of_ble_eq_true rfl)) rfl ?_
        refine b_goto (tgt := 31) (pc := 74) C dX11_rest_74 rfl ?_
        exact b_sub [1, 2, 0] rfl (ih x1_2 x2_4 _ _ hF hr hx)
set_option maxHeartbeats 4000000 in
set_option maxRecDepth 20000 in
theorem e_X11_rest_0 {X : bX} {l : Launch} {G : bG} {ρ : Nat → Nat} {A : Nat → Prop} {d : Nat} {r : Int32} {σ' : bSto} (C : bCX X cX11_rest RX11 (d + 2)) (Hh : bH X l G bSHf ρ A 4) (Rt : bRX X (some .int) (some (.int r)) σ') (x1 : Int32) (σ : bSto) (hF : f_X11_rest x1 σ = some (r, σ')) : bAJ X 0 [(0, .ref 0), (1, .int x1)] [] σ := by
  rw [f_X11_rest] at hF
  refine b_aload_n (pc := 0) C dX11_rest_0 rfl 0 rfl ?_
  obtain ⟨hk1, hF⟩ := bif_y hF
  refine b_getR (pc := 1) C dX11_rest_1 fl_X11_57 (Hh.1 _ _ sh_0) rfl ?_
  refine b_getI (pc := 4) C dX11_rest_4 fl_X11_196 (Hh.1 _ _ (shR hk1)) rfl ?_
  refine b_if_ne (tgt := 16) (pc := 7) C dX11_rest_7 rfl (fun hc2 => ?_) (fun hc2 => ?_)
  · rw [if_neg hc2] at hF
    refine b_iload_n (pc := 16) C dX11_rest_16 rfl 1 rfl ?_
    obtain ⟨v5, σ4, hc3, hF⟩ := bbd_e hF
    refine b_cS1i (d' := (d + 1)) (pc := 17) C dX11_rest_17 mm_X11_306 (Nat.le_of_ble_eq_true rfl) (by omega) (Hh.2.2 _ _ _ _ _ _ _ _ _ (lvl_eq (by omega) (e_X11_isCrowd (d + 1) x1 _ _ _ hc3))) ?_
    refine b_if_ne (tgt := 29) (pc := 20) C dX11_rest_20 rfl (fun hc6 => ?_) (fun hc6 => ?_)
    · rw [if_neg hc6] at hF
      refine b_iconst (pc := 29) C dX11_rest_29 ic_0 ?_
      refine b_istore_n (L' := [(2, .int (0 : Int32)), (0, .ref 0), (1, .int x1)]) (pc := 30) C dX11_rest_30 rfl rfl (Hh.2.1 _ (Nat.le_of_ble_eq_true rfl)) rfl ?_
      rcases br0_e hF with ⟨v, s, hq7, hF⟩ | ⟨σ8, hq7, hF⟩
      · exact b_sub [1, 2, 0] rfl (e_X11_rest_L31 C Hh Rt bFU x1 (0 : Int32) _ _ hq7 (fun v s e => by cases e; exact hF) (fun  _ e => by cases e))
      · refine b_sub [1, 2, 0] rfl (e_X11_rest_L31 C Hh Rt bFU x1 (0 : Int32) _ _ hq7 (fun v s e => by cases e) (fun  _ e  => ?_))
        cases e
        refine b_aload_n (pc := 77) C dX11_rest_77 rfl 0 rfl ?_
        refine b_bipush (pc := 78) C dX11_rest_78 bp_m2 ?_
        obtain ⟨v11, σ10, hc9, hF⟩ := bbd_e hF
        refine b_cV1i (d' := (d + 1)) (pc := 80) C dX11_rest_80 mm_X11_124 (Hh.1 _ _ sh_0) rfl (Nat.le_of_ble_eq_true rfl) (by omega) (Hh.2.2 _ _ _ _ _ _ _ _ _ (lvl_eq (by omega) (e_X11_answered (d + 1) (-2 : Int32) _ _ _ hc9))) ?_
        exact b_iret (pc := 83) C Rt dX11_rest_83 hF
    · rw [if_pos hc6] at hF
      refine b_aload_n (pc := 23) C dX11_rest_23 rfl 0 rfl ?_
      refine b_iconst (pc := 24) C dX11_rest_24 ic_2 ?_
      obtain ⟨v14, σ13, hc12, hF⟩ := bbd_e hF
      refine b_cV1i (d' := (d + 1)) (pc := 25) C dX11_rest_25 mm_X11_75 (Hh.1 _ _ sh_0) rfl (Nat.le_of_ble_eq_true rfl) (by omega) (Hh.2.2 _ _ _ _ _ _ _ _ _ (lvl_eq (by omega) (e_X11_refused (d + 0) (2 : Int32) _ _ _ hc12))) ?_
      exact b_iret (pc := 28) C Rt dX11_rest_28 hF
  · rw [if_pos hc2] at hF
    refine b_aload_n (pc := 10) C dX11_rest_10 rfl 0 rfl ?_
    refine b_iconst (pc := 11) C dX11_rest_11 ic_1 ?_
    obtain ⟨v17, σ16, hc15, hF⟩ := bbd_e hF
    refine b_cV1i (d' := (d + 1)) (pc := 12) C dX11_rest_12 mm_X11_75 (Hh.1 _ _ sh_0) rfl (Nat.le_of_ble_eq_true rfl) (by omega) (Hh.2.2 _ _ _ _ _ _ _ _ _ (lvl_eq (by omega) (e_X11_refused (d + 0) (1 : Int32) _ _ _ hc15))) ?_
    exact b_iret (pc := 15) C Rt dX11_rest_15 hF
set_option maxHeartbeats 4000000 in
set_option maxRecDepth 20000 in
theorem e_X11_rest {l : Launch} {G : bG} {ρ : Nat → Nat} {A : Nat → Prop} (d : Nat) (x1 : Int32) (σ : bSto) (r : Int32) (σ' : bSto) (hF : f_X11_rest x1 σ = some (r, σ')) : bEv l G bSHf ρ A yX11_rest cX11_rest 4 (some .int) (d + 2) [.ref 0, .int x1] σ (some (.int r)) σ' := b_met (d := d + 2) (by decide +kernel) (Nat.le_of_ble_eq_true rfl) rfl (fun X C Rt h1 h2 h3 => e_X11_rest_0 C ⟨fun o q h => by rw [h1]; exact h, fun i h => by rw [h2]; exact h, h3⟩ Rt _ _ hF)
/-! BenchColony.areYears -/
def f_X11_areYears_J25  (σ : bSto) : Option (Int32 × bSto) := some ((0 : Int32), σ)
def f_X11_areYears (x0 : Int32) (x1 : Int32) (σ : bSto) : Option (Int32 × bSto) := (if x0 < 0 then f_X11_areYears_J25  σ else (if (65537 : Int32) ≤ x0 then f_X11_areYears_J25  σ else (if x1 < 0 then f_X11_areYears_J25  σ else (if (90 : Int32) < x1 then f_X11_areYears_J25  σ else some ((1 : Int32), σ)))))
set_option maxHeartbeats 4000000 in
set_option maxRecDepth 20000 in
theorem e_X11_areYears_J25 {X : bX} {l : Launch} {G : bG} {ρ : Nat → Nat} {A : Nat → Prop} {d : Nat} {r : Int32} {σ' : bSto} (C : bCX X cX11_areYears RX11 (d + 0)) (Hh : bH X l G bSHf ρ A 2) (Rt : bRX X (some .boolean) (some (.int r)) σ')  (σ : bSto) (hF : f_X11_areYears_J25  σ = some (r, σ')) : bAJ X 25 [] [] σ := by
  rw [f_X11_areYears_J25] at hF
  refine b_iconst (pc := 25) C dX11_areYears_25 ic_0 ?_
  exact b_zret (pc := 26) C Rt dX11_areYears_26 rfl hF
set_option maxHeartbeats 4000000 in
set_option maxRecDepth 20000 in
theorem e_X11_areYears_0 {X : bX} {l : Launch} {G : bG} {ρ : Nat → Nat} {A : Nat → Prop} {d : Nat} {r : Int32} {σ' : bSto} (C : bCX X cX11_areYears RX11 (d + 0)) (Hh : bH X l G bSHf ρ A 2) (Rt : bRX X (some .boolean) (some (.int r)) σ') (x0 : Int32) (x1 : Int32) (σ : bSto) (hF : f_X11_areYears x0 x1 σ = some (r, σ')) : bAJ X 0 [(0, .int x0), (1, .int x1)] [] σ := by
  rw [f_X11_areYears] at hF
  refine b_iload_n (pc := 0) C dX11_areYears_0 rfl 0 rfl ?_
  refine b_if_lt (tgt := 25) (pc := 1) C dX11_areYears_1 rfl (fun hc1 => ?_) (fun hc1 => ?_)
  · rw [if_pos hc1] at hF
    exact b_sub [] rfl (e_X11_areYears_J25 C Hh Rt  _ hF)
  · rw [if_neg hc1] at hF
    refine b_iload_n (pc := 4) C dX11_areYears_4 rfl 0 rfl ?_
    refine b_ldcw (pc := 5) C dX11_areYears_5 ww_X11_406 ?_
    refine b_icmp_ge (tgt := 25) (pc := 8) C dX11_areYears_8 rfl (fun hc2 => ?_) (fun hc2 => ?_)
    · rw [if_pos hc2] at hF
      exact b_sub [] rfl (e_X11_areYears_J25 C Hh Rt  _ hF)
    · rw [if_neg hc2] at hF
      refine b_iload_n (pc := 11) C dX11_areYears_11 rfl 1 rfl ?_
      refine b_if_lt (tgt := 25) (pc := 12) C dX11_areYears_12 rfl (fun hc3 => ?_) (fun hc3 => ?_)
      · rw [if_pos hc3] at hF
        exact b_sub [] rfl (e_X11_areYears_J25 C Hh Rt  _ hF)
      · rw [if_neg hc3] at hF
        refine b_iload_n (pc := 15) C dX11_areYears_15 rfl 1 rfl ?_
        refine b_bipush (pc := 16) C dX11_areYears_16 bp_90 ?_
        refine b_icmp_gt (tgt := 25) (pc := 18) C dX11_areYears_18 rfl (fun hc4 => ?_) (fun hc4 => ?_)
        · rw [if_pos hc4] at hF
          exact b_sub [] rfl (e_X11_areYears_J25 C Hh Rt  _ hF)
        · rw [if_neg hc4] at hF
          refine b_iconst (pc := 21) C dX11_areYears_21 ic_1 ?_
          refine b_goto (tgt := 26) (pc := 22) C dX11_areYears_22 rfl ?_
          exact b_zret (pc := 26) C Rt dX11_areYears_26 rfl hF
set_option maxHeartbeats 4000000 in
set_option maxRecDepth 20000 in
theorem e_X11_areYears {l : Launch} {G : bG} {ρ : Nat → Nat} {A : Nat → Prop} (d : Nat) (x0 : Int32) (x1 : Int32) (σ : bSto) (r : Int32) (σ' : bSto) (hF : f_X11_areYears x0 x1 σ = some (r, σ')) : bEv l G bSHf ρ A yX11_areYears cX11_areYears 2 (some .boolean) (d + 0) [.int x0, .int x1] σ (some (.int r)) σ' := b_met (d := d + 0) (by decide +kernel) (Nat.le_of_ble_eq_true rfl) rfl (fun X C Rt h1 h2 h3 => e_X11_areYears_0 C ⟨fun o q h => by rw [h1]; exact h, fun i h => by rw [h2]; exact h, h3⟩ Rt _ _ _ hF)
/-! BenchColony.nextDraw -/
def f_X11_nextDraw (x0 : Int32) (σ : bSto) : Option (Int32 × bSto) := some (((((75 : Int32) * x0) + (74 : Int32)) - (((75 : Int32) * x0) + (74 : Int32)) / (65537 : Int32) * (65537 : Int32)), σ)
set_option maxHeartbeats 4000000 in
set_option maxRecDepth 20000 in
theorem e_X11_nextDraw_0 {X : bX} {l : Launch} {G : bG} {ρ : Nat → Nat} {A : Nat → Prop} {d : Nat} {r : Int32} {σ' : bSto} (C : bCX X cX11_nextDraw RX11 (d + 0)) (Hh : bH X l G bSHf ρ A 1) (Rt : bRX X (some .int) (some (.int r)) σ') (x0 : Int32) (σ : bSto) (hF : f_X11_nextDraw x0 σ = some (r, σ')) : bAJ X 0 [(0, .int x0)] [] σ := by
  rw [f_X11_nextDraw] at hF
  refine b_bipush (pc := 0) C dX11_nextDraw_0 bp_75 ?_
  refine b_iload_n (pc := 2) C dX11_nextDraw_2 rfl 0 rfl ?_
  refine b_imul (pc := 3) C dX11_nextDraw_3 ?_
  refine b_bipush (pc := 4) C dX11_nextDraw_4 bp_74 ?_
  refine b_iadd (pc := 6) C dX11_nextDraw_6 ?_
  refine b_ldcw (pc := 7) C dX11_nextDraw_7 ww_X11_406 ?_
  refine b_irem (pc := 10) C dX11_nextDraw_10 (by decide) ?_
  exact b_iret (pc := 11) C Rt dX11_nextDraw_11 hF
set_option maxHeartbeats 4000000 in
set_option maxRecDepth 20000 in
theorem e_X11_nextDraw {l : Launch} {G : bG} {ρ : Nat → Nat} {A : Nat → Prop} (d : Nat) (x0 : Int32) (σ : bSto) (r : Int32) (σ' : bSto) (hF : f_X11_nextDraw x0 σ = some (r, σ')) : bEv l G bSHf ρ A yX11_nextDraw cX11_nextDraw 1 (some .int) (d + 0) [.int x0] σ (some (.int r)) σ' := b_met (d := d + 0) (by decide +kernel) (Nat.le_of_ble_eq_true rfl) rfl (fun X C Rt h1 h2 h3 => e_X11_nextDraw_0 C ⟨fun o q h => by rw [h1]; exact h, fun i h => by rw [h2]; exact h, h3⟩ Rt _ _ hF)
/-! BenchColony.liveYears -/
def f_X11_liveYears_L20 : Nat → Int32 → Int32 → Int32 → Int32 → Int32 → bSto → Option (Int32 × bSto)
  | 0, _, _, _, _, _, _ => none
  | n + 1, x1, x3, x4, x5, x6, σ => (if x3 ≤ x6 then some (x5, σ) else bbd (f_X11_nextDraw x4 σ) (fun v4 σ3 => bbd (f_X11_nextDraw v4 σ3) (fun v7 σ6 => if kR (σ6.2.2 0 7) then bbv (f_X7_reseat (σ6.2.2 0 7) 33 v4 v7 σ6) (fun σ10 => if kR (σ10.2.2 0 7) then if kR (σ10.2.2 0 7) then bbd (f_X7_isContent (σ10.2.2 0 7) 33 x1 (σ10.1 ((σ10.2.2 0 7) + 1) 10) σ10) (fun v15 σ14 => (if v15 = 0 then blet (x6 + (1 : Int32)) (fun x6_17 => f_X11_liveYears_L20 n x1 x3 v7 x5 x6_17 σ14) else blet (x5 + (1 : Int32)) (fun x5_19 => blet (x6 + (1 : Int32)) (fun x6_21 => f_X11_liveYears_L20 n x1 x3 v7 x5_19 x6_21 σ14)))) else none else none) else none)))
def f_X11_liveYears (x1 : Int32) (x2 : Int32) (x3 : Int32) (σ : bSto) : Option (Int32 × bSto) := bbv (f_X4_copyFrom 33 30 σ) (fun σ2 => bl1 (f_X11_liveYears_L20 bFU x1 x3 x2 (0 : Int32) (0 : Int32) σ2) (fun x5_3 σ4 => some (x5_3, σ4)))
set_option maxHeartbeats 4000000 in
set_option maxRecDepth 20000 in
theorem e_X11_liveYears_L20 {X : bX} {l : Launch} {G : bG} {ρ : Nat → Nat} {A : Nat → Prop} {d : Nat} {r : Int32} {σ' : bSto} (C : bCX X cX11_liveYears RX11 (d + 3)) (Hh : bH X l G bSHf ρ A 8) (Rt : bRX X (some .int) (some (.int r)) σ') : ∀ (n : Nat) (x1 : Int32) (x3 : Int32) (x4 : Int32) (x5 : Int32) (x6 : Int32) (σ : bSto) (q : (Int32 × bSto)), f_X11_liveYears_L20 n x1 x3 x4 x5 x6 σ = some q → (∀ (x5 : Int32) (s : bSto), q = (x5, s) → bAJ X 89 [(5, .int x5)] [] s) → bAJ X 20 [(0, .ref 0), (1, .int x1), (3, .int x3), (4, .int x4), (5, .int x5), (6, .int x6)] [] σ := by
  intro n
  induction n with
  | zero => intro x1 x3 x4 x5 x6 σ q hF; rw [f_X11_liveYears_L20] at hF; cases hF
  | succ n ih =>
    intro x1 x3 x4 x5 x6 σ q hF hx
    rw [f_X11_liveYears_L20] at hF
    refine b_iload (pc := 20) C dX11_liveYears_20 5 rfl ?_
    refine b_iload_n (pc := 22) C dX11_liveYears_22 rfl 2 rfl ?_
    refine b_icmp_ge (tgt := 89) (pc := 23) C dX11_liveYears_23 rfl (fun hc1 => ?_) (fun hc1 => ?_)
    · rw [if_pos hc1] at hF
      exact b_sub [4] rfl (hx _ _ (Option.some.inj hF).symm )
    · rw [if_neg hc1] at hF
      refine b_iload (pc := 26) C dX11_liveYears_26 3 rfl ?_
      obtain ⟨v4, σ3, hc2, hF⟩ := bbd_e hF
      refine b_cS1i (d' := (d + 2)) (pc := 28) C dX11_liveYears_28 mm_X11_399 (Nat.le_of_ble_eq_true rfl) (by omega) (Hh.2.2 _ _ _ _ _ _ _ _ _ (lvl_eq (by omega) (e_X11_nextDraw (d + 2) x4 _ _ _ hc2))) ?_
      refine b_istore (L' := [(7, .int v4), (0, .ref 0), (1, .int x1), (3, .int x3), (4, .int x4), (5, .int x5), (6, .int x6)]) (pc := 31) C dX11_liveYears_31 rfl (Hh.2.1 _ (Nat.le_of_ble_eq_true rfl)) rfl ?_
      refine b_iload (pc := 33) C dX11_liveYears_33 0 rfl ?_
      obtain ⟨v7, σ6, hc5, hF⟩ := bbd_e hF
      refine b_cS1i (d' := (d + 2)) (pc := 35) C dX11_liveYears_35 mm_X11_399 (Nat.le_of_ble_eq_true rfl) (by omega) (Hh.2.2 _ _ _ _ _ _ _ _ _ (lvl_eq (by omega) (e_X11_nextDraw (d + 2) v4 _ _ _ hc5))) ?_
      refine b_istore (L' := [(4, .int v7), (7, .int v4), (0, .ref 0), (1, .int x1), (3, .int x3), (5, .int x5), (6, .int x6)]) (pc := 38) C dX11_liveYears_38 rfl (Hh.2.1 _ (Nat.le_of_ble_eq_true rfl)) rfl ?_
      refine b_aload_n (pc := 40) C dX11_liveYears_40 rfl 2 rfl ?_
      obtain ⟨hk8, hF⟩ := bif_y hF
      refine b_getR (pc := 41) C dX11_liveYears_41 fl_X11_57 (Hh.1 _ _ sh_0) rfl ?_
      refine b_aload_n (pc := 44) C dX11_liveYears_44 rfl 2 rfl ?_
      refine b_getS (pc := 45) C dX11_liveYears_45 fl_X11_23 (Hh.1 _ _ sh_0) rfl ?_
      refine b_iload (pc := 48) C dX11_liveYears_48 1 rfl ?_
      refine b_iload (pc := 50) C dX11_liveYears_50 0 rfl ?_
      obtain ⟨σ10, hc9, hF⟩ := bbv_e hF
      refine b_cV3v (d' := (d + 2)) (pc := 52) C dX11_liveYears_52 mm_X11_402 (Hh.1 _ _ (shR hk8)) rfl (Nat.le_of_ble_eq_true rfl) (by omega) (Hh.2.2 _ _ _ _ _ _ _ _ _ (lvl_eq (by omega) (e_X7_reseat (d + 0) _ hk8 _ (by decide) v4 v7 _ _ hc9))) ?_
      refine b_aload_n (pc := 55) C dX11_liveYears_55 rfl 2 rfl ?_
      obtain ⟨hk11, hF⟩ := bif_y hF
      refine b_getR (pc := 56) C dX11_liveYears_56 fl_X11_57 (Hh.1 _ _ sh_0) rfl ?_
      refine b_aload_n (pc := 59) C dX11_liveYears_59 rfl 2 rfl ?_
      refine b_getS (pc := 60) C dX11_liveYears_60 fl_X11_23 (Hh.1 _ _ sh_0) rfl ?_
      refine b_iload_n (pc := 63) C dX11_liveYears_63 rfl 3 rfl ?_
      refine b_aload_n (pc := 64) C dX11_liveYears_64 rfl 2 rfl ?_
      obtain ⟨hk12, hF⟩ := bif_y hF
      refine b_getR (pc := 65) C dX11_liveYears_65 fl_X11_57 (Hh.1 _ _ sh_0) rfl ?_
      refine b_getS (pc := 68) C dX11_liveYears_68 fl_X11_115 (Hh.1 _ _ (shR hk12)) rfl ?_
      refine b_getI (pc := 71) C dX11_liveYears_71 fl_X11_149 (Hh.1 _ _ (shH (kk_7_0 hk12))) rfl ?_
      obtain ⟨v15, σ14, hc13, hF⟩ := bbd_e hF
      refine b_cV3i (d' := (d + 2)) (pc := 74) C dX11_liveYears_74 mm_X11_182 (Hh.1 _ _ (shR hk11)) rfl (Nat.le_of_ble_eq_true rfl) (by omega) (Hh.2.2 _ _ _ _ _ _ _ _ _ (lvl_eq (by omega) (e_X7_isContent (d + 0) _ hk11 _ (by decide) x1 (σ10.1 ((σ10.2.2 0 7) + 1) 10) _ _ _ hc13))) ?_
      refine b_if_eq (tgt := 83) (pc := 77) C dX11_liveYears_77 rfl (fun hc16 => ?_) (fun hc16 => ?_)
      · rw [if_pos hc16] at hF
        obtain ⟨x6_17, e18, hF⟩ := blet_e hF
        refine b_iinc (L' := [(6, .int x6_17), (4, .int v7), (7, .int v4), (0, .ref 0), (1, .int x1), (3, .int x3), (5, .int x5)]) (pc := 83) C dX11_liveYears_83 6 rfl ic_1 e18 (Hh.2.1 _ (Nat.le_of_ble_eq_true rfl)) rfl ?_
        refine b_goto (tgt := 20) (pc := 86) C dX11_liveYears_86 rfl ?_
        exact b_sub [3, 4, 5, 1, 6, 0] rfl (ih x1 x3 v7 x5 x6_17 _ _ hF hx)
      · rw [if_neg hc16] at hF
        obtain ⟨x5_19, e20, hF⟩ := blet_e hF
        refine b_iinc (L' := [(5, .int x5_19), (4, .int v7), (7, .int v4), (0, .ref 0), (1, .int x1), (3, .int x3), (6, .int x6)]) (pc := 80) C dX11_liveYears_80 5 rfl ic_1 e20 (Hh.2.1 _ (Nat.le_of_ble_eq_true rfl)) rfl ?_
        obtain ⟨x6_21, e22, hF⟩ := blet_e hF
        refine b_iinc (L' := [(6, .int x6_21), (5, .int x5_19), (4, .int v7), (7, .int v4), (0, .ref 0), (1, .int x1), (3, .int x3)]) (pc := 83) C dX11_liveYears_83 6 rfl ic_1 e22 (Hh.2.1 _ (Nat.le_of_ble_eq_true rfl)) rfl ?_
        refine b_goto (tgt := 20) (pc := 86) C dX11_liveYears_86 rfl ?_
        exact b_sub [4, 5, 6, 2, 1, 0] rfl (ih x1 x3 v7 x5_19 x6_21 _ _ hF hx)
set_option maxHeartbeats 4000000 in
set_option maxRecDepth 20000 in
theorem e_X11_liveYears_0 {X : bX} {l : Launch} {G : bG} {ρ : Nat → Nat} {A : Nat → Prop} {d : Nat} {r : Int32} {σ' : bSto} (C : bCX X cX11_liveYears RX11 (d + 3)) (Hh : bH X l G bSHf ρ A 8) (Rt : bRX X (some .int) (some (.int r)) σ') (x1 : Int32) (x2 : Int32) (x3 : Int32) (σ : bSto) (hF : f_X11_liveYears x1 x2 x3 σ = some (r, σ')) : bAJ X 0 [(0, .ref 0), (1, .int x1), (2, .int x2), (3, .int x3)] [] σ := by
  rw [f_X11_liveYears] at hF
  refine b_aload_n (pc := 0) C dX11_liveYears_0 rfl 0 rfl ?_
  refine b_getS (pc := 1) C dX11_liveYears_1 fl_X11_23 (Hh.1 _ _ sh_0) rfl ?_
  refine b_aload_n (pc := 4) C dX11_liveYears_4 rfl 0 rfl ?_
  refine b_getS (pc := 5) C dX11_liveYears_5 fl_X11_19 (Hh.1 _ _ sh_0) rfl ?_
  obtain ⟨σ2, hc1, hF⟩ := bbv_e hF
  refine b_cV1v (d' := (d + 2)) (pc := 8) C dX11_liveYears_8 mm_X11_108 (Hh.1 _ _ sh_33) rfl (Nat.le_of_ble_eq_true rfl) (by omega) (Hh.2.2 _ _ _ _ _ _ _ _ _ (lvl_eq (by omega) (e_X4_copyFrom (d + 2) _ (by decide) _ (by decide) _ _ hc1))) ?_
  refine b_iload_n (pc := 11) C dX11_liveYears_11 rfl 2 rfl ?_
  refine b_istore (L' := [(4, .int x2), (0, .ref 0), (1, .int x1), (2, .int x2), (3, .int x3)]) (pc := 12) C dX11_liveYears_12 rfl (Hh.2.1 _ (Nat.le_of_ble_eq_true rfl)) rfl ?_
  refine b_iconst (pc := 14) C dX11_liveYears_14 ic_0 ?_
  refine b_istore (L' := [(5, .int (0 : Int32)), (4, .int x2), (0, .ref 0), (1, .int x1), (2, .int x2), (3, .int x3)]) (pc := 15) C dX11_liveYears_15 rfl (Hh.2.1 _ (Nat.le_of_ble_eq_true rfl)) rfl ?_
  refine b_iconst (pc := 17) C dX11_liveYears_17 ic_0 ?_
  refine b_istore (L' := [(6, .int (0 : Int32)), (5, .int (0 : Int32)), (4, .int x2), (0, .ref 0), (1, .int x1), (2, .int x2), (3, .int x3)]) (pc := 18) C dX11_liveYears_18 rfl (Hh.2.1 _ (Nat.le_of_ble_eq_true rfl)) rfl ?_
  obtain ⟨x5_3, σ4, hq3, hF⟩ := bl1_e hF
  refine b_sub [3, 4, 6, 2, 1, 0] rfl (e_X11_liveYears_L20 C Hh Rt bFU x1 x3 x2 (0 : Int32) (0 : Int32) _ _ hq3 (fun _ _ e  => ?_))
  cases e
  refine b_iload (pc := 89) C dX11_liveYears_89 0 rfl ?_
  exact b_iret (pc := 91) C Rt dX11_liveYears_91 hF
set_option maxHeartbeats 4000000 in
set_option maxRecDepth 20000 in
theorem e_X11_liveYears {l : Launch} {G : bG} {ρ : Nat → Nat} {A : Nat → Prop} (d : Nat) (x1 : Int32) (x2 : Int32) (x3 : Int32) (σ : bSto) (r : Int32) (σ' : bSto) (hF : f_X11_liveYears x1 x2 x3 σ = some (r, σ')) : bEv l G bSHf ρ A yX11_liveYears cX11_liveYears 8 (some .int) (d + 3) [.ref 0, .int x1, .int x2, .int x3] σ (some (.int r)) σ' := b_met (d := d + 3) (by decide +kernel) (Nat.le_of_ble_eq_true rfl) rfl (fun X C Rt h1 h2 h3 => e_X11_liveYears_0 C ⟨fun o q h => by rw [h1]; exact h, fun i h => by rw [h2]; exact h, h3⟩ Rt _ _ _ _ hF)
/-! BenchColony.years -/
def f_X11_years (x1 : Int32) (x2 : Int32) (σ : bSto) : Option (Int32 × bSto) := if kR (σ.2.2 0 7) then bbd (f_X2_has ((σ.2.2 0 7) + 7) (0 : Int32) σ) (fun v4 σ3 => (if v4 = 0 then bbd (f_X11_refused (1 : Int32) σ3) (fun v29 σ28 => some (v29, σ28)) else bbd (f_X11_areYears x1 x2 σ3) (fun v8 σ7 => (if v8 = 0 then bbd (f_X11_refused (2 : Int32) σ7) (fun v26 σ25 => some (v26, σ25)) else bbd (f_X11_liveYears (0 : Int32) x1 x2 σ7) (fun v12 σ11 => if kR (σ11.2.2 0 7) then if kR (σ11.2.2 0 7) then bbd (f_X7_contentBits (σ11.2.2 0 7) 33 (σ11.1 ((σ11.2.2 0 7) + 1) 10) σ11) (fun v17 σ16 => bbd (f_J6_bitCount_0f7a4 v17 σ16) (fun v20 σ19 => bbd (f_X11_answered v20 σ19) (fun v23 σ22 => some (v23, σ22)))) else none else none))))) else none
set_option maxHeartbeats 4000000 in
set_option maxRecDepth 20000 in
theorem e_X11_years_0 {X : bX} {l : Launch} {G : bG} {ρ : Nat → Nat} {A : Nat → Prop} {d : Nat} {r : Int32} {σ' : bSto} (C : bCX X cX11_years RX11 (d + 4)) (Hh : bH X l G bSHf ρ A 3) (Rt : bRX X (some .int) (some (.int r)) σ') (x1 : Int32) (x2 : Int32) (σ : bSto) (hF : f_X11_years x1 x2 σ = some (r, σ')) : bAJ X 0 [(0, .ref 0), (1, .int x1), (2, .int x2)] [] σ := by
  rw [f_X11_years] at hF
  refine b_aload_n (pc := 0) C dX11_years_0 rfl 0 rfl ?_
  obtain ⟨hk1, hF⟩ := bif_y hF
  refine b_getR (pc := 1) C dX11_years_1 fl_X11_57 (Hh.1 _ _ sh_0) rfl ?_
  refine b_getS (pc := 4) C dX11_years_4 fl_X11_163 (Hh.1 _ _ (shR hk1)) rfl ?_
  refine b_iconst (pc := 7) C dX11_years_7 ic_0 ?_
  obtain ⟨v4, σ3, hc2, hF⟩ := bbd_e hF
  refine b_cV1i (d' := (d + 3)) (pc := 8) C dX11_years_8 mm_X11_167 (Hh.1 _ _ (shF (kk_7_1 hk1))) rfl (Nat.le_of_ble_eq_true rfl) (by omega) (Hh.2.2 _ _ _ _ _ _ _ _ _ (lvl_eq (by omega) (e_X2_has (d + 3) _ (kk_7_1 hk1) (0 : Int32) _ _ _ hc2))) ?_
  refine b_if_ne (tgt := 20) (pc := 11) C dX11_years_11 rfl (fun hc5 => ?_) (fun hc5 => ?_)
  · rw [if_neg hc5] at hF
    refine b_iload_n (pc := 20) C dX11_years_20 rfl 1 rfl ?_
    refine b_iload_n (pc := 21) C dX11_years_21 rfl 2 rfl ?_
    obtain ⟨v8, σ7, hc6, hF⟩ := bbd_e hF
    refine b_cS2i (d' := (d + 3)) (pc := 22) C dX11_years_22 mm_X11_320 (Nat.le_of_ble_eq_true rfl) (by omega) (Hh.2.2 _ _ _ _ _ _ _ _ _ (lvl_eq (by omega) (e_X11_areYears (d + 3) x1 x2 _ _ _ hc6))) ?_
    refine b_if_ne (tgt := 34) (pc := 25) C dX11_years_25 rfl (fun hc9 => ?_) (fun hc9 => ?_)
    · rw [if_neg hc9] at hF
      refine b_aload_n (pc := 34) C dX11_years_34 rfl 0 rfl ?_
      refine b_iconst (pc := 35) C dX11_years_35 ic_0 ?_
      refine b_iload_n (pc := 36) C dX11_years_36 rfl 1 rfl ?_
      refine b_iload_n (pc := 37) C dX11_years_37 rfl 2 rfl ?_
      obtain ⟨v12, σ11, hc10, hF⟩ := bbd_e hF
      refine b_cV3i (d' := (d + 3)) (pc := 38) C dX11_years_38 mm_X11_323 (Hh.1 _ _ sh_0) rfl (Nat.le_of_ble_eq_true rfl) (by omega) (Hh.2.2 _ _ _ _ _ _ _ _ _ (lvl_eq (by omega) (e_X11_liveYears (d + 0) (0 : Int32) x1 x2 _ _ _ hc10))) ?_
      refine b_pop (pc := 41) C dX11_years_41 rfl ?_
      refine b_aload_n (pc := 42) C dX11_years_42 rfl 0 rfl ?_
      refine b_aload_n (pc := 43) C dX11_years_43 rfl 0 rfl ?_
      obtain ⟨hk13, hF⟩ := bif_y hF
      refine b_getR (pc := 44) C dX11_years_44 fl_X11_57 (Hh.1 _ _ sh_0) rfl ?_
      refine b_aload_n (pc := 47) C dX11_years_47 rfl 0 rfl ?_
      refine b_getS (pc := 48) C dX11_years_48 fl_X11_23 (Hh.1 _ _ sh_0) rfl ?_
      refine b_aload_n (pc := 51) C dX11_years_51 rfl 0 rfl ?_
      obtain ⟨hk14, hF⟩ := bif_y hF
      refine b_getR (pc := 52) C dX11_years_52 fl_X11_57 (Hh.1 _ _ sh_0) rfl ?_
      refine b_getS (pc := 55) C dX11_years_55 fl_X11_115 (Hh.1 _ _ (shR hk14)) rfl ?_
      refine b_getI (pc := 58) C dX11_years_58 fl_X11_149 (Hh.1 _ _ (shH (kk_7_0 hk14))) rfl ?_
      obtain ⟨v17, σ16, hc15, hF⟩ := bbd_e hF
      refine b_cV2i (d' := (d + 3)) (pc := 61) C dX11_years_61 mm_X11_200 (Hh.1 _ _ (shR hk13)) rfl (Nat.le_of_ble_eq_true rfl) (by omega) (Hh.2.2 _ _ _ _ _ _ _ _ _ (lvl_eq (by omega) (e_X7_contentBits (d + 0) _ hk13 _ (by decide) (σ11.1 ((σ11.2.2 0 7) + 1) 10) _ _ _ hc15))) ?_
      obtain ⟨v20, σ19, hc18, hF⟩ := bbd_e hF
      refine b_cS1i (d' := (d + 3)) (pc := 64) C dX11_years_64 mm_X11_326 (Nat.le_of_ble_eq_true rfl) (by omega) (Hh.2.2 _ _ _ _ _ _ _ _ _ (lvl_eq (by omega) (e_J6_bitCount_0f7a4 (d + 3) v17 _ _ _ hc18))) ?_
      obtain ⟨v23, σ22, hc21, hF⟩ := bbd_e hF
      refine b_cV1i (d' := (d + 3)) (pc := 67) C dX11_years_67 mm_X11_124 (Hh.1 _ _ sh_0) rfl (Nat.le_of_ble_eq_true rfl) (by omega) (Hh.2.2 _ _ _ _ _ _ _ _ _ (lvl_eq (by omega) (e_X11_answered (d + 3) v20 _ _ _ hc21))) ?_
      exact b_iret (pc := 70) C Rt dX11_years_70 hF
    · rw [if_pos hc9] at hF
      refine b_aload_n (pc := 28) C dX11_years_28 rfl 0 rfl ?_
      refine b_iconst (pc := 29) C dX11_years_29 ic_2 ?_
      obtain ⟨v26, σ25, hc24, hF⟩ := bbd_e hF
      refine b_cV1i (d' := (d + 3)) (pc := 30) C dX11_years_30 mm_X11_75 (Hh.1 _ _ sh_0) rfl (Nat.le_of_ble_eq_true rfl) (by omega) (Hh.2.2 _ _ _ _ _ _ _ _ _ (lvl_eq (by omega) (e_X11_refused (d + 2) (2 : Int32) _ _ _ hc24))) ?_
      exact b_iret (pc := 33) C Rt dX11_years_33 hF
  · rw [if_pos hc5] at hF
    refine b_aload_n (pc := 14) C dX11_years_14 rfl 0 rfl ?_
    refine b_iconst (pc := 15) C dX11_years_15 ic_1 ?_
    obtain ⟨v29, σ28, hc27, hF⟩ := bbd_e hF
    refine b_cV1i (d' := (d + 3)) (pc := 16) C dX11_years_16 mm_X11_75 (Hh.1 _ _ sh_0) rfl (Nat.le_of_ble_eq_true rfl) (by omega) (Hh.2.2 _ _ _ _ _ _ _ _ _ (lvl_eq (by omega) (e_X11_refused (d + 2) (1 : Int32) _ _ _ hc27))) ?_
    exact b_iret (pc := 19) C Rt dX11_years_19 hF
set_option maxHeartbeats 4000000 in
set_option maxRecDepth 20000 in
theorem e_X11_years {l : Launch} {G : bG} {ρ : Nat → Nat} {A : Nat → Prop} (d : Nat) (x1 : Int32) (x2 : Int32) (σ : bSto) (r : Int32) (σ' : bSto) (hF : f_X11_years x1 x2 σ = some (r, σ')) : bEv l G bSHf ρ A yX11_years cX11_years 3 (some .int) (d + 4) [.ref 0, .int x1, .int x2] σ (some (.int r)) σ' := b_met (d := d + 4) (by decide +kernel) (Nat.le_of_ble_eq_true rfl) rfl (fun X C Rt h1 h2 h3 => e_X11_years_0 C ⟨fun o q h => by rw [h1]; exact h, fun i h => by rw [h2]; exact h, h3⟩ Rt _ _ _ hF)
/-! BenchColony.yearsAt -/
def f_X11_yearsAt (x1 : Int32) (x2 : Int32) (x3 : Int32) (σ : bSto) : Option (Int32 × bSto) := if kR (σ.2.2 0 7) then bbd (f_X2_has ((σ.2.2 0 7) + 7) x1 σ) (fun v4 σ3 => (if v4 = 0 then bbd (f_X11_refused (1 : Int32) σ3) (fun v22 σ21 => some (v22, σ21)) else bbd (f_X11_areYears x2 x3 σ3) (fun v8 σ7 => (if v8 = 0 then bbd (f_X11_refused (2 : Int32) σ7) (fun v19 σ18 => some (v19, σ18)) else bbd (f_X11_liveYears x1 x2 x3 σ7) (fun v12 σ11 => if x1 < 0 ∨ 7 ≤ x1.toNatClampNeg then none else bbd (f_X11_answered (σ11.1 34 x1.toNatClampNeg) σ11) (fun v16 σ15 => some (v16, σ15))))))) else none
set_option maxHeartbeats 4000000 in
set_option maxRecDepth 20000 in
theorem e_X11_yearsAt_0 {X : bX} {l : Launch} {G : bG} {ρ : Nat → Nat} {A : Nat → Prop} {d : Nat} {r : Int32} {σ' : bSto} (C : bCX X cX11_yearsAt RX11 (d + 4)) (Hh : bH X l G bSHf ρ A 4) (Rt : bRX X (some .int) (some (.int r)) σ') (x1 : Int32) (x2 : Int32) (x3 : Int32) (σ : bSto) (hF : f_X11_yearsAt x1 x2 x3 σ = some (r, σ')) : bAJ X 0 [(0, .ref 0), (1, .int x1), (2, .int x2), (3, .int x3)] [] σ := by
  rw [f_X11_yearsAt] at hF
  refine b_aload_n (pc := 0) C dX11_yearsAt_0 rfl 0 rfl ?_
  obtain ⟨hk1, hF⟩ := bif_y hF
  refine b_getR (pc := 1) C dX11_yearsAt_1 fl_X11_57 (Hh.1 _ _ sh_0) rfl ?_
  refine b_getS (pc := 4) C dX11_yearsAt_4 fl_X11_163 (Hh.1 _ _ (shR hk1)) rfl ?_
  refine b_iload_n (pc := 7) C dX11_yearsAt_7 rfl 1 rfl ?_
  obtain ⟨v4, σ3, hc2, hF⟩ := bbd_e hF
  refine b_cV1i (d' := (d + 3)) (pc := 8) C dX11_yearsAt_8 mm_X11_167 (Hh.1 _ _ (shF (kk_7_1 hk1))) rfl (Nat.le_of_ble_eq_true rfl) (by omega) (Hh.2.2 _ _ _ _ _ _ _ _ _ (lvl_eq (by omega) (e_X2_has (d + 3) _ (kk_7_1 hk1) x1 _ _ _ hc2))) ?_
  refine b_if_ne (tgt := 20) (pc := 11) C dX11_yearsAt_11 rfl (fun hc5 => ?_) (fun hc5 => ?_)
  · rw [if_neg hc5] at hF
    refine b_iload_n (pc := 20) C dX11_yearsAt_20 rfl 2 rfl ?_
    refine b_iload_n (pc := 21) C dX11_yearsAt_21 rfl 3 rfl ?_
    obtain ⟨v8, σ7, hc6, hF⟩ := bbd_e hF
    refine b_cS2i (d' := (d + 3)) (pc := 22) C dX11_yearsAt_22 mm_X11_320 (Nat.le_of_ble_eq_true rfl) (by omega) (Hh.2.2 _ _ _ _ _ _ _ _ _ (lvl_eq (by omega) (e_X11_areYears (d + 3) x2 x3 _ _ _ hc6))) ?_
    refine b_if_ne (tgt := 34) (pc := 25) C dX11_yearsAt_25 rfl (fun hc9 => ?_) (fun hc9 => ?_)
    · rw [if_neg hc9] at hF
      refine b_aload_n (pc := 34) C dX11_yearsAt_34 rfl 0 rfl ?_
      refine b_iload_n (pc := 35) C dX11_yearsAt_35 rfl 1 rfl ?_
      refine b_iload_n (pc := 36) C dX11_yearsAt_36 rfl 2 rfl ?_
      refine b_iload_n (pc := 37) C dX11_yearsAt_37 rfl 3 rfl ?_
      obtain ⟨v12, σ11, hc10, hF⟩ := bbd_e hF
      refine b_cV3i (d' := (d + 3)) (pc := 38) C dX11_yearsAt_38 mm_X11_323 (Hh.1 _ _ sh_0) rfl (Nat.le_of_ble_eq_true rfl) (by omega) (Hh.2.2 _ _ _ _ _ _ _ _ _ (lvl_eq (by omega) (e_X11_liveYears (d + 0) x1 x2 x3 _ _ _ hc10))) ?_
      refine b_pop (pc := 41) C dX11_yearsAt_41 rfl ?_
      refine b_aload_n (pc := 42) C dX11_yearsAt_42 rfl 0 rfl ?_
      refine b_aload_n (pc := 43) C dX11_yearsAt_43 rfl 0 rfl ?_
      refine b_getS (pc := 44) C dX11_yearsAt_44 fl_X11_23 (Hh.1 _ _ sh_0) rfl ?_
      refine b_getS (pc := 47) C dX11_yearsAt_47 fl_X11_179 (Hh.1 _ _ sh_33) rfl ?_
      refine b_iload_n (pc := 50) C dX11_yearsAt_50 rfl 1 rfl ?_
      obtain ⟨hb13, hF⟩ := bif_n hF
      refine b_iald (pc := 51) C dX11_yearsAt_51 (Hh.1 _ _ sh_34) hb13 ?_
      obtain ⟨v16, σ15, hc14, hF⟩ := bbd_e hF
      refine b_cV1i (d' := (d + 3)) (pc := 52) C dX11_yearsAt_52 mm_X11_124 (Hh.1 _ _ sh_0) rfl (Nat.le_of_ble_eq_true rfl) (by omega) (Hh.2.2 _ _ _ _ _ _ _ _ _ (lvl_eq (by omega) (e_X11_answered (d + 3) (σ11.1 34 x1.toNatClampNeg) _ _ _ hc14))) ?_
      exact b_iret (pc := 55) C Rt dX11_yearsAt_55 hF
    · rw [if_pos hc9] at hF
      refine b_aload_n (pc := 28) C dX11_yearsAt_28 rfl 0 rfl ?_
      refine b_iconst (pc := 29) C dX11_yearsAt_29 ic_2 ?_
      obtain ⟨v19, σ18, hc17, hF⟩ := bbd_e hF
      refine b_cV1i (d' := (d + 3)) (pc := 30) C dX11_yearsAt_30 mm_X11_75 (Hh.1 _ _ sh_0) rfl (Nat.le_of_ble_eq_true rfl) (by omega) (Hh.2.2 _ _ _ _ _ _ _ _ _ (lvl_eq (by omega) (e_X11_refused (d + 2) (2 : Int32) _ _ _ hc17))) ?_
      exact b_iret (pc := 33) C Rt dX11_yearsAt_33 hF
  · rw [if_pos hc5] at hF
    refine b_aload_n (pc := 14) C dX11_yearsAt_14 rfl 0 rfl ?_
    refine b_iconst (pc := 15) C dX11_yearsAt_15 ic_1 ?_
    obtain ⟨v22, σ21, hc20, hF⟩ := bbd_e hF
    refine b_cV1i (d' := (d + 3)) (pc := 16) C dX11_yearsAt_16 mm_X11_75 (Hh.1 _ _ sh_0) rfl (Nat.le_of_ble_eq_true rfl) (by omega) (Hh.2.2 _ _ _ _ _ _ _ _ _ (lvl_eq (by omega) (e_X11_refused (d + 2) (1 : Int32) _ _ _ hc20))) ?_
    exact b_iret (pc := 19) C Rt dX11_yearsAt_19 hF
set_option maxHeartbeats 4000000 in
set_option maxRecDepth 20000 in
theorem e_X11_yearsAt {l : Launch} {G : bG} {ρ : Nat → Nat} {A : Nat → Prop} (d : Nat) (x1 : Int32) (x2 : Int32) (x3 : Int32) (σ : bSto) (r : Int32) (σ' : bSto) (hF : f_X11_yearsAt x1 x2 x3 σ = some (r, σ')) : bEv l G bSHf ρ A yX11_yearsAt cX11_yearsAt 4 (some .int) (d + 4) [.ref 0, .int x1, .int x2, .int x3] σ (some (.int r)) σ' := b_met (d := d + 4) (by decide +kernel) (Nat.le_of_ble_eq_true rfl) rfl (fun X C Rt h1 h2 h3 => e_X11_yearsAt_0 C ⟨fun o q h => by rw [h1]; exact h, fun i h => by rw [h2]; exact h, h3⟩ Rt _ _ _ _ hF)
/-! BenchColony.happy -/
def f_X11_happy (x1 : Int32) (x2 : Int32) (x3 : Int32) (σ : bSto) : Option (Int32 × bSto) := if kR (σ.2.2 0 7) then bbd (f_X2_has ((σ.2.2 0 7) + 7) x1 σ) (fun v4 σ3 => (if v4 = 0 then bbd (f_X11_refused (1 : Int32) σ3) (fun v21 σ20 => some (v21, σ20)) else bbd (f_X11_areYears x2 x3 σ3) (fun v8 σ7 => (if v8 = 0 then bbd (f_X11_refused (2 : Int32) σ7) (fun v18 σ17 => some (v18, σ17)) else bbd (f_X11_liveYears x1 x2 x3 σ7) (fun v12 σ11 => bbd (f_X11_answered v12 σ11) (fun v15 σ14 => some (v15, σ14))))))) else none
set_option maxHeartbeats 4000000 in
set_option maxRecDepth 20000 in
theorem e_X11_happy_0 {X : bX} {l : Launch} {G : bG} {ρ : Nat → Nat} {A : Nat → Prop} {d : Nat} {r : Int32} {σ' : bSto} (C : bCX X cX11_happy RX11 (d + 4)) (Hh : bH X l G bSHf ρ A 4) (Rt : bRX X (some .int) (some (.int r)) σ') (x1 : Int32) (x2 : Int32) (x3 : Int32) (σ : bSto) (hF : f_X11_happy x1 x2 x3 σ = some (r, σ')) : bAJ X 0 [(0, .ref 0), (1, .int x1), (2, .int x2), (3, .int x3)] [] σ := by
  rw [f_X11_happy] at hF
  refine b_aload_n (pc := 0) C dX11_happy_0 rfl 0 rfl ?_
  obtain ⟨hk1, hF⟩ := bif_y hF
  refine b_getR (pc := 1) C dX11_happy_1 fl_X11_57 (Hh.1 _ _ sh_0) rfl ?_
  refine b_getS (pc := 4) C dX11_happy_4 fl_X11_163 (Hh.1 _ _ (shR hk1)) rfl ?_
  refine b_iload_n (pc := 7) C dX11_happy_7 rfl 1 rfl ?_
  obtain ⟨v4, σ3, hc2, hF⟩ := bbd_e hF
  refine b_cV1i (d' := (d + 3)) (pc := 8) C dX11_happy_8 mm_X11_167 (Hh.1 _ _ (shF (kk_7_1 hk1))) rfl (Nat.le_of_ble_eq_true rfl) (by omega) (Hh.2.2 _ _ _ _ _ _ _ _ _ (lvl_eq (by omega) (e_X2_has (d + 3) _ (kk_7_1 hk1) x1 _ _ _ hc2))) ?_
  refine b_if_ne (tgt := 20) (pc := 11) C dX11_happy_11 rfl (fun hc5 => ?_) (fun hc5 => ?_)
  · rw [if_neg hc5] at hF
    refine b_iload_n (pc := 20) C dX11_happy_20 rfl 2 rfl ?_
    refine b_iload_n (pc := 21) C dX11_happy_21 rfl 3 rfl ?_
    obtain ⟨v8, σ7, hc6, hF⟩ := bbd_e hF
    refine b_cS2i (d' := (d + 3)) (pc := 22) C dX11_happy_22 mm_X11_320 (Nat.le_of_ble_eq_true rfl) (by omega) (Hh.2.2 _ _ _ _ _ _ _ _ _ (lvl_eq (by omega) (e_X11_areYears (d + 3) x2 x3 _ _ _ hc6))) ?_
    refine b_if_ne (tgt := 34) (pc := 25) C dX11_happy_25 rfl (fun hc9 => ?_) (fun hc9 => ?_)
    · rw [if_neg hc9] at hF
      refine b_aload_n (pc := 34) C dX11_happy_34 rfl 0 rfl ?_
      refine b_aload_n (pc := 35) C dX11_happy_35 rfl 0 rfl ?_
      refine b_iload_n (pc := 36) C dX11_happy_36 rfl 1 rfl ?_
      refine b_iload_n (pc := 37) C dX11_happy_37 rfl 2 rfl ?_
      refine b_iload_n (pc := 38) C dX11_happy_38 rfl 3 rfl ?_
      obtain ⟨v12, σ11, hc10, hF⟩ := bbd_e hF
      refine b_cV3i (d' := (d + 3)) (pc := 39) C dX11_happy_39 mm_X11_323 (Hh.1 _ _ sh_0) rfl (Nat.le_of_ble_eq_true rfl) (by omega) (Hh.2.2 _ _ _ _ _ _ _ _ _ (lvl_eq (by omega) (e_X11_liveYears (d + 0) x1 x2 x3 _ _ _ hc10))) ?_
      obtain ⟨v15, σ14, hc13, hF⟩ := bbd_e hF
      refine b_cV1i (d' := (d + 3)) (pc := 42) C dX11_happy_42 mm_X11_124 (Hh.1 _ _ sh_0) rfl (Nat.le_of_ble_eq_true rfl) (by omega) (Hh.2.2 _ _ _ _ _ _ _ _ _ (lvl_eq (by omega) (e_X11_answered (d + 3) v12 _ _ _ hc13))) ?_
      exact b_iret (pc := 45) C Rt dX11_happy_45 hF
    · rw [if_pos hc9] at hF
      refine b_aload_n (pc := 28) C dX11_happy_28 rfl 0 rfl ?_
      refine b_iconst (pc := 29) C dX11_happy_29 ic_2 ?_
      obtain ⟨v18, σ17, hc16, hF⟩ := bbd_e hF
      refine b_cV1i (d' := (d + 3)) (pc := 30) C dX11_happy_30 mm_X11_75 (Hh.1 _ _ sh_0) rfl (Nat.le_of_ble_eq_true rfl) (by omega) (Hh.2.2 _ _ _ _ _ _ _ _ _ (lvl_eq (by omega) (e_X11_refused (d + 2) (2 : Int32) _ _ _ hc16))) ?_
      exact b_iret (pc := 33) C Rt dX11_happy_33 hF
  · rw [if_pos hc5] at hF
    refine b_aload_n (pc := 14) C dX11_happy_14 rfl 0 rfl ?_
    refine b_iconst (pc := 15) C dX11_happy_15 ic_1 ?_
    obtain ⟨v21, σ20, hc19, hF⟩ := bbd_e hF
    refine b_cV1i (d' := (d + 3)) (pc := 16) C dX11_happy_16 mm_X11_75 (Hh.1 _ _ sh_0) rfl (Nat.le_of_ble_eq_true rfl) (by omega) (Hh.2.2 _ _ _ _ _ _ _ _ _ (lvl_eq (by omega) (e_X11_refused (d + 2) (1 : Int32) _ _ _ hc19))) ?_
    exact b_iret (pc := 19) C Rt dX11_happy_19 hF
set_option maxHeartbeats 4000000 in
set_option maxRecDepth 20000 in
theorem e_X11_happy {l : Launch} {G : bG} {ρ : Nat → Nat} {A : Nat → Prop} (d : Nat) (x1 : Int32) (x2 : Int32) (x3 : Int32) (σ : bSto) (r : Int32) (σ' : bSto) (hF : f_X11_happy x1 x2 x3 σ = some (r, σ')) : bEv l G bSHf ρ A yX11_happy cX11_happy 4 (some .int) (d + 4) [.ref 0, .int x1, .int x2, .int x3] σ (some (.int r)) σ' := b_met (d := d + 4) (by decide +kernel) (Nat.le_of_ble_eq_true rfl) rfl (fun X C Rt h1 h2 h3 => e_X11_happy_0 C ⟨fun o q h => by rw [h1]; exact h, fun i h => by rw [h2]; exact h, h3⟩ Rt _ _ _ _ hF)
/-! BenchColony.notDone -/
def f_X11_notDone (x1 : Int32) (σ : bSto) : Option (Int32 × bSto) := blet (bI σ 0 8 x1) (fun σ1 => some ((0 : Int32), σ1))
set_option maxHeartbeats 4000000 in
set_option maxRecDepth 20000 in
theorem e_X11_notDone_0 {X : bX} {l : Launch} {G : bG} {ρ : Nat → Nat} {A : Nat → Prop} {d : Nat} {r : Int32} {σ' : bSto} (C : bCX X cX11_notDone RX11 (d + 0)) (Hh : bH X l G bSHf ρ A 2) (Rt : bRX X (some .boolean) (some (.int r)) σ') (x1 : Int32) (σ : bSto) (hF : f_X11_notDone x1 σ = some (r, σ')) : bAJ X 0 [(0, .ref 0), (1, .int x1)] [] σ := by
  rw [f_X11_notDone] at hF
  refine b_aload_n (pc := 0) C dX11_notDone_0 rfl 0 rfl ?_
  refine b_iload_n (pc := 1) C dX11_notDone_1 rfl 1 rfl ?_
  obtain ⟨σ1, e2, hF⟩ := blet_e hF
  refine b_putI (pc := 2) C dX11_notDone_2 fp_X11_127 (Hh.1 _ _ sh_0) rfl rfl rfl e2 ?_
  refine b_iconst (pc := 5) C dX11_notDone_5 ic_0 ?_
  exact b_zret (pc := 6) C Rt dX11_notDone_6 rfl hF
set_option maxHeartbeats 4000000 in
set_option maxRecDepth 20000 in
theorem e_X11_notDone {l : Launch} {G : bG} {ρ : Nat → Nat} {A : Nat → Prop} (d : Nat) (x1 : Int32) (σ : bSto) (r : Int32) (σ' : bSto) (hF : f_X11_notDone x1 σ = some (r, σ')) : bEv l G bSHf ρ A yX11_notDone cX11_notDone 2 (some .boolean) (d + 0) [.ref 0, .int x1] σ (some (.int r)) σ' := b_met (d := d + 0) (by decide +kernel) (Nat.le_of_ble_eq_true rfl) rfl (fun X C Rt h1 h2 h3 => e_X11_notDone_0 C ⟨fun o q h => by rw [h1]; exact h, fun i h => by rw [h2]; exact h, h3⟩ Rt _ _ hF)
/-! BenchColony.done -/
def f_X11_done  (σ : bSto) : Option (Int32 × bSto) := blet (bI σ 0 8 (0 : Int32)) (fun σ1 => some ((1 : Int32), σ1))
set_option maxHeartbeats 4000000 in
set_option maxRecDepth 20000 in
theorem e_X11_done_0 {X : bX} {l : Launch} {G : bG} {ρ : Nat → Nat} {A : Nat → Prop} {d : Nat} {r : Int32} {σ' : bSto} (C : bCX X cX11_done RX11 (d + 0)) (Hh : bH X l G bSHf ρ A 1) (Rt : bRX X (some .boolean) (some (.int r)) σ')  (σ : bSto) (hF : f_X11_done  σ = some (r, σ')) : bAJ X 0 [(0, .ref 0)] [] σ := by
  rw [f_X11_done] at hF
  refine b_aload_n (pc := 0) C dX11_done_0 rfl 0 rfl ?_
  refine b_iconst (pc := 1) C dX11_done_1 ic_0 ?_
  obtain ⟨σ1, e2, hF⟩ := blet_e hF
  refine b_putI (pc := 2) C dX11_done_2 fp_X11_127 (Hh.1 _ _ sh_0) rfl rfl rfl e2 ?_
  refine b_iconst (pc := 5) C dX11_done_5 ic_1 ?_
  exact b_zret (pc := 6) C Rt dX11_done_6 rfl hF
set_option maxHeartbeats 4000000 in
set_option maxRecDepth 20000 in
theorem e_X11_done {l : Launch} {G : bG} {ρ : Nat → Nat} {A : Nat → Prop} (d : Nat)  (σ : bSto) (r : Int32) (σ' : bSto) (hF : f_X11_done  σ = some (r, σ')) : bEv l G bSHf ρ A yX11_done cX11_done 1 (some .boolean) (d + 0) [.ref 0] σ (some (.int r)) σ' := b_met (d := d + 0) (by decide +kernel) (Nat.le_of_ble_eq_true rfl) rfl (fun X C Rt h1 h2 h3 => e_X11_done_0 C ⟨fun o q h => by rw [h1]; exact h, fun i h => by rw [h2]; exact h, h3⟩ Rt  _ hF)
/-! BenchColony.sit -/
def f_X11_sit_J28  (σ : bSto) : Option (Int32 × bSto) := bbd (f_X11_notDone (1 : Int32) σ) (fun v3 σ2 => if v3 = 0 ∨ v3 = 1 then some (v3, σ2) else none)
def f_X11_sit_J59  (σ : bSto) : Option (Int32 × bSto) := bbd (f_X11_notDone (5 : Int32) σ) (fun v3 σ2 => if v3 = 0 ∨ v3 = 1 then some (v3, σ2) else none)
def f_X11_sit (x1 : Int32) (x2 : Int32) (σ : bSto) : Option (Int32 × bSto) := if kR (σ.2.2 0 7) then bbd (f_X2_has ((σ.2.2 0 7) + 7) x1 σ) (fun v4 σ3 => (if v4 = 0 then f_X11_sit_J28  σ3 else if kR (σ3.2.2 0 7) then bbd (f_X3_has ((σ3.2.2 0 7) + 1) x2 σ3) (fun v9 σ8 => (if v9 = 0 then f_X11_sit_J28  σ8 else if x1 < 0 ∨ 7 ≤ x1.toNatClampNeg then none else (if (σ8.1 31 x1.toNatClampNeg) = x2 then f_X11_sit_J59  σ8 else if kR (σ8.2.2 0 7) then bbd (f_X7_allows (σ8.2.2 0 7) x1 x2 σ8) (fun v16 σ15 => (if v16 = 0 then f_X11_sit_J59  σ15 else if kR (σ15.2.2 0 7) then bbd (f_X7_hasFreeSeat (σ15.2.2 0 7) 30 x2 σ15) (fun v21 σ20 => (if v21 = 0 then bbd (f_X11_notDone (3 : Int32) σ20) (fun v34 σ33 => if v34 = 0 ∨ v34 = 1 then some (v34, σ33) else none) else bbv (f_X6_keepAct 30 σ20) (fun σ24 => if x1 < 0 ∨ 7 ≤ x1.toNatClampNeg then none else blet (bI σ24 31 x1.toNatClampNeg x2) (fun σ25 => bbd (f_X11_done  σ25) (fun v30 σ29 => if v30 = 0 ∨ v30 = 1 then some (v30, σ29) else none))))) else none)) else none))) else none)) else none
set_option maxHeartbeats 4000000 in
set_option maxRecDepth 20000 in
theorem e_X11_sit_J28 {X : bX} {l : Launch} {G : bG} {ρ : Nat → Nat} {A : Nat → Prop} {d : Nat} {r : Int32} {σ' : bSto} (C : bCX X cX11_sit RX11 (d + 2)) (Hh : bH X l G bSHf ρ A 3) (Rt : bRX X (some .boolean) (some (.int r)) σ')  (σ : bSto) (hF : f_X11_sit_J28  σ = some (r, σ')) : bAJ X 28 [(0, .ref 0)] [] σ := by
  rw [f_X11_sit_J28] at hF
  refine b_aload_n (pc := 28) C dX11_sit_28 rfl 0 rfl ?_
  refine b_iconst (pc := 29) C dX11_sit_29 ic_1 ?_
  obtain ⟨v3, σ2, hc1, hF⟩ := bbd_e hF
  refine b_cV1i (d' := (d + 1)) (pc := 30) C dX11_sit_30 mm_X11_331 (Hh.1 _ _ sh_0) rfl (Nat.le_of_ble_eq_true rfl) (by omega) (Hh.2.2 _ _ _ _ _ _ _ _ _ (lvl_eq (by omega) (e_X11_notDone (d + 1) (1 : Int32) _ _ _ hc1))) ?_
  obtain ⟨hz4, hF⟩ := bif_y hF
  exact b_zret (pc := 33) C Rt dX11_sit_33 (bz_n hz4) hF
set_option maxHeartbeats 4000000 in
set_option maxRecDepth 20000 in
theorem e_X11_sit_J59 {X : bX} {l : Launch} {G : bG} {ρ : Nat → Nat} {A : Nat → Prop} {d : Nat} {r : Int32} {σ' : bSto} (C : bCX X cX11_sit RX11 (d + 2)) (Hh : bH X l G bSHf ρ A 3) (Rt : bRX X (some .boolean) (some (.int r)) σ')  (σ : bSto) (hF : f_X11_sit_J59  σ = some (r, σ')) : bAJ X 59 [(0, .ref 0)] [] σ := by
  rw [f_X11_sit_J59] at hF
  refine b_aload_n (pc := 59) C dX11_sit_59 rfl 0 rfl ?_
  refine b_iconst (pc := 60) C dX11_sit_60 ic_5 ?_
  obtain ⟨v3, σ2, hc1, hF⟩ := bbd_e hF
  refine b_cV1i (d' := (d + 1)) (pc := 61) C dX11_sit_61 mm_X11_331 (Hh.1 _ _ sh_0) rfl (Nat.le_of_ble_eq_true rfl) (by omega) (Hh.2.2 _ _ _ _ _ _ _ _ _ (lvl_eq (by omega) (e_X11_notDone (d + 1) (5 : Int32) _ _ _ hc1))) ?_
  obtain ⟨hz4, hF⟩ := bif_y hF
  exact b_zret (pc := 64) C Rt dX11_sit_64 (bz_n hz4) hF
set_option maxHeartbeats 4000000 in
set_option maxRecDepth 20000 in
theorem e_X11_sit_0 {X : bX} {l : Launch} {G : bG} {ρ : Nat → Nat} {A : Nat → Prop} {d : Nat} {r : Int32} {σ' : bSto} (C : bCX X cX11_sit RX11 (d + 2)) (Hh : bH X l G bSHf ρ A 3) (Rt : bRX X (some .boolean) (some (.int r)) σ') (x1 : Int32) (x2 : Int32) (σ : bSto) (hF : f_X11_sit x1 x2 σ = some (r, σ')) : bAJ X 0 [(0, .ref 0), (1, .int x1), (2, .int x2)] [] σ := by
  rw [f_X11_sit] at hF
  refine b_aload_n (pc := 0) C dX11_sit_0 rfl 0 rfl ?_
  obtain ⟨hk1, hF⟩ := bif_y hF
  refine b_getR (pc := 1) C dX11_sit_1 fl_X11_57 (Hh.1 _ _ sh_0) rfl ?_
  refine b_getS (pc := 4) C dX11_sit_4 fl_X11_163 (Hh.1 _ _ (shR hk1)) rfl ?_
  refine b_iload_n (pc := 7) C dX11_sit_7 rfl 1 rfl ?_
  obtain ⟨v4, σ3, hc2, hF⟩ := bbd_e hF
  refine b_cV1i (d' := (d + 1)) (pc := 8) C dX11_sit_8 mm_X11_167 (Hh.1 _ _ (shF (kk_7_1 hk1))) rfl (Nat.le_of_ble_eq_true rfl) (by omega) (Hh.2.2 _ _ _ _ _ _ _ _ _ (lvl_eq (by omega) (e_X2_has (d + 1) _ (kk_7_1 hk1) x1 _ _ _ hc2))) ?_
  refine b_if_eq (tgt := 28) (pc := 11) C dX11_sit_11 rfl (fun hc5 => ?_) (fun hc5 => ?_)
  · rw [if_pos hc5] at hF
    exact b_sub [0] rfl (e_X11_sit_J28 C Hh Rt  _ hF)
  · rw [if_neg hc5] at hF
    refine b_aload_n (pc := 14) C dX11_sit_14 rfl 0 rfl ?_
    obtain ⟨hk6, hF⟩ := bif_y hF
    refine b_getR (pc := 15) C dX11_sit_15 fl_X11_57 (Hh.1 _ _ sh_0) rfl ?_
    refine b_getS (pc := 18) C dX11_sit_18 fl_X11_115 (Hh.1 _ _ (shR hk6)) rfl ?_
    refine b_iload_n (pc := 21) C dX11_sit_21 rfl 2 rfl ?_
    obtain ⟨v9, σ8, hc7, hF⟩ := bbd_e hF
    refine b_cV1i (d' := (d + 1)) (pc := 22) C dX11_sit_22 mm_X11_130 (Hh.1 _ _ (shH (kk_7_0 hk6))) rfl (Nat.le_of_ble_eq_true rfl) (by omega) (Hh.2.2 _ _ _ _ _ _ _ _ _ (lvl_eq (by omega) (e_X3_has (d + 1) _ (kk_7_0 hk6) x2 _ _ _ hc7))) ?_
    refine b_if_ne (tgt := 34) (pc := 25) C dX11_sit_25 rfl (fun hc10 => ?_) (fun hc10 => ?_)
    · rw [if_neg hc10] at hF
      refine b_aload_n (pc := 34) C dX11_sit_34 rfl 0 rfl ?_
      refine b_getS (pc := 35) C dX11_sit_35 fl_X11_19 (Hh.1 _ _ sh_0) rfl ?_
      refine b_getS (pc := 38) C dX11_sit_38 fl_X11_179 (Hh.1 _ _ sh_30) rfl ?_
      refine b_iload_n (pc := 41) C dX11_sit_41 rfl 1 rfl ?_
      obtain ⟨hb11, hF⟩ := bif_n hF
      refine b_iald (pc := 42) C dX11_sit_42 (Hh.1 _ _ sh_31) hb11 ?_
      refine b_iload_n (pc := 43) C dX11_sit_43 rfl 2 rfl ?_
      refine b_icmp_eq (tgt := 59) (pc := 44) C dX11_sit_44 rfl (fun hc12 => ?_) (fun hc12 => ?_)
      · rw [if_pos hc12] at hF
        exact b_sub [0] rfl (e_X11_sit_J59 C Hh Rt  _ hF)
      · rw [if_neg hc12] at hF
        refine b_aload_n (pc := 47) C dX11_sit_47 rfl 0 rfl ?_
        obtain ⟨hk13, hF⟩ := bif_y hF
        refine b_getR (pc := 48) C dX11_sit_48 fl_X11_57 (Hh.1 _ _ sh_0) rfl ?_
        refine b_iload_n (pc := 51) C dX11_sit_51 rfl 1 rfl ?_
        refine b_iload_n (pc := 52) C dX11_sit_52 rfl 2 rfl ?_
        obtain ⟨v16, σ15, hc14, hF⟩ := bbd_e hF
        refine b_cV2i (d' := (d + 1)) (pc := 53) C dX11_sit_53 mm_X11_192 (Hh.1 _ _ (shR hk13)) rfl (Nat.le_of_ble_eq_true rfl) (by omega) (Hh.2.2 _ _ _ _ _ _ _ _ _ (lvl_eq (by omega) (e_X7_allows (d + 1) _ hk13 x1 x2 _ _ _ hc14))) ?_
        refine b_if_ne (tgt := 65) (pc := 56) C dX11_sit_56 rfl (fun hc17 => ?_) (fun hc17 => ?_)
        · rw [if_neg hc17] at hF
          refine b_aload_n (pc := 65) C dX11_sit_65 rfl 0 rfl ?_
          obtain ⟨hk18, hF⟩ := bif_y hF
          refine b_getR (pc := 66) C dX11_sit_66 fl_X11_57 (Hh.1 _ _ sh_0) rfl ?_
          refine b_aload_n (pc := 69) C dX11_sit_69 rfl 0 rfl ?_
          refine b_getS (pc := 70) C dX11_sit_70 fl_X11_19 (Hh.1 _ _ sh_0) rfl ?_
          refine b_iload_n (pc := 73) C dX11_sit_73 rfl 2 rfl ?_
          obtain ⟨v21, σ20, hc19, hF⟩ := bbd_e hF
          refine b_cV2i (d' := (d + 1)) (pc := 74) C dX11_sit_74 mm_X11_334 (Hh.1 _ _ (shR hk18)) rfl (Nat.le_of_ble_eq_true rfl) (by omega) (Hh.2.2 _ _ _ _ _ _ _ _ _ (lvl_eq (by omega) (e_X7_hasFreeSeat (d + 0) _ hk18 _ (by decide) x2 _ _ _ hc19))) ?_
          refine b_if_ne (tgt := 86) (pc := 77) C dX11_sit_77 rfl (fun hc22 => ?_) (fun hc22 => ?_)
          · rw [if_neg hc22] at hF
            refine b_aload_n (pc := 86) C dX11_sit_86 rfl 0 rfl ?_
            refine b_getS (pc := 87) C dX11_sit_87 fl_X11_29 (Hh.1 _ _ sh_0) rfl ?_
            refine b_aload_n (pc := 90) C dX11_sit_90 rfl 0 rfl ?_
            refine b_getS (pc := 91) C dX11_sit_91 fl_X11_19 (Hh.1 _ _ sh_0) rfl ?_
            obtain ⟨σ24, hc23, hF⟩ := bbv_e hF
            refine b_cV1v (d' := (d + 1)) (pc := 94) C dX11_sit_94 mm_X11_338 (Hh.1 _ _ sh_36) rfl (Nat.le_of_ble_eq_true rfl) (by omega) (Hh.2.2 _ _ _ _ _ _ _ _ _ (lvl_eq (by omega) (e_X6_keepAct (d + 0) _ (by decide) _ _ hc23))) ?_
            refine b_aload_n (pc := 97) C dX11_sit_97 rfl 0 rfl ?_
            refine b_getS (pc := 98) C dX11_sit_98 fl_X11_19 (Hh.1 _ _ sh_0) rfl ?_
            refine b_getS (pc := 101) C dX11_sit_101 fl_X11_179 (Hh.1 _ _ sh_30) rfl ?_
            refine b_iload_n (pc := 104) C dX11_sit_104 rfl 1 rfl ?_
            refine b_iload_n (pc := 105) C dX11_sit_105 rfl 2 rfl ?_
            obtain ⟨hb27, hF⟩ := bif_n hF
            obtain ⟨σ25, e26, hF⟩ := blet_e hF
            refine b_iast (pc := 106) C dX11_sit_106 (Hh.1 _ _ sh_31) hb27 e26 ?_
            refine b_aload_n (pc := 107) C dX11_sit_107 rfl 0 rfl ?_
            obtain ⟨v30, σ29, hc28, hF⟩ := bbd_e hF
            refine b_cV0i (d' := (d + 1)) (pc := 108) C dX11_sit_108 mm_X11_341 (Hh.1 _ _ sh_0) rfl (Nat.le_of_ble_eq_true rfl) (by omega) (Hh.2.2 _ _ _ _ _ _ _ _ _ (lvl_eq (by omega) (e_X11_done (d + 1)  _ _ _ hc28))) ?_
            obtain ⟨hz31, hF⟩ := bif_y hF
            exact b_zret (pc := 111) C Rt dX11_sit_111 (bz_n hz31) hF
          · rw [if_pos hc22] at hF
            refine b_aload_n (pc := 80) C dX11_sit_80 rfl 0 rfl ?_
            refine b_iconst (pc := 81) C dX11_sit_81 ic_3 ?_
            obtain ⟨v34, σ33, hc32, hF⟩ := bbd_e hF
            refine b_cV1i (d' := (d + 1)) (pc := 82) C dX11_sit_82 mm_X11_331 (Hh.1 _ _ sh_0) rfl (Nat.le_of_ble_eq_true rfl) (by omega) (Hh.2.2 _ _ _ _ _ _ _ _ _ (lvl_eq (by omega) (e_X11_notDone (d + 1) (3 : Int32) _ _ _ hc32))) ?_
            obtain ⟨hz35, hF⟩ := bif_y hF
            exact b_zret (pc := 85) C Rt dX11_sit_85 (bz_n hz35) hF
        · rw [if_pos hc17] at hF
          exact b_sub [0] rfl (e_X11_sit_J59 C Hh Rt  _ hF)
    · rw [if_pos hc10] at hF
      exact b_sub [0] rfl (e_X11_sit_J28 C Hh Rt  _ hF)
set_option maxHeartbeats 4000000 in
set_option maxRecDepth 20000 in
theorem e_X11_sit {l : Launch} {G : bG} {ρ : Nat → Nat} {A : Nat → Prop} (d : Nat) (x1 : Int32) (x2 : Int32) (σ : bSto) (r : Int32) (σ' : bSto) (hF : f_X11_sit x1 x2 σ = some (r, σ')) : bEv l G bSHf ρ A yX11_sit cX11_sit 3 (some .boolean) (d + 2) [.ref 0, .int x1, .int x2] σ (some (.int r)) σ' := b_met (d := d + 2) (by decide +kernel) (Nat.le_of_ble_eq_true rfl) rfl (fun X C Rt h1 h2 h3 => e_X11_sit_0 C ⟨fun o q h => by rw [h1]; exact h, fun i h => by rw [h2]; exact h, h3⟩ Rt _ _ _ hF)
/-! BenchColony.stand -/
def f_X11_stand (x1 : Int32) (σ : bSto) : Option (Int32 × bSto) := if kR (σ.2.2 0 7) then bbd (f_X2_has ((σ.2.2 0 7) + 7) x1 σ) (fun v4 σ3 => (if v4 = 0 then bbd (f_X11_notDone (1 : Int32) σ3) (fun v23 σ22 => if v23 = 0 ∨ v23 = 1 then some (v23, σ22) else none) else if x1 < 0 ∨ 7 ≤ x1.toNatClampNeg then none else (if (σ3.1 31 x1.toNatClampNeg) = (-2 : Int32) then bbd (f_X11_notDone (5 : Int32) σ3) (fun v19 σ18 => if v19 = 0 ∨ v19 = 1 then some (v19, σ18) else none) else bbv (f_X6_keepAct 30 σ3) (fun σ9 => if x1 < 0 ∨ 7 ≤ x1.toNatClampNeg then none else blet (bI σ9 31 x1.toNatClampNeg (-2 : Int32)) (fun σ10 => bbd (f_X11_done  σ10) (fun v15 σ14 => if v15 = 0 ∨ v15 = 1 then some (v15, σ14) else none)))))) else none
set_option maxHeartbeats 4000000 in
set_option maxRecDepth 20000 in
theorem e_X11_stand_0 {X : bX} {l : Launch} {G : bG} {ρ : Nat → Nat} {A : Nat → Prop} {d : Nat} {r : Int32} {σ' : bSto} (C : bCX X cX11_stand RX11 (d + 2)) (Hh : bH X l G bSHf ρ A 2) (Rt : bRX X (some .boolean) (some (.int r)) σ') (x1 : Int32) (σ : bSto) (hF : f_X11_stand x1 σ = some (r, σ')) : bAJ X 0 [(0, .ref 0), (1, .int x1)] [] σ := by
  rw [f_X11_stand] at hF
  refine b_aload_n (pc := 0) C dX11_stand_0 rfl 0 rfl ?_
  obtain ⟨hk1, hF⟩ := bif_y hF
  refine b_getR (pc := 1) C dX11_stand_1 fl_X11_57 (Hh.1 _ _ sh_0) rfl ?_
  refine b_getS (pc := 4) C dX11_stand_4 fl_X11_163 (Hh.1 _ _ (shR hk1)) rfl ?_
  refine b_iload_n (pc := 7) C dX11_stand_7 rfl 1 rfl ?_
  obtain ⟨v4, σ3, hc2, hF⟩ := bbd_e hF
  refine b_cV1i (d' := (d + 1)) (pc := 8) C dX11_stand_8 mm_X11_167 (Hh.1 _ _ (shF (kk_7_1 hk1))) rfl (Nat.le_of_ble_eq_true rfl) (by omega) (Hh.2.2 _ _ _ _ _ _ _ _ _ (lvl_eq (by omega) (e_X2_has (d + 1) _ (kk_7_1 hk1) x1 _ _ _ hc2))) ?_
  refine b_if_ne (tgt := 20) (pc := 11) C dX11_stand_11 rfl (fun hc5 => ?_) (fun hc5 => ?_)
  · rw [if_neg hc5] at hF
    refine b_aload_n (pc := 20) C dX11_stand_20 rfl 0 rfl ?_
    refine b_getS (pc := 21) C dX11_stand_21 fl_X11_19 (Hh.1 _ _ sh_0) rfl ?_
    refine b_getS (pc := 24) C dX11_stand_24 fl_X11_179 (Hh.1 _ _ sh_30) rfl ?_
    refine b_iload_n (pc := 27) C dX11_stand_27 rfl 1 rfl ?_
    obtain ⟨hb6, hF⟩ := bif_n hF
    refine b_iald (pc := 28) C dX11_stand_28 (Hh.1 _ _ sh_31) hb6 ?_
    refine b_bipush (pc := 29) C dX11_stand_29 bp_m2 ?_
    refine b_icmp_ne (tgt := 40) (pc := 31) C dX11_stand_31 rfl (fun hc7 => ?_) (fun hc7 => ?_)
    · rw [if_neg hc7] at hF
      refine b_aload_n (pc := 40) C dX11_stand_40 rfl 0 rfl ?_
      refine b_getS (pc := 41) C dX11_stand_41 fl_X11_29 (Hh.1 _ _ sh_0) rfl ?_
      refine b_aload_n (pc := 44) C dX11_stand_44 rfl 0 rfl ?_
      refine b_getS (pc := 45) C dX11_stand_45 fl_X11_19 (Hh.1 _ _ sh_0) rfl ?_
      obtain ⟨σ9, hc8, hF⟩ := bbv_e hF
      refine b_cV1v (d' := (d + 1)) (pc := 48) C dX11_stand_48 mm_X11_338 (Hh.1 _ _ sh_36) rfl (Nat.le_of_ble_eq_true rfl) (by omega) (Hh.2.2 _ _ _ _ _ _ _ _ _ (lvl_eq (by omega) (e_X6_keepAct (d + 0) _ (by decide) _ _ hc8))) ?_
      refine b_aload_n (pc := 51) C dX11_stand_51 rfl 0 rfl ?_
      refine b_getS (pc := 52) C dX11_stand_52 fl_X11_19 (Hh.1 _ _ sh_0) rfl ?_
      refine b_getS (pc := 55) C dX11_stand_55 fl_X11_179 (Hh.1 _ _ sh_30) rfl ?_
      refine b_iload_n (pc := 58) C dX11_stand_58 rfl 1 rfl ?_
      refine b_bipush (pc := 59) C dX11_stand_59 bp_m2 ?_
      obtain ⟨hb12, hF⟩ := bif_n hF
      obtain ⟨σ10, e11, hF⟩ := blet_e hF
      refine b_iast (pc := 61) C dX11_stand_61 (Hh.1 _ _ sh_31) hb12 e11 ?_
      refine b_aload_n (pc := 62) C dX11_stand_62 rfl 0 rfl ?_
      obtain ⟨v15, σ14, hc13, hF⟩ := bbd_e hF
      refine b_cV0i (d' := (d + 1)) (pc := 63) C dX11_stand_63 mm_X11_341 (Hh.1 _ _ sh_0) rfl (Nat.le_of_ble_eq_true rfl) (by omega) (Hh.2.2 _ _ _ _ _ _ _ _ _ (lvl_eq (by omega) (e_X11_done (d + 1)  _ _ _ hc13))) ?_
      obtain ⟨hz16, hF⟩ := bif_y hF
      exact b_zret (pc := 66) C Rt dX11_stand_66 (bz_n hz16) hF
    · rw [if_pos hc7] at hF
      refine b_aload_n (pc := 34) C dX11_stand_34 rfl 0 rfl ?_
      refine b_iconst (pc := 35) C dX11_stand_35 ic_5 ?_
      obtain ⟨v19, σ18, hc17, hF⟩ := bbd_e hF
      refine b_cV1i (d' := (d + 1)) (pc := 36) C dX11_stand_36 mm_X11_331 (Hh.1 _ _ sh_0) rfl (Nat.le_of_ble_eq_true rfl) (by omega) (Hh.2.2 _ _ _ _ _ _ _ _ _ (lvl_eq (by omega) (e_X11_notDone (d + 1) (5 : Int32) _ _ _ hc17))) ?_
      obtain ⟨hz20, hF⟩ := bif_y hF
      exact b_zret (pc := 39) C Rt dX11_stand_39 (bz_n hz20) hF
  · rw [if_pos hc5] at hF
    refine b_aload_n (pc := 14) C dX11_stand_14 rfl 0 rfl ?_
    refine b_iconst (pc := 15) C dX11_stand_15 ic_1 ?_
    obtain ⟨v23, σ22, hc21, hF⟩ := bbd_e hF
    refine b_cV1i (d' := (d + 1)) (pc := 16) C dX11_stand_16 mm_X11_331 (Hh.1 _ _ sh_0) rfl (Nat.le_of_ble_eq_true rfl) (by omega) (Hh.2.2 _ _ _ _ _ _ _ _ _ (lvl_eq (by omega) (e_X11_notDone (d + 1) (1 : Int32) _ _ _ hc21))) ?_
    obtain ⟨hz24, hF⟩ := bif_y hF
    exact b_zret (pc := 19) C Rt dX11_stand_19 (bz_n hz24) hF
set_option maxHeartbeats 4000000 in
set_option maxRecDepth 20000 in
theorem e_X11_stand {l : Launch} {G : bG} {ρ : Nat → Nat} {A : Nat → Prop} (d : Nat) (x1 : Int32) (σ : bSto) (r : Int32) (σ' : bSto) (hF : f_X11_stand x1 σ = some (r, σ')) : bEv l G bSHf ρ A yX11_stand cX11_stand 2 (some .boolean) (d + 2) [.ref 0, .int x1] σ (some (.int r)) σ' := b_met (d := d + 2) (by decide +kernel) (Nat.le_of_ble_eq_true rfl) rfl (fun X C Rt h1 h2 h3 => e_X11_stand_0 C ⟨fun o q h => by rw [h1]; exact h, fun i h => by rw [h2]; exact h, h3⟩ Rt _ _ hF)
/-! BenchColony.preach -/
def f_X11_preach_J30  (σ : bSto) : Option (Int32 × bSto) := bbd (f_X11_notDone (2 : Int32) σ) (fun v3 σ2 => if v3 = 0 ∨ v3 = 1 then some (v3, σ2) else none)
def f_X11_preach (x1 : Int32) (x2 : Int32) (σ : bSto) : Option (Int32 × bSto) := if kR (σ.2.2 0 7) then bbd (f_X2_has ((σ.2.2 0 7) + 7) x1 σ) (fun v4 σ3 => (if v4 = 0 then bbd (f_X11_notDone (1 : Int32) σ3) (fun v25 σ24 => if v25 = 0 ∨ v25 = 1 then some (v25, σ24) else none) else (if x2 < (-1 : Int32) then f_X11_preach_J30  σ3 else (if x2 ≤ (1 : Int32) then if x1 < 0 ∨ 7 ≤ x1.toNatClampNeg then none else (if (σ3.1 32 x1.toNatClampNeg) = x2 then bbd (f_X11_notDone (5 : Int32) σ3) (fun v21 σ20 => if v21 = 0 ∨ v21 = 1 then some (v21, σ20) else none) else bbv (f_X6_keepAct 30 σ3) (fun σ11 => if x1 < 0 ∨ 7 ≤ x1.toNatClampNeg then none else blet (bI σ11 32 x1.toNatClampNeg x2) (fun σ12 => bbd (f_X11_done  σ12) (fun v17 σ16 => if v17 = 0 ∨ v17 = 1 then some (v17, σ16) else none)))) else f_X11_preach_J30  σ3)))) else none
set_option maxHeartbeats 4000000 in
set_option maxRecDepth 20000 in
theorem e_X11_preach_J30 {X : bX} {l : Launch} {G : bG} {ρ : Nat → Nat} {A : Nat → Prop} {d : Nat} {r : Int32} {σ' : bSto} (C : bCX X cX11_preach RX11 (d + 2)) (Hh : bH X l G bSHf ρ A 3) (Rt : bRX X (some .boolean) (some (.int r)) σ')  (σ : bSto) (hF : f_X11_preach_J30  σ = some (r, σ')) : bAJ X 30 [(0, .ref 0)] [] σ := by
  rw [f_X11_preach_J30] at hF
  refine b_aload_n (pc := 30) C dX11_preach_30 rfl 0 rfl ?_
  refine b_iconst (pc := 31) C dX11_preach_31 ic_2 ?_
  obtain ⟨v3, σ2, hc1, hF⟩ := bbd_e hF
  refine b_cV1i (d' := (d + 1)) (pc := 32) C dX11_preach_32 mm_X11_331 (Hh.1 _ _ sh_0) rfl (Nat.le_of_ble_eq_true rfl) (by omega) (Hh.2.2 _ _ _ _ _ _ _ _ _ (lvl_eq (by omega) (e_X11_notDone (d + 1) (2 : Int32) _ _ _ hc1))) ?_
  obtain ⟨hz4, hF⟩ := bif_y hF
  exact b_zret (pc := 35) C Rt dX11_preach_35 (bz_n hz4) hF
set_option maxHeartbeats 4000000 in
set_option maxRecDepth 20000 in
theorem e_X11_preach_0 {X : bX} {l : Launch} {G : bG} {ρ : Nat → Nat} {A : Nat → Prop} {d : Nat} {r : Int32} {σ' : bSto} (C : bCX X cX11_preach RX11 (d + 2)) (Hh : bH X l G bSHf ρ A 3) (Rt : bRX X (some .boolean) (some (.int r)) σ') (x1 : Int32) (x2 : Int32) (σ : bSto) (hF : f_X11_preach x1 x2 σ = some (r, σ')) : bAJ X 0 [(0, .ref 0), (1, .int x1), (2, .int x2)] [] σ := by
  rw [f_X11_preach] at hF
  refine b_aload_n (pc := 0) C dX11_preach_0 rfl 0 rfl ?_
  obtain ⟨hk1, hF⟩ := bif_y hF
  refine b_getR (pc := 1) C dX11_preach_1 fl_X11_57 (Hh.1 _ _ sh_0) rfl ?_
  refine b_getS (pc := 4) C dX11_preach_4 fl_X11_163 (Hh.1 _ _ (shR hk1)) rfl ?_
  refine b_iload_n (pc := 7) C dX11_preach_7 rfl 1 rfl ?_
  obtain ⟨v4, σ3, hc2, hF⟩ := bbd_e hF
  refine b_cV1i (d' := (d + 1)) (pc := 8) C dX11_preach_8 mm_X11_167 (Hh.1 _ _ (shF (kk_7_1 hk1))) rfl (Nat.le_of_ble_eq_true rfl) (by omega) (Hh.2.2 _ _ _ _ _ _ _ _ _ (lvl_eq (by omega) (e_X2_has (d + 1) _ (kk_7_1 hk1) x1 _ _ _ hc2))) ?_
  refine b_if_ne (tgt := 20) (pc := 11) C dX11_preach_11 rfl (fun hc5 => ?_) (fun hc5 => ?_)
  · rw [if_neg hc5] at hF
    refine b_iload_n (pc := 20) C dX11_preach_20 rfl 2 rfl ?_
    refine b_iconst (pc := 21) C dX11_preach_21 ic_m1 ?_
    refine b_icmp_lt (tgt := 30) (pc := 22) C dX11_preach_22 rfl (fun hc6 => ?_) (fun hc6 => ?_)
    · rw [if_pos hc6] at hF
      exact b_sub [0] rfl (e_X11_preach_J30 C Hh Rt  _ hF)
    · rw [if_neg hc6] at hF
      refine b_iload_n (pc := 25) C dX11_preach_25 rfl 2 rfl ?_
      refine b_iconst (pc := 26) C dX11_preach_26 ic_1 ?_
      refine b_icmp_le (tgt := 36) (pc := 27) C dX11_preach_27 rfl (fun hc7 => ?_) (fun hc7 => ?_)
      · rw [if_pos hc7] at hF
        refine b_aload_n (pc := 36) C dX11_preach_36 rfl 0 rfl ?_
        refine b_getS (pc := 37) C dX11_preach_37 fl_X11_19 (Hh.1 _ _ sh_0) rfl ?_
        refine b_getS (pc := 40) C dX11_preach_40 fl_X11_186 (Hh.1 _ _ sh_30) rfl ?_
        refine b_iload_n (pc := 43) C dX11_preach_43 rfl 1 rfl ?_
        obtain ⟨hb8, hF⟩ := bif_n hF
        refine b_iald (pc := 44) C dX11_preach_44 (Hh.1 _ _ sh_32) hb8 ?_
        refine b_iload_n (pc := 45) C dX11_preach_45 rfl 2 rfl ?_
        refine b_icmp_ne (tgt := 55) (pc := 46) C dX11_preach_46 rfl (fun hc9 => ?_) (fun hc9 => ?_)
        · rw [if_neg hc9] at hF
          refine b_aload_n (pc := 55) C dX11_preach_55 rfl 0 rfl ?_
          refine b_getS (pc := 56) C dX11_preach_56 fl_X11_29 (Hh.1 _ _ sh_0) rfl ?_
          refine b_aload_n (pc := 59) C dX11_preach_59 rfl 0 rfl ?_
          refine b_getS (pc := 60) C dX11_preach_60 fl_X11_19 (Hh.1 _ _ sh_0) rfl ?_
          obtain ⟨σ11, hc10, hF⟩ := bbv_e hF
          refine b_cV1v (d' := (d + 1)) (pc := 63) C dX11_preach_63 mm_X11_338 (Hh.1 _ _ sh_36) rfl (Nat.le_of_ble_eq_true rfl) (by omega) (Hh.2.2 _ _ _ _ _ _ _ _ _ (lvl_eq (by omega) (e_X6_keepAct (d + 0) _ (by decide) _ _ hc10))) ?_
          refine b_aload_n (pc := 66) C dX11_preach_66 rfl 0 rfl ?_
          refine b_getS (pc := 67) C dX11_preach_67 fl_X11_19 (Hh.1 _ _ sh_0) rfl ?_
          refine b_getS (pc := 70) C dX11_preach_70 fl_X11_186 (Hh.1 _ _ sh_30) rfl ?_
          refine b_iload_n (pc := 73) C dX11_preach_73 rfl 1 rfl ?_
          refine b_iload_n (pc := 74) C dX11_preach_74 rfl 2 rfl ?_
          obtain ⟨hb14, hF⟩ := bif_n hF
          obtain ⟨σ12, e13, hF⟩ := blet_e hF
          refine b_iast (pc := 75) C dX11_preach_75 (Hh.1 _ _ sh_32) hb14 e13 ?_
          refine b_aload_n (pc := 76) C dX11_preach_76 rfl 0 rfl ?_
          obtain ⟨v17, σ16, hc15, hF⟩ := bbd_e hF
          refine b_cV0i (d' := (d + 1)) (pc := 77) C dX11_preach_77 mm_X11_341 (Hh.1 _ _ sh_0) rfl (Nat.le_of_ble_eq_true rfl) (by omega) (Hh.2.2 _ _ _ _ _ _ _ _ _ (lvl_eq (by omega) (e_X11_done (d + 1)  _ _ _ hc15))) ?_
          obtain ⟨hz18, hF⟩ := bif_y hF
          exact b_zret (pc := 80) C Rt dX11_preach_80 (bz_n hz18) hF
        · rw [if_pos hc9] at hF
          refine b_aload_n (pc := 49) C dX11_preach_49 rfl 0 rfl ?_
          refine b_iconst (pc := 50) C dX11_preach_50 ic_5 ?_
          obtain ⟨v21, σ20, hc19, hF⟩ := bbd_e hF
          refine b_cV1i (d' := (d + 1)) (pc := 51) C dX11_preach_51 mm_X11_331 (Hh.1 _ _ sh_0) rfl (Nat.le_of_ble_eq_true rfl) (by omega) (Hh.2.2 _ _ _ _ _ _ _ _ _ (lvl_eq (by omega) (e_X11_notDone (d + 1) (5 : Int32) _ _ _ hc19))) ?_
          obtain ⟨hz22, hF⟩ := bif_y hF
          exact b_zret (pc := 54) C Rt dX11_preach_54 (bz_n hz22) hF
      · rw [if_neg hc7] at hF
        exact b_sub [0] rfl (e_X11_preach_J30 C Hh Rt  _ hF)
  · rw [if_pos hc5] at hF
    refine b_aload_n (pc := 14) C dX11_preach_14 rfl 0 rfl ?_
    refine b_iconst (pc := 15) C dX11_preach_15 ic_1 ?_
    obtain ⟨v25, σ24, hc23, hF⟩ := bbd_e hF
    refine b_cV1i (d' := (d + 1)) (pc := 16) C dX11_preach_16 mm_X11_331 (Hh.1 _ _ sh_0) rfl (Nat.le_of_ble_eq_true rfl) (by omega) (Hh.2.2 _ _ _ _ _ _ _ _ _ (lvl_eq (by omega) (e_X11_notDone (d + 1) (1 : Int32) _ _ _ hc23))) ?_
    obtain ⟨hz26, hF⟩ := bif_y hF
    exact b_zret (pc := 19) C Rt dX11_preach_19 (bz_n hz26) hF
set_option maxHeartbeats 4000000 in
set_option maxRecDepth 20000 in
theorem e_X11_preach {l : Launch} {G : bG} {ρ : Nat → Nat} {A : Nat → Prop} (d : Nat) (x1 : Int32) (x2 : Int32) (σ : bSto) (r : Int32) (σ' : bSto) (hF : f_X11_preach x1 x2 σ = some (r, σ')) : bEv l G bSHf ρ A yX11_preach cX11_preach 3 (some .boolean) (d + 2) [.ref 0, .int x1, .int x2] σ (some (.int r)) σ' := b_met (d := d + 2) (by decide +kernel) (Nat.le_of_ble_eq_true rfl) rfl (fun X C Rt h1 h2 h3 => e_X11_preach_0 C ⟨fun o q h => by rw [h1]; exact h, fun i h => by rw [h2]; exact h, h3⟩ Rt _ _ _ hF)
/-! BenchColony.round -/
def f_X11_round  (σ : bSto) : Option (Int32 × bSto) := if kR (σ.2.2 0 7) then (if (σ.1 (σ.2.2 0 7) 4) = 0 then bbd (f_X11_refused (1 : Int32) σ) (fun v18 σ17 => some (v18, σ17)) else bbv (f_X6_keepAct 30 σ) (fun σ4 => bbv (f_X1_begin 30 σ4) (fun σ6 => if kR (σ6.2.2 0 7) then bbd (f_X1_step ((σ6.2.2 0 7) + 7) σ6) (fun v10 σ9 => bbv (f_X1_tellTo 30 σ9) (fun σ12 => bbd (f_X11_answered v10 σ12) (fun v15 σ14 => some (v15, σ14)))) else none))) else none
set_option maxHeartbeats 4000000 in
set_option maxRecDepth 20000 in
theorem e_X11_round_0 {X : bX} {l : Launch} {G : bG} {ρ : Nat → Nat} {A : Nat → Prop} {d : Nat} {r : Int32} {σ' : bSto} (C : bCX X cX11_round RX11 (d + 3)) (Hh : bH X l G bSHf ρ A 2) (Rt : bRX X (some .int) (some (.int r)) σ')  (σ : bSto) (hF : f_X11_round  σ = some (r, σ')) : bAJ X 0 [(0, .ref 0)] [] σ := by
  rw [f_X11_round] at hF
  refine b_aload_n (pc := 0) C dX11_round_0 rfl 0 rfl ?_
  obtain ⟨hk1, hF⟩ := bif_y hF
  refine b_getR (pc := 1) C dX11_round_1 fl_X11_57 (Hh.1 _ _ sh_0) rfl ?_
  refine b_getI (pc := 4) C dX11_round_4 fl_X11_196 (Hh.1 _ _ (shR hk1)) rfl ?_
  refine b_if_ne (tgt := 16) (pc := 7) C dX11_round_7 rfl (fun hc2 => ?_) (fun hc2 => ?_)
  · rw [if_neg hc2] at hF
    refine b_aload_n (pc := 16) C dX11_round_16 rfl 0 rfl ?_
    refine b_getS (pc := 17) C dX11_round_17 fl_X11_29 (Hh.1 _ _ sh_0) rfl ?_
    refine b_aload_n (pc := 20) C dX11_round_20 rfl 0 rfl ?_
    refine b_getS (pc := 21) C dX11_round_21 fl_X11_19 (Hh.1 _ _ sh_0) rfl ?_
    obtain ⟨σ4, hc3, hF⟩ := bbv_e hF
    refine b_cV1v (d' := (d + 2)) (pc := 24) C dX11_round_24 mm_X11_338 (Hh.1 _ _ sh_36) rfl (Nat.le_of_ble_eq_true rfl) (by omega) (Hh.2.2 _ _ _ _ _ _ _ _ _ (lvl_eq (by omega) (e_X6_keepAct (d + 1) _ (by decide) _ _ hc3))) ?_
    refine b_aload_n (pc := 27) C dX11_round_27 rfl 0 rfl ?_
    refine b_getS (pc := 28) C dX11_round_28 fl_X11_50 (Hh.1 _ _ sh_0) rfl ?_
    refine b_aload_n (pc := 31) C dX11_round_31 rfl 0 rfl ?_
    refine b_getS (pc := 32) C dX11_round_32 fl_X11_19 (Hh.1 _ _ sh_0) rfl ?_
    obtain ⟨σ6, hc5, hF⟩ := bbv_e hF
    refine b_cV1v (d' := (d + 2)) (pc := 35) C dX11_round_35 mm_X11_280 (Hh.1 _ _ sh_66) rfl (Nat.le_of_ble_eq_true rfl) (by omega) (Hh.2.2 _ _ _ _ _ _ _ _ _ (lvl_eq (by omega) (e_X1_begin (d + 2) _ (by decide) _ _ hc5))) ?_
    refine b_aload_n (pc := 38) C dX11_round_38 rfl 0 rfl ?_
    refine b_getS (pc := 39) C dX11_round_39 fl_X11_50 (Hh.1 _ _ sh_0) rfl ?_
    refine b_aload_n (pc := 42) C dX11_round_42 rfl 0 rfl ?_
    obtain ⟨hk7, hF⟩ := bif_y hF
    refine b_getR (pc := 43) C dX11_round_43 fl_X11_57 (Hh.1 _ _ sh_0) rfl ?_
    refine b_getS (pc := 46) C dX11_round_46 fl_X11_163 (Hh.1 _ _ (shR hk7)) rfl ?_
    obtain ⟨v10, σ9, hc8, hF⟩ := bbd_e hF
    refine b_cV1i (d' := (d + 2)) (pc := 49) C dX11_round_49 mm_X11_345 (Hh.1 _ _ sh_66) rfl (Nat.le_of_ble_eq_true rfl) (by omega) (Hh.2.2 _ _ _ _ _ _ _ _ _ (lvl_eq (by omega) (e_X1_step (d + 0) _ (kk_7_1 hk7) _ _ _ hc8))) ?_
    refine b_istore_n (L' := [(1, .int v10), (0, .ref 0)]) (pc := 52) C dX11_round_52 rfl rfl (Hh.2.1 _ (Nat.le_of_ble_eq_true rfl)) rfl ?_
    refine b_aload_n (pc := 53) C dX11_round_53 rfl 1 rfl ?_
    refine b_getS (pc := 54) C dX11_round_54 fl_X11_50 (Hh.1 _ _ sh_0) rfl ?_
    refine b_aload_n (pc := 57) C dX11_round_57 rfl 1 rfl ?_
    refine b_getS (pc := 58) C dX11_round_58 fl_X11_19 (Hh.1 _ _ sh_0) rfl ?_
    obtain ⟨σ12, hc11, hF⟩ := bbv_e hF
    refine b_cV1v (d' := (d + 2)) (pc := 61) C dX11_round_61 mm_X11_348 (Hh.1 _ _ sh_66) rfl (Nat.le_of_ble_eq_true rfl) (by omega) (Hh.2.2 _ _ _ _ _ _ _ _ _ (lvl_eq (by omega) (e_X1_tellTo (d + 2) _ (by decide) _ _ hc11))) ?_
    refine b_aload_n (pc := 64) C dX11_round_64 rfl 1 rfl ?_
    refine b_iload_n (pc := 65) C dX11_round_65 rfl 0 rfl ?_
    obtain ⟨v15, σ14, hc13, hF⟩ := bbd_e hF
    refine b_cV1i (d' := (d + 2)) (pc := 66) C dX11_round_66 mm_X11_124 (Hh.1 _ _ sh_0) rfl (Nat.le_of_ble_eq_true rfl) (by omega) (Hh.2.2 _ _ _ _ _ _ _ _ _ (lvl_eq (by omega) (e_X11_answered (d + 2) v10 _ _ _ hc13))) ?_
    exact b_iret (pc := 69) C Rt dX11_round_69 hF
  · rw [if_pos hc2] at hF
    refine b_aload_n (pc := 10) C dX11_round_10 rfl 0 rfl ?_
    refine b_iconst (pc := 11) C dX11_round_11 ic_1 ?_
    obtain ⟨v18, σ17, hc16, hF⟩ := bbd_e hF
    refine b_cV1i (d' := (d + 2)) (pc := 12) C dX11_round_12 mm_X11_75 (Hh.1 _ _ sh_0) rfl (Nat.le_of_ble_eq_true rfl) (by omega) (Hh.2.2 _ _ _ _ _ _ _ _ _ (lvl_eq (by omega) (e_X11_refused (d + 1) (1 : Int32) _ _ _ hc16))) ?_
    exact b_iret (pc := 15) C Rt dX11_round_15 hF
set_option maxHeartbeats 4000000 in
set_option maxRecDepth 20000 in
theorem e_X11_round {l : Launch} {G : bG} {ρ : Nat → Nat} {A : Nat → Prop} (d : Nat)  (σ : bSto) (r : Int32) (σ' : bSto) (hF : f_X11_round  σ = some (r, σ')) : bEv l G bSHf ρ A yX11_round cX11_round 2 (some .int) (d + 3) [.ref 0] σ (some (.int r)) σ' := b_met (d := d + 3) (by decide +kernel) (Nat.le_of_ble_eq_true rfl) rfl (fun X C Rt h1 h2 h3 => e_X11_round_0 C ⟨fun o q h => by rw [h1]; exact h, fun i h => by rw [h2]; exact h, h3⟩ Rt  _ hF)
/-! BenchColony.day -/
def f_X11_day  (σ : bSto) : Option (Int32 × bSto) := if kR (σ.2.2 0 7) then (if (σ.1 (σ.2.2 0 7) 4) = 0 then bbd (f_X11_refused (1 : Int32) σ) (fun v25 σ24 => some (v25, σ24)) else (if (σ.1 30 3) < (99 : Int32) then bbv (f_X6_keepAct 30 σ) (fun σ5 => if kR (σ5.2.2 0 7) then bbd (f_X2_firstEaters ((σ5.2.2 0 7) + 7) (σ5.1 30 2) σ5) (fun v9 σ8 => bbd (f_J6_bitCount_0f7a4 v9 σ8) (fun v12 σ11 => blet (bI σ11 30 2 ((σ8.1 30 2) - v12)) (fun σ13 => blet (bI σ13 30 3 ((σ13.1 30 3) + (1 : Int32))) (fun σ15 => bbd (f_X11_answered v9 σ15) (fun v19 σ18 => some (v19, σ18)))))) else none) else bbd (f_X11_refused (3 : Int32) σ) (fun v22 σ21 => some (v22, σ21)))) else none
set_option maxHeartbeats 4000000 in
set_option maxRecDepth 20000 in
theorem e_X11_day_0 {X : bX} {l : Launch} {G : bG} {ρ : Nat → Nat} {A : Nat → Prop} {d : Nat} {r : Int32} {σ' : bSto} (C : bCX X cX11_day RX11 (d + 3)) (Hh : bH X l G bSHf ρ A 2) (Rt : bRX X (some .int) (some (.int r)) σ')  (σ : bSto) (hF : f_X11_day  σ = some (r, σ')) : bAJ X 0 [(0, .ref 0)] [] σ := by
  rw [f_X11_day] at hF
  refine b_aload_n (pc := 0) C dX11_day_0 rfl 0 rfl ?_
  obtain ⟨hk1, hF⟩ := bif_y hF
  refine b_getR (pc := 1) C dX11_day_1 fl_X11_57 (Hh.1 _ _ sh_0) rfl ?_
  refine b_getI (pc := 4) C dX11_day_4 fl_X11_196 (Hh.1 _ _ (shR hk1)) rfl ?_
  refine b_if_ne (tgt := 16) (pc := 7) C dX11_day_7 rfl (fun hc2 => ?_) (fun hc2 => ?_)
  · rw [if_neg hc2] at hF
    refine b_aload_n (pc := 16) C dX11_day_16 rfl 0 rfl ?_
    refine b_getS (pc := 17) C dX11_day_17 fl_X11_19 (Hh.1 _ _ sh_0) rfl ?_
    refine b_getI (pc := 20) C dX11_day_20 fl_X11_351 (Hh.1 _ _ sh_30) rfl ?_
    refine b_bipush (pc := 23) C dX11_day_23 bp_99 ?_
    refine b_icmp_lt (tgt := 34) (pc := 25) C dX11_day_25 rfl (fun hc3 => ?_) (fun hc3 => ?_)
    · rw [if_pos hc3] at hF
      refine b_aload_n (pc := 34) C dX11_day_34 rfl 0 rfl ?_
      refine b_getS (pc := 35) C dX11_day_35 fl_X11_29 (Hh.1 _ _ sh_0) rfl ?_
      refine b_aload_n (pc := 38) C dX11_day_38 rfl 0 rfl ?_
      refine b_getS (pc := 39) C dX11_day_39 fl_X11_19 (Hh.1 _ _ sh_0) rfl ?_
      obtain ⟨σ5, hc4, hF⟩ := bbv_e hF
      refine b_cV1v (d' := (d + 2)) (pc := 42) C dX11_day_42 mm_X11_338 (Hh.1 _ _ sh_36) rfl (Nat.le_of_ble_eq_true rfl) (by omega) (Hh.2.2 _ _ _ _ _ _ _ _ _ (lvl_eq (by omega) (e_X6_keepAct (d + 1) _ (by decide) _ _ hc4))) ?_
      refine b_aload_n (pc := 45) C dX11_day_45 rfl 0 rfl ?_
      obtain ⟨hk6, hF⟩ := bif_y hF
      refine b_getR (pc := 46) C dX11_day_46 fl_X11_57 (Hh.1 _ _ sh_0) rfl ?_
      refine b_getS (pc := 49) C dX11_day_49 fl_X11_163 (Hh.1 _ _ (shR hk6)) rfl ?_
      refine b_aload_n (pc := 52) C dX11_day_52 rfl 0 rfl ?_
      refine b_getS (pc := 53) C dX11_day_53 fl_X11_19 (Hh.1 _ _ sh_0) rfl ?_
      refine b_getI (pc := 56) C dX11_day_56 fl_X11_250 (Hh.1 _ _ sh_30) rfl ?_
      obtain ⟨v9, σ8, hc7, hF⟩ := bbd_e hF
      refine b_cV1i (d' := (d + 2)) (pc := 59) C dX11_day_59 mm_X11_354 (Hh.1 _ _ (shF (kk_7_1 hk6))) rfl (Nat.le_of_ble_eq_true rfl) (by omega) (Hh.2.2 _ _ _ _ _ _ _ _ _ (lvl_eq (by omega) (e_X2_firstEaters (d + 0) _ (kk_7_1 hk6) (σ5.1 30 2) _ _ _ hc7))) ?_
      refine b_istore_n (L' := [(1, .int v9), (0, .ref 0)]) (pc := 62) C dX11_day_62 rfl rfl (Hh.2.1 _ (Nat.le_of_ble_eq_true rfl)) rfl ?_
      refine b_aload_n (pc := 63) C dX11_day_63 rfl 1 rfl ?_
      refine b_getS (pc := 64) C dX11_day_64 fl_X11_19 (Hh.1 _ _ sh_0) rfl ?_
      refine b_dup (pc := 67) C dX11_day_67 rfl ?_
      refine b_getI (pc := 68) C dX11_day_68 fl_X11_250 (Hh.1 _ _ sh_30) rfl ?_
      refine b_iload_n (pc := 71) C dX11_day_71 rfl 0 rfl ?_
      obtain ⟨v12, σ11, hc10, hF⟩ := bbd_e hF
      refine b_cS1i (d' := (d + 2)) (pc := 72) C dX11_day_72 mm_X11_326 (Nat.le_of_ble_eq_true rfl) (by omega) (Hh.2.2 _ _ _ _ _ _ _ _ _ (lvl_eq (by omega) (e_J6_bitCount_0f7a4 (d + 2) v9 _ _ _ hc10))) ?_
      refine b_isub (pc := 75) C dX11_day_75 ?_
      obtain ⟨σ13, e14, hF⟩ := blet_e hF
      refine b_putI (pc := 76) C dX11_day_76 fp_X11_250 (Hh.1 _ _ sh_30) rfl rfl rfl e14 ?_
      refine b_aload_n (pc := 79) C dX11_day_79 rfl 1 rfl ?_
      refine b_getS (pc := 80) C dX11_day_80 fl_X11_19 (Hh.1 _ _ sh_0) rfl ?_
      refine b_dup (pc := 83) C dX11_day_83 rfl ?_
      refine b_getI (pc := 84) C dX11_day_84 fl_X11_351 (Hh.1 _ _ sh_30) rfl ?_
      refine b_iconst (pc := 87) C dX11_day_87 ic_1 ?_
      refine b_iadd (pc := 88) C dX11_day_88 ?_
      obtain ⟨σ15, e16, hF⟩ := blet_e hF
      refine b_putI (pc := 89) C dX11_day_89 fp_X11_351 (Hh.1 _ _ sh_30) rfl rfl rfl e16 ?_
      refine b_aload_n (pc := 92) C dX11_day_92 rfl 1 rfl ?_
      refine b_iload_n (pc := 93) C dX11_day_93 rfl 0 rfl ?_
      obtain ⟨v19, σ18, hc17, hF⟩ := bbd_e hF
      refine b_cV1i (d' := (d + 2)) (pc := 94) C dX11_day_94 mm_X11_124 (Hh.1 _ _ sh_0) rfl (Nat.le_of_ble_eq_true rfl) (by omega) (Hh.2.2 _ _ _ _ _ _ _ _ _ (lvl_eq (by omega) (e_X11_answered (d + 2) v9 _ _ _ hc17))) ?_
      exact b_iret (pc := 97) C Rt dX11_day_97 hF
    · rw [if_neg hc3] at hF
      refine b_aload_n (pc := 28) C dX11_day_28 rfl 0 rfl ?_
      refine b_iconst (pc := 29) C dX11_day_29 ic_3 ?_
      obtain ⟨v22, σ21, hc20, hF⟩ := bbd_e hF
      refine b_cV1i (d' := (d + 2)) (pc := 30) C dX11_day_30 mm_X11_75 (Hh.1 _ _ sh_0) rfl (Nat.le_of_ble_eq_true rfl) (by omega) (Hh.2.2 _ _ _ _ _ _ _ _ _ (lvl_eq (by omega) (e_X11_refused (d + 1) (3 : Int32) _ _ _ hc20))) ?_
      exact b_iret (pc := 33) C Rt dX11_day_33 hF
  · rw [if_pos hc2] at hF
    refine b_aload_n (pc := 10) C dX11_day_10 rfl 0 rfl ?_
    refine b_iconst (pc := 11) C dX11_day_11 ic_1 ?_
    obtain ⟨v25, σ24, hc23, hF⟩ := bbd_e hF
    refine b_cV1i (d' := (d + 2)) (pc := 12) C dX11_day_12 mm_X11_75 (Hh.1 _ _ sh_0) rfl (Nat.le_of_ble_eq_true rfl) (by omega) (Hh.2.2 _ _ _ _ _ _ _ _ _ (lvl_eq (by omega) (e_X11_refused (d + 1) (1 : Int32) _ _ _ hc23))) ?_
    exact b_iret (pc := 15) C Rt dX11_day_15 hF
set_option maxHeartbeats 4000000 in
set_option maxRecDepth 20000 in
theorem e_X11_day {l : Launch} {G : bG} {ρ : Nat → Nat} {A : Nat → Prop} (d : Nat)  (σ : bSto) (r : Int32) (σ' : bSto) (hF : f_X11_day  σ = some (r, σ')) : bEv l G bSHf ρ A yX11_day cX11_day 2 (some .int) (d + 3) [.ref 0] σ (some (.int r)) σ' := b_met (d := d + 3) (by decide +kernel) (Nat.le_of_ble_eq_true rfl) rfl (fun X C Rt h1 h2 h3 => e_X11_day_0 C ⟨fun o q h => by rw [h1]; exact h, fun i h => by rw [h2]; exact h, h3⟩ Rt  _ hF)
/-! BenchColony.undo -/
def f_X11_undo  (σ : bSto) : Option (Int32 × bSto) := (if (σ.1 36 3) = 0 then bbd (f_X11_notDone (6 : Int32) σ) (fun v10 σ9 => if v10 = 0 ∨ v10 = 1 then some (v10, σ9) else none) else bbv (f_X6_takeBack 30 σ) (fun σ3 => bbd (f_X11_done  σ3) (fun v6 σ5 => if v6 = 0 ∨ v6 = 1 then some (v6, σ5) else none)))
set_option maxHeartbeats 4000000 in
set_option maxRecDepth 20000 in
theorem e_X11_undo_0 {X : bX} {l : Launch} {G : bG} {ρ : Nat → Nat} {A : Nat → Prop} {d : Nat} {r : Int32} {σ' : bSto} (C : bCX X cX11_undo RX11 (d + 2)) (Hh : bH X l G bSHf ρ A 1) (Rt : bRX X (some .boolean) (some (.int r)) σ')  (σ : bSto) (hF : f_X11_undo  σ = some (r, σ')) : bAJ X 0 [(0, .ref 0)] [] σ := by
  rw [f_X11_undo] at hF
  refine b_aload_n (pc := 0) C dX11_undo_0 rfl 0 rfl ?_
  refine b_getS (pc := 1) C dX11_undo_1 fl_X11_29 (Hh.1 _ _ sh_0) rfl ?_
  refine b_getI (pc := 4) C dX11_undo_4 fl_X11_357 (Hh.1 _ _ sh_36) rfl ?_
  refine b_if_ne (tgt := 17) (pc := 7) C dX11_undo_7 rfl (fun hc1 => ?_) (fun hc1 => ?_)
  · rw [if_neg hc1] at hF
    refine b_aload_n (pc := 17) C dX11_undo_17 rfl 0 rfl ?_
    refine b_getS (pc := 18) C dX11_undo_18 fl_X11_29 (Hh.1 _ _ sh_0) rfl ?_
    refine b_aload_n (pc := 21) C dX11_undo_21 rfl 0 rfl ?_
    refine b_getS (pc := 22) C dX11_undo_22 fl_X11_19 (Hh.1 _ _ sh_0) rfl ?_
    obtain ⟨σ3, hc2, hF⟩ := bbv_e hF
    refine b_cV1v (d' := (d + 1)) (pc := 25) C dX11_undo_25 mm_X11_360 (Hh.1 _ _ sh_36) rfl (Nat.le_of_ble_eq_true rfl) (by omega) (Hh.2.2 _ _ _ _ _ _ _ _ _ (lvl_eq (by omega) (e_X6_takeBack (d + 0) _ (by decide) _ _ hc2))) ?_
    refine b_aload_n (pc := 28) C dX11_undo_28 rfl 0 rfl ?_
    obtain ⟨v6, σ5, hc4, hF⟩ := bbd_e hF
    refine b_cV0i (d' := (d + 1)) (pc := 29) C dX11_undo_29 mm_X11_341 (Hh.1 _ _ sh_0) rfl (Nat.le_of_ble_eq_true rfl) (by omega) (Hh.2.2 _ _ _ _ _ _ _ _ _ (lvl_eq (by omega) (e_X11_done (d + 1)  _ _ _ hc4))) ?_
    obtain ⟨hz7, hF⟩ := bif_y hF
    exact b_zret (pc := 32) C Rt dX11_undo_32 (bz_n hz7) hF
  · rw [if_pos hc1] at hF
    refine b_aload_n (pc := 10) C dX11_undo_10 rfl 0 rfl ?_
    refine b_bipush (pc := 11) C dX11_undo_11 bp_6 ?_
    obtain ⟨v10, σ9, hc8, hF⟩ := bbd_e hF
    refine b_cV1i (d' := (d + 1)) (pc := 13) C dX11_undo_13 mm_X11_331 (Hh.1 _ _ sh_0) rfl (Nat.le_of_ble_eq_true rfl) (by omega) (Hh.2.2 _ _ _ _ _ _ _ _ _ (lvl_eq (by omega) (e_X11_notDone (d + 1) (6 : Int32) _ _ _ hc8))) ?_
    obtain ⟨hz11, hF⟩ := bif_y hF
    exact b_zret (pc := 16) C Rt dX11_undo_16 (bz_n hz11) hF
set_option maxHeartbeats 4000000 in
set_option maxRecDepth 20000 in
theorem e_X11_undo {l : Launch} {G : bG} {ρ : Nat → Nat} {A : Nat → Prop} (d : Nat)  (σ : bSto) (r : Int32) (σ' : bSto) (hF : f_X11_undo  σ = some (r, σ')) : bEv l G bSHf ρ A yX11_undo cX11_undo 1 (some .boolean) (d + 2) [.ref 0] σ (some (.int r)) σ' := b_met (d := d + 2) (by decide +kernel) (Nat.le_of_ble_eq_true rfl) rfl (fun X C Rt h1 h2 h3 => e_X11_undo_0 C ⟨fun o q h => by rw [h1]; exact h, fun i h => by rw [h2]; exact h, h3⟩ Rt  _ hF)
/-! BenchColony.image -/
def f_X11_image  (σ : bSto) : Option (Int32 × bSto) := if kR (σ.2.2 0 7) then (if (σ.1 (σ.2.2 0 7) 4) = 0 then bbd (f_X11_refused (1 : Int32) σ) (fun v15 σ14 => some (v15, σ14)) else (if (σ.1 36 4) < (3 : Int32) then bbd (f_X6_keepImage 30 σ) (fun v6 σ5 => bbd (f_X11_answered v6 σ5) (fun v9 σ8 => some (v9, σ8))) else bbd (f_X11_refused (3 : Int32) σ) (fun v12 σ11 => some (v12, σ11)))) else none
set_option maxHeartbeats 4000000 in
set_option maxRecDepth 20000 in
theorem e_X11_image_0 {X : bX} {l : Launch} {G : bG} {ρ : Nat → Nat} {A : Nat → Prop} {d : Nat} {r : Int32} {σ' : bSto} (C : bCX X cX11_image RX11 (d + 2)) (Hh : bH X l G bSHf ρ A 1) (Rt : bRX X (some .int) (some (.int r)) σ')  (σ : bSto) (hF : f_X11_image  σ = some (r, σ')) : bAJ X 0 [(0, .ref 0)] [] σ := by
  rw [f_X11_image] at hF
  refine b_aload_n (pc := 0) C dX11_image_0 rfl 0 rfl ?_
  obtain ⟨hk1, hF⟩ := bif_y hF
  refine b_getR (pc := 1) C dX11_image_1 fl_X11_57 (Hh.1 _ _ sh_0) rfl ?_
  refine b_getI (pc := 4) C dX11_image_4 fl_X11_196 (Hh.1 _ _ (shR hk1)) rfl ?_
  refine b_if_ne (tgt := 16) (pc := 7) C dX11_image_7 rfl (fun hc2 => ?_) (fun hc2 => ?_)
  · rw [if_neg hc2] at hF
    refine b_aload_n (pc := 16) C dX11_image_16 rfl 0 rfl ?_
    refine b_getS (pc := 17) C dX11_image_17 fl_X11_29 (Hh.1 _ _ sh_0) rfl ?_
    refine b_getI (pc := 20) C dX11_image_20 fl_X11_363 (Hh.1 _ _ sh_36) rfl ?_
    refine b_iconst (pc := 23) C dX11_image_23 ic_3 ?_
    refine b_icmp_lt (tgt := 33) (pc := 24) C dX11_image_24 rfl (fun hc3 => ?_) (fun hc3 => ?_)
    · rw [if_pos hc3] at hF
      refine b_aload_n (pc := 33) C dX11_image_33 rfl 0 rfl ?_
      refine b_aload_n (pc := 34) C dX11_image_34 rfl 0 rfl ?_
      refine b_getS (pc := 35) C dX11_image_35 fl_X11_29 (Hh.1 _ _ sh_0) rfl ?_
      refine b_aload_n (pc := 38) C dX11_image_38 rfl 0 rfl ?_
      refine b_getS (pc := 39) C dX11_image_39 fl_X11_19 (Hh.1 _ _ sh_0) rfl ?_
      obtain ⟨v6, σ5, hc4, hF⟩ := bbd_e hF
      refine b_cV1i (d' := (d + 1)) (pc := 42) C dX11_image_42 mm_X11_366 (Hh.1 _ _ sh_36) rfl (Nat.le_of_ble_eq_true rfl) (by omega) (Hh.2.2 _ _ _ _ _ _ _ _ _ (lvl_eq (by omega) (e_X6_keepImage (d + 0) _ (by decide) _ _ _ hc4))) ?_
      obtain ⟨v9, σ8, hc7, hF⟩ := bbd_e hF
      refine b_cV1i (d' := (d + 1)) (pc := 45) C dX11_image_45 mm_X11_124 (Hh.1 _ _ sh_0) rfl (Nat.le_of_ble_eq_true rfl) (by omega) (Hh.2.2 _ _ _ _ _ _ _ _ _ (lvl_eq (by omega) (e_X11_answered (d + 1) v6 _ _ _ hc7))) ?_
      exact b_iret (pc := 48) C Rt dX11_image_48 hF
    · rw [if_neg hc3] at hF
      refine b_aload_n (pc := 27) C dX11_image_27 rfl 0 rfl ?_
      refine b_iconst (pc := 28) C dX11_image_28 ic_3 ?_
      obtain ⟨v12, σ11, hc10, hF⟩ := bbd_e hF
      refine b_cV1i (d' := (d + 1)) (pc := 29) C dX11_image_29 mm_X11_75 (Hh.1 _ _ sh_0) rfl (Nat.le_of_ble_eq_true rfl) (by omega) (Hh.2.2 _ _ _ _ _ _ _ _ _ (lvl_eq (by omega) (e_X11_refused (d + 0) (3 : Int32) _ _ _ hc10))) ?_
      exact b_iret (pc := 32) C Rt dX11_image_32 hF
  · rw [if_pos hc2] at hF
    refine b_aload_n (pc := 10) C dX11_image_10 rfl 0 rfl ?_
    refine b_iconst (pc := 11) C dX11_image_11 ic_1 ?_
    obtain ⟨v15, σ14, hc13, hF⟩ := bbd_e hF
    refine b_cV1i (d' := (d + 1)) (pc := 12) C dX11_image_12 mm_X11_75 (Hh.1 _ _ sh_0) rfl (Nat.le_of_ble_eq_true rfl) (by omega) (Hh.2.2 _ _ _ _ _ _ _ _ _ (lvl_eq (by omega) (e_X11_refused (d + 0) (1 : Int32) _ _ _ hc13))) ?_
    exact b_iret (pc := 15) C Rt dX11_image_15 hF
set_option maxHeartbeats 4000000 in
set_option maxRecDepth 20000 in
theorem e_X11_image {l : Launch} {G : bG} {ρ : Nat → Nat} {A : Nat → Prop} (d : Nat)  (σ : bSto) (r : Int32) (σ' : bSto) (hF : f_X11_image  σ = some (r, σ')) : bEv l G bSHf ρ A yX11_image cX11_image 1 (some .int) (d + 2) [.ref 0] σ (some (.int r)) σ' := b_met (d := d + 2) (by decide +kernel) (Nat.le_of_ble_eq_true rfl) rfl (fun X C Rt h1 h2 h3 => e_X11_image_0 C ⟨fun o q h => by rw [h1]; exact h, fun i h => by rw [h2]; exact h, h3⟩ Rt  _ hF)
/-! BenchColony.back -/
def f_X11_back_J15  (σ : bSto) : Option (Int32 × bSto) := bbd (f_X11_notDone (1 : Int32) σ) (fun v3 σ2 => if v3 = 0 ∨ v3 = 1 then some (v3, σ2) else none)
def f_X11_back (x1 : Int32) (σ : bSto) : Option (Int32 × bSto) := (if x1 < 0 then f_X11_back_J15  σ else (if x1 < (σ.1 36 4) then bbv (f_X6_goTo x1 30 σ) (fun σ4 => bbd (f_X11_done  σ4) (fun v7 σ6 => if v7 = 0 ∨ v7 = 1 then some (v7, σ6) else none)) else f_X11_back_J15  σ))
set_option maxHeartbeats 4000000 in
set_option maxRecDepth 20000 in
theorem e_X11_back_J15 {X : bX} {l : Launch} {G : bG} {ρ : Nat → Nat} {A : Nat → Prop} {d : Nat} {r : Int32} {σ' : bSto} (C : bCX X cX11_back RX11 (d + 2)) (Hh : bH X l G bSHf ρ A 2) (Rt : bRX X (some .boolean) (some (.int r)) σ')  (σ : bSto) (hF : f_X11_back_J15  σ = some (r, σ')) : bAJ X 15 [(0, .ref 0)] [] σ := by
  rw [f_X11_back_J15] at hF
  refine b_aload_n (pc := 15) C dX11_back_15 rfl 0 rfl ?_
  refine b_iconst (pc := 16) C dX11_back_16 ic_1 ?_
  obtain ⟨v3, σ2, hc1, hF⟩ := bbd_e hF
  refine b_cV1i (d' := (d + 1)) (pc := 17) C dX11_back_17 mm_X11_331 (Hh.1 _ _ sh_0) rfl (Nat.le_of_ble_eq_true rfl) (by omega) (Hh.2.2 _ _ _ _ _ _ _ _ _ (lvl_eq (by omega) (e_X11_notDone (d + 1) (1 : Int32) _ _ _ hc1))) ?_
  obtain ⟨hz4, hF⟩ := bif_y hF
  exact b_zret (pc := 20) C Rt dX11_back_20 (bz_n hz4) hF
set_option maxHeartbeats 4000000 in
set_option maxRecDepth 20000 in
theorem e_X11_back_0 {X : bX} {l : Launch} {G : bG} {ρ : Nat → Nat} {A : Nat → Prop} {d : Nat} {r : Int32} {σ' : bSto} (C : bCX X cX11_back RX11 (d + 2)) (Hh : bH X l G bSHf ρ A 2) (Rt : bRX X (some .boolean) (some (.int r)) σ') (x1 : Int32) (σ : bSto) (hF : f_X11_back x1 σ = some (r, σ')) : bAJ X 0 [(0, .ref 0), (1, .int x1)] [] σ := by
  rw [f_X11_back] at hF
  refine b_iload_n (pc := 0) C dX11_back_0 rfl 1 rfl ?_
  refine b_if_lt (tgt := 15) (pc := 1) C dX11_back_1 rfl (fun hc1 => ?_) (fun hc1 => ?_)
  · rw [if_pos hc1] at hF
    exact b_sub [0] rfl (e_X11_back_J15 C Hh Rt  _ hF)
  · rw [if_neg hc1] at hF
    refine b_iload_n (pc := 4) C dX11_back_4 rfl 1 rfl ?_
    refine b_aload_n (pc := 5) C dX11_back_5 rfl 0 rfl ?_
    refine b_getS (pc := 6) C dX11_back_6 fl_X11_29 (Hh.1 _ _ sh_0) rfl ?_
    refine b_getI (pc := 9) C dX11_back_9 fl_X11_363 (Hh.1 _ _ sh_36) rfl ?_
    refine b_icmp_lt (tgt := 21) (pc := 12) C dX11_back_12 rfl (fun hc2 => ?_) (fun hc2 => ?_)
    · rw [if_pos hc2] at hF
      refine b_aload_n (pc := 21) C dX11_back_21 rfl 0 rfl ?_
      refine b_getS (pc := 22) C dX11_back_22 fl_X11_29 (Hh.1 _ _ sh_0) rfl ?_
      refine b_iload_n (pc := 25) C dX11_back_25 rfl 1 rfl ?_
      refine b_aload_n (pc := 26) C dX11_back_26 rfl 0 rfl ?_
      refine b_getS (pc := 27) C dX11_back_27 fl_X11_19 (Hh.1 _ _ sh_0) rfl ?_
      obtain ⟨σ4, hc3, hF⟩ := bbv_e hF
      refine b_cV2v (d' := (d + 1)) (pc := 30) C dX11_back_30 mm_X11_369 (Hh.1 _ _ sh_36) rfl (Nat.le_of_ble_eq_true rfl) (by omega) (Hh.2.2 _ _ _ _ _ _ _ _ _ (lvl_eq (by omega) (e_X6_goTo (d + 0) x1 _ (by decide) _ _ hc3))) ?_
      refine b_aload_n (pc := 33) C dX11_back_33 rfl 0 rfl ?_
      obtain ⟨v7, σ6, hc5, hF⟩ := bbd_e hF
      refine b_cV0i (d' := (d + 1)) (pc := 34) C dX11_back_34 mm_X11_341 (Hh.1 _ _ sh_0) rfl (Nat.le_of_ble_eq_true rfl) (by omega) (Hh.2.2 _ _ _ _ _ _ _ _ _ (lvl_eq (by omega) (e_X11_done (d + 1)  _ _ _ hc5))) ?_
      obtain ⟨hz8, hF⟩ := bif_y hF
      exact b_zret (pc := 37) C Rt dX11_back_37 (bz_n hz8) hF
    · rw [if_neg hc2] at hF
      exact b_sub [0] rfl (e_X11_back_J15 C Hh Rt  _ hF)
set_option maxHeartbeats 4000000 in
set_option maxRecDepth 20000 in
theorem e_X11_back {l : Launch} {G : bG} {ρ : Nat → Nat} {A : Nat → Prop} (d : Nat) (x1 : Int32) (σ : bSto) (r : Int32) (σ' : bSto) (hF : f_X11_back x1 σ = some (r, σ')) : bEv l G bSHf ρ A yX11_back cX11_back 2 (some .boolean) (d + 2) [.ref 0, .int x1] σ (some (.int r)) σ' := b_met (d := d + 2) (by decide +kernel) (Nat.le_of_ble_eq_true rfl) rfl (fun X C Rt h1 h2 h3 => e_X11_back_0 C ⟨fun o q h => by rw [h1]; exact h, fun i h => by rw [h2]; exact h, h3⟩ Rt _ _ hF)
/-! BenchColony.size -/
def f_X11_size (x1 : Int32) (σ : bSto) : Option (Int32 × bSto) := (if x1 = (0 : Int32) then if kR (σ.2.2 0 7) then some ((σ.1 ((σ.2.2 0 7) + 1) 6), σ) else none else (if x1 = (1 : Int32) then if kR (σ.2.2 0 7) then some ((σ.1 ((σ.2.2 0 7) + 1) 7), σ) else none else (if x1 = (2 : Int32) then if kR (σ.2.2 0 7) then some ((σ.1 ((σ.2.2 0 7) + 1) 10), σ) else none else (if x1 = (3 : Int32) then if kR (σ.2.2 0 7) then some ((σ.1 ((σ.2.2 0 7) + 1) 5), σ) else none else (if x1 = (4 : Int32) then if kR (σ.2.2 0 7) then some ((σ.1 ((σ.2.2 0 7) + 7) 7), σ) else none else (if x1 = (5 : Int32) then if kR (σ.2.2 0 7) then some ((σ.1 ((σ.2.2 0 7) + 7) 8), σ) else none else (if x1 = (6 : Int32) then if kR (σ.2.2 0 7) then some ((σ.1 ((σ.2.2 0 7) + 7) 9), σ) else none else (if x1 = (7 : Int32) then if kR (σ.2.2 0 7) then some ((σ.1 ((σ.2.2 0 7) + 15) 5), σ) else none else (if x1 = (8 : Int32) then if kR (σ.2.2 0 7) then bbd (f_X10_quietCount ((σ.2.2 0 7) + 15) σ) (fun v21 σ20 => some (v21, σ20)) else none else (if x1 = (9 : Int32) then some ((σ.1 30 2), σ) else (if x1 = (10 : Int32) then some ((σ.1 30 3), σ) else (if x1 = (11 : Int32) then some ((σ.1 36 3), σ) else (if x1 = (12 : Int32) then some ((σ.1 36 4), σ) else (if x1 = (13 : Int32) then some ((σ.1 2 1), σ) else some ((-1 : Int32), σ)))))))))))))))
set_option maxHeartbeats 4000000 in
set_option maxRecDepth 20000 in
theorem e_X11_size_0 {X : bX} {l : Launch} {G : bG} {ρ : Nat → Nat} {A : Nat → Prop} {d : Nat} {r : Int32} {σ' : bSto} (C : bCX X cX11_size RX11 (d + 1)) (Hh : bH X l G bSHf ρ A 2) (Rt : bRX X (some .int) (some (.int r)) σ') (x1 : Int32) (σ : bSto) (hF : f_X11_size x1 σ = some (r, σ')) : bAJ X 0 [(0, .ref 0), (1, .int x1)] [] σ := by
  rw [f_X11_size] at hF
  refine b_iload_n (pc := 0) C dX11_size_0 rfl 1 rfl ?_
  by_cases hc1 : x1 = (0 : Int32)
  · rw [if_pos hc1] at hF
    refine b_tabIn (tgt := 72) (pc := 1) C dX11_size_1 hc1 (kI := 0) (by decide) (by decide) (by decide) rfl rfl ?_
    refine b_aload_n (pc := 72) C dX11_size_72 rfl 0 rfl ?_
    obtain ⟨hk2, hF⟩ := bif_y hF
    refine b_getR (pc := 73) C dX11_size_73 fl_X11_57 (Hh.1 _ _ sh_0) rfl ?_
    refine b_getS (pc := 76) C dX11_size_76 fl_X11_115 (Hh.1 _ _ (shR hk2)) rfl ?_
    refine b_getI (pc := 79) C dX11_size_79 fl_X11_376 (Hh.1 _ _ (shH (kk_7_0 hk2))) rfl ?_
    exact b_iret (pc := 82) C Rt dX11_size_82 hF
  rw [if_neg hc1] at hF
  by_cases hc3 : x1 = (1 : Int32)
  · rw [if_pos hc3] at hF
    refine b_tabIn (tgt := 83) (pc := 1) C dX11_size_1 hc3 (kI := 1) (by decide) (by decide) (by decide) rfl rfl ?_
    refine b_aload_n (pc := 83) C dX11_size_83 rfl 0 rfl ?_
    obtain ⟨hk4, hF⟩ := bif_y hF
    refine b_getR (pc := 84) C dX11_size_84 fl_X11_57 (Hh.1 _ _ sh_0) rfl ?_
    refine b_getS (pc := 87) C dX11_size_87 fl_X11_115 (Hh.1 _ _ (shR hk4)) rfl ?_
    refine b_getI (pc := 90) C dX11_size_90 fl_X11_379 (Hh.1 _ _ (shH (kk_7_0 hk4))) rfl ?_
    exact b_iret (pc := 93) C Rt dX11_size_93 hF
  rw [if_neg hc3] at hF
  by_cases hc5 : x1 = (2 : Int32)
  · rw [if_pos hc5] at hF
    refine b_tabIn (tgt := 94) (pc := 1) C dX11_size_1 hc5 (kI := 2) (by decide) (by decide) (by decide) rfl rfl ?_
    refine b_aload_n (pc := 94) C dX11_size_94 rfl 0 rfl ?_
    obtain ⟨hk6, hF⟩ := bif_y hF
    refine b_getR (pc := 95) C dX11_size_95 fl_X11_57 (Hh.1 _ _ sh_0) rfl ?_
    refine b_getS (pc := 98) C dX11_size_98 fl_X11_115 (Hh.1 _ _ (shR hk6)) rfl ?_
    refine b_getI (pc := 101) C dX11_size_101 fl_X11_149 (Hh.1 _ _ (shH (kk_7_0 hk6))) rfl ?_
    exact b_iret (pc := 104) C Rt dX11_size_104 hF
  rw [if_neg hc5] at hF
  by_cases hc7 : x1 = (3 : Int32)
  · rw [if_pos hc7] at hF
    refine b_tabIn (tgt := 105) (pc := 1) C dX11_size_1 hc7 (kI := 3) (by decide) (by decide) (by decide) rfl rfl ?_
    refine b_aload_n (pc := 105) C dX11_size_105 rfl 0 rfl ?_
    obtain ⟨hk8, hF⟩ := bif_y hF
    refine b_getR (pc := 106) C dX11_size_106 fl_X11_57 (Hh.1 _ _ sh_0) rfl ?_
    refine b_getS (pc := 109) C dX11_size_109 fl_X11_115 (Hh.1 _ _ (shR hk8)) rfl ?_
    refine b_getI (pc := 112) C dX11_size_112 fl_X11_119 (Hh.1 _ _ (shH (kk_7_0 hk8))) rfl ?_
    exact b_iret (pc := 115) C Rt dX11_size_115 hF
  rw [if_neg hc7] at hF
  by_cases hc9 : x1 = (4 : Int32)
  · rw [if_pos hc9] at hF
    refine b_tabIn (tgt := 116) (pc := 1) C dX11_size_1 hc9 (kI := 4) (by decide) (by decide) (by decide) rfl rfl ?_
    refine b_aload_n (pc := 116) C dX11_size_116 rfl 0 rfl ?_
    obtain ⟨hk10, hF⟩ := bif_y hF
    refine b_getR (pc := 117) C dX11_size_117 fl_X11_57 (Hh.1 _ _ sh_0) rfl ?_
    refine b_getS (pc := 120) C dX11_size_120 fl_X11_163 (Hh.1 _ _ (shR hk10)) rfl ?_
    refine b_getI (pc := 123) C dX11_size_123 fl_X11_249 (Hh.1 _ _ (shF (kk_7_1 hk10))) rfl ?_
    exact b_iret (pc := 126) C Rt dX11_size_126 hF
  rw [if_neg hc9] at hF
  by_cases hc11 : x1 = (5 : Int32)
  · rw [if_pos hc11] at hF
    refine b_tabIn (tgt := 127) (pc := 1) C dX11_size_1 hc11 (kI := 5) (by decide) (by decide) (by decide) rfl rfl ?_
    refine b_aload_n (pc := 127) C dX11_size_127 rfl 0 rfl ?_
    obtain ⟨hk12, hF⟩ := bif_y hF
    refine b_getR (pc := 128) C dX11_size_128 fl_X11_57 (Hh.1 _ _ sh_0) rfl ?_
    refine b_getS (pc := 131) C dX11_size_131 fl_X11_163 (Hh.1 _ _ (shR hk12)) rfl ?_
    refine b_getI (pc := 134) C dX11_size_134 fl_X11_382 (Hh.1 _ _ (shF (kk_7_1 hk12))) rfl ?_
    exact b_iret (pc := 137) C Rt dX11_size_137 hF
  rw [if_neg hc11] at hF
  by_cases hc13 : x1 = (6 : Int32)
  · rw [if_pos hc13] at hF
    refine b_tabIn (tgt := 138) (pc := 1) C dX11_size_1 hc13 (kI := 6) (by decide) (by decide) (by decide) rfl rfl ?_
    refine b_aload_n (pc := 138) C dX11_size_138 rfl 0 rfl ?_
    obtain ⟨hk14, hF⟩ := bif_y hF
    refine b_getR (pc := 139) C dX11_size_139 fl_X11_57 (Hh.1 _ _ sh_0) rfl ?_
    refine b_getS (pc := 142) C dX11_size_142 fl_X11_163 (Hh.1 _ _ (shR hk14)) rfl ?_
    refine b_getI (pc := 145) C dX11_size_145 fl_X11_385 (Hh.1 _ _ (shF (kk_7_1 hk14))) rfl ?_
    exact b_iret (pc := 148) C Rt dX11_size_148 hF
  rw [if_neg hc13] at hF
  by_cases hc15 : x1 = (7 : Int32)
  · rw [if_pos hc15] at hF
    refine b_tabIn (tgt := 149) (pc := 1) C dX11_size_1 hc15 (kI := 7) (by decide) (by decide) (by decide) rfl rfl ?_
    refine b_aload_n (pc := 149) C dX11_size_149 rfl 0 rfl ?_
    obtain ⟨hk16, hF⟩ := bif_y hF
    refine b_getR (pc := 150) C dX11_size_150 fl_X11_57 (Hh.1 _ _ sh_0) rfl ?_
    refine b_getS (pc := 153) C dX11_size_153 fl_X11_96 (Hh.1 _ _ (shR hk16)) rfl ?_
    refine b_getI (pc := 156) C dX11_size_156 fl_X11_388 (Hh.1 _ _ (shT (kk_7_2 hk16))) rfl ?_
    exact b_iret (pc := 159) C Rt dX11_size_159 hF
  rw [if_neg hc15] at hF
  by_cases hc17 : x1 = (8 : Int32)
  · rw [if_pos hc17] at hF
    refine b_tabIn (tgt := 160) (pc := 1) C dX11_size_1 hc17 (kI := 8) (by decide) (by decide) (by decide) rfl rfl ?_
    refine b_aload_n (pc := 160) C dX11_size_160 rfl 0 rfl ?_
    obtain ⟨hk18, hF⟩ := bif_y hF
    refine b_getR (pc := 161) C dX11_size_161 fl_X11_57 (Hh.1 _ _ sh_0) rfl ?_
    refine b_getS (pc := 164) C dX11_size_164 fl_X11_96 (Hh.1 _ _ (shR hk18)) rfl ?_
    obtain ⟨v21, σ20, hc19, hF⟩ := bbd_e hF
    refine b_cV0i (d' := (d + 0)) (pc := 167) C dX11_size_167 mm_X11_391 (Hh.1 _ _ (shT (kk_7_2 hk18))) rfl (Nat.le_of_ble_eq_true rfl) (by omega) (Hh.2.2 _ _ _ _ _ _ _ _ _ (lvl_eq (by omega) (e_X10_quietCount (d + 0) _ (kk_7_2 hk18) _ _ _ hc19))) ?_
    exact b_iret (pc := 170) C Rt dX11_size_170 hF
  rw [if_neg hc17] at hF
  by_cases hc22 : x1 = (9 : Int32)
  · rw [if_pos hc22] at hF
    refine b_tabIn (tgt := 171) (pc := 1) C dX11_size_1 hc22 (kI := 9) (by decide) (by decide) (by decide) rfl rfl ?_
    refine b_aload_n (pc := 171) C dX11_size_171 rfl 0 rfl ?_
    refine b_getS (pc := 172) C dX11_size_172 fl_X11_19 (Hh.1 _ _ sh_0) rfl ?_
    refine b_getI (pc := 175) C dX11_size_175 fl_X11_250 (Hh.1 _ _ sh_30) rfl ?_
    exact b_iret (pc := 178) C Rt dX11_size_178 hF
  rw [if_neg hc22] at hF
  by_cases hc23 : x1 = (10 : Int32)
  · rw [if_pos hc23] at hF
    refine b_tabIn (tgt := 179) (pc := 1) C dX11_size_1 hc23 (kI := 10) (by decide) (by decide) (by decide) rfl rfl ?_
    refine b_aload_n (pc := 179) C dX11_size_179 rfl 0 rfl ?_
    refine b_getS (pc := 180) C dX11_size_180 fl_X11_19 (Hh.1 _ _ sh_0) rfl ?_
    refine b_getI (pc := 183) C dX11_size_183 fl_X11_351 (Hh.1 _ _ sh_30) rfl ?_
    exact b_iret (pc := 186) C Rt dX11_size_186 hF
  rw [if_neg hc23] at hF
  by_cases hc24 : x1 = (11 : Int32)
  · rw [if_pos hc24] at hF
    refine b_tabIn (tgt := 187) (pc := 1) C dX11_size_1 hc24 (kI := 11) (by decide) (by decide) (by decide) rfl rfl ?_
    refine b_aload_n (pc := 187) C dX11_size_187 rfl 0 rfl ?_
    refine b_getS (pc := 188) C dX11_size_188 fl_X11_29 (Hh.1 _ _ sh_0) rfl ?_
    refine b_getI (pc := 191) C dX11_size_191 fl_X11_357 (Hh.1 _ _ sh_36) rfl ?_
    exact b_iret (pc := 194) C Rt dX11_size_194 hF
  rw [if_neg hc24] at hF
  by_cases hc25 : x1 = (12 : Int32)
  · rw [if_pos hc25] at hF
    refine b_tabIn (tgt := 195) (pc := 1) C dX11_size_1 hc25 (kI := 12) (by decide) (by decide) (by decide) rfl rfl ?_
    refine b_aload_n (pc := 195) C dX11_size_195 rfl 0 rfl ?_
    refine b_getS (pc := 196) C dX11_size_196 fl_X11_29 (Hh.1 _ _ sh_0) rfl ?_
    refine b_getI (pc := 199) C dX11_size_199 fl_X11_363 (Hh.1 _ _ sh_36) rfl ?_
    exact b_iret (pc := 202) C Rt dX11_size_202 hF
  rw [if_neg hc25] at hF
  by_cases hc26 : x1 = (13 : Int32)
  · rw [if_pos hc26] at hF
    refine b_tabIn (tgt := 203) (pc := 1) C dX11_size_1 hc26 (kI := 13) (by decide) (by decide) (by decide) rfl rfl ?_
    refine b_aload_n (pc := 203) C dX11_size_203 rfl 0 rfl ?_
    refine b_getS (pc := 204) C dX11_size_204 fl_X11_10 (Hh.1 _ _ sh_0) rfl ?_
    refine b_getS (pc := 207) C dX11_size_207 fl_X11_61 (Hh.1 _ _ sh_1) rfl ?_
    refine b_getI (pc := 210) C dX11_size_210 fl_X11_65 (Hh.1 _ _ sh_2) rfl ?_
    exact b_iret (pc := 213) C Rt dX11_size_213 hF
  rw [if_neg hc26] at hF
  have hn27_0 := lv_neT hc1 (show ((0 : Int32)).toInt = 0 from by decide)
  have hn27_1 := lv_neT hc3 (show ((1 : Int32)).toInt = 1 from by decide)
  have hn27_2 := lv_neT hc5 (show ((2 : Int32)).toInt = 2 from by decide)
  have hn27_3 := lv_neT hc7 (show ((3 : Int32)).toInt = 3 from by decide)
  have hn27_4 := lv_neT hc9 (show ((4 : Int32)).toInt = 4 from by decide)
  have hn27_5 := lv_neT hc11 (show ((5 : Int32)).toInt = 5 from by decide)
  have hn27_6 := lv_neT hc13 (show ((6 : Int32)).toInt = 6 from by decide)
  have hn27_7 := lv_neT hc15 (show ((7 : Int32)).toInt = 7 from by decide)
  have hn27_8 := lv_neT hc17 (show ((8 : Int32)).toInt = 8 from by decide)
  have hn27_9 := lv_neT hc22 (show ((9 : Int32)).toInt = 9 from by decide)
  have hn27_10 := lv_neT hc23 (show ((10 : Int32)).toInt = 10 from by decide)
  have hn27_11 := lv_neT hc24 (show ((11 : Int32)).toInt = 11 from by decide)
  have hn27_12 := lv_neT hc25 (show ((12 : Int32)).toInt = 12 from by decide)
  have hn27_13 := lv_neT hc26 (show ((13 : Int32)).toInt = 13 from by decide)
  refine b_tabOut (tgt := 214) (pc := 1) C dX11_size_1 (by omega) rfl ?_
  refine b_iconst (pc := 214) C dX11_size_214 ic_m1 ?_
  exact b_iret (pc := 215) C Rt dX11_size_215 hF
set_option maxHeartbeats 4000000 in
set_option maxRecDepth 20000 in
theorem e_X11_size {l : Launch} {G : bG} {ρ : Nat → Nat} {A : Nat → Prop} (d : Nat) (x1 : Int32) (σ : bSto) (r : Int32) (σ' : bSto) (hF : f_X11_size x1 σ = some (r, σ')) : bEv l G bSHf ρ A yX11_size cX11_size 2 (some .int) (d + 1) [.ref 0, .int x1] σ (some (.int r)) σ' := b_met (d := d + 1) (by decide +kernel) (Nat.le_of_ble_eq_true rfl) rfl (fun X C Rt h1 h2 h3 => e_X11_size_0 C ⟨fun o q h => by rw [h1]; exact h, fun i h => by rw [h2]; exact h, h3⟩ Rt _ _ hF)
/-! BenchColony.trouble -/
def f_X11_trouble  (σ : bSto) : Option (Int32 × bSto) := some ((σ.1 0 8), σ)
set_option maxHeartbeats 4000000 in
set_option maxRecDepth 20000 in
theorem e_X11_trouble_0 {X : bX} {l : Launch} {G : bG} {ρ : Nat → Nat} {A : Nat → Prop} {d : Nat} {r : Int32} {σ' : bSto} (C : bCX X cX11_trouble RX11 (d + 0)) (Hh : bH X l G bSHf ρ A 1) (Rt : bRX X (some .int) (some (.int r)) σ')  (σ : bSto) (hF : f_X11_trouble  σ = some (r, σ')) : bAJ X 0 [(0, .ref 0)] [] σ := by
  rw [f_X11_trouble] at hF
  refine b_aload_n (pc := 0) C dX11_trouble_0 rfl 0 rfl ?_
  refine b_getI (pc := 1) C dX11_trouble_1 fl_X11_127 (Hh.1 _ _ sh_0) rfl ?_
  exact b_iret (pc := 4) C Rt dX11_trouble_4 hF
set_option maxHeartbeats 4000000 in
set_option maxRecDepth 20000 in
theorem e_X11_trouble {l : Launch} {G : bG} {ρ : Nat → Nat} {A : Nat → Prop} (d : Nat)  (σ : bSto) (r : Int32) (σ' : bSto) (hF : f_X11_trouble  σ = some (r, σ')) : bEv l G bSHf ρ A yX11_trouble cX11_trouble 1 (some .int) (d + 0) [.ref 0] σ (some (.int r)) σ' := b_met (d := d + 0) (by decide +kernel) (Nat.le_of_ble_eq_true rfl) rfl (fun X C Rt h1 h2 h3 => e_X11_trouble_0 C ⟨fun o q h => by rw [h1]; exact h, fun i h => by rw [h2]; exact h, h3⟩ Rt  _ hF)
