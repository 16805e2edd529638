/-! ===== led (own work) ===== -/
def f_X11_led_L4 : Nat → Int32 → Int32 → Int32 → bSto → Option ((Int32 × bSto) ⊕ bSto)
  | 0, _, _, _, _ => none
  | n + 1, x1, x2, x3, σ => if kR (σ.2.2 0 7) then (if (σ.1 ((σ.2.2 0 7) + 7) 7) ≤ x3 then some (.inr σ) else if x3 < 0 ∨ 7 ≤ x3.toNatClampNeg then none else (if (σ.1 31 x3.toNatClampNeg) = (-2 : Int32) then (if x2 = x1 then some (.inl (x3, σ)) else blet (x2 + (1 : Int32)) (fun x2_6 => blet (x3 + (1 : Int32)) (fun x3_8 => f_X11_led_L4 n x1 x2_6 x3_8 σ))) else blet (x3 + (1 : Int32)) (fun x3_12 => f_X11_led_L4 n x1 x2 x3_12 σ))) else none
set_option maxHeartbeats 4000000 in
set_option maxRecDepth 20000 in
theorem e_X11_led_L4 {X : bX} {l : Launch} {G : bG} {ρ : Nat → Nat} {A : Nat → Prop} {d : Nat} (C : bCX X cX11_led RX11 d) (Hh : bH X l G bSHf ρ A 4) : ∀ (n : Nat) (x1 : Int32) (x2 : Int32) (x3 : Int32) (σ : bSto) (q : ((Int32 × bSto) ⊕ bSto)), f_X11_led_L4 n x1 x2 x3 σ = some q → (∀ (v : Int32) (s : bSto) (L : List (Nat × Value)), q = .inl (v, s) → bAJ X 38 L [.int v] s) → (∀ (s : bSto), q = .inr s → bAJ X 48 [(0, .ref 0)] [] s) → bAJ X 4 [(0, .ref 0), (1, .int x1), (2, .int x2), (3, .int x3)] [] σ := by
  intro n
  induction n with
  | zero => intro x1 x2 x3 σ q hF; rw [f_X11_led_L4] at hF; cases hF
  | succ n ih =>
    intro x1 x2 x3 σ q hF hr hx
    rw [f_X11_led_L4] at hF
    obtain ⟨hk1, hF⟩ := bif_y hF
    refine b_iload_n (pc := 4) C dX11_led_4 rfl 3 rfl ?_
    refine b_aload_n (pc := 5) C dX11_led_5 rfl 0 rfl ?_
    refine b_getR (pc := 6) C dX11_led_6 fl_X11_57 (Hh.1 _ _ sh_0) rfl ?_
    refine b_getS (pc := 9) C dX11_led_9 fl_X11_163 (Hh.1 _ _ (shR hk1)) rfl ?_
    refine b_getI (pc := 12) C dX11_led_12 fl_X11_249 (Hh.1 _ _ (shF (kk_7_1 hk1))) rfl ?_
    refine b_icmp_ge (tgt := 48) (pc := 15) C dX11_led_15 rfl (fun hc2 => ?_) (fun hc2 => ?_)
    · rw [if_pos hc2] at hF
      exact b_sub [0] rfl (hx _ (Option.some.inj hF).symm)
    · rw [if_neg hc2] at hF
      refine b_aload_n (pc := 18) C dX11_led_18 rfl 0 rfl ?_
      refine b_getS (pc := 19) C dX11_led_19 fl_X11_19 (Hh.1 _ _ sh_0) rfl ?_
      refine b_getS (pc := 22) C dX11_led_22 fl_X11_179 (Hh.1 _ _ sh_30) rfl ?_
      refine b_iload_n (pc := 25) C dX11_led_25 rfl 3 rfl ?_
      obtain ⟨hb3, hF⟩ := bif_n hF
      refine b_iald (pc := 26) C dX11_led_26 (Hh.1 _ _ sh_31) hb3 ?_
      refine b_bipush (pc := 27) C dX11_led_27 bp_m2 ?_
      refine b_icmp_ne (tgt := 42) (pc := 29) C dX11_led_29 rfl (fun hc4 => ?_) (fun hc4 => ?_)
      · rw [if_neg hc4] at hF
        obtain ⟨x3_12, e13, hF⟩ := blet_e hF
        refine b_iinc (L' := [(3, .int x3_12), (0, .ref 0), (1, .int x1), (2, .int x2)]) (pc := 42) C dX11_led_42 3 rfl ic_1 e13 (Hh.2.1 _ (Nat.le_of_ble_eq_true rfl)) rfl ?_
        refine b_goto (tgt := 4) (pc := 45) C dX11_led_45 rfl ?_
        exact b_sub [1, 2, 3, 0] rfl (ih x1 x2 x3_12 _ _ hF hr hx)
      · rw [if_pos hc4] at hF
        refine b_iload_n (pc := 32) C dX11_led_32 rfl 2 rfl ?_
        refine b_iload_n (pc := 33) C dX11_led_33 rfl 1 rfl ?_
        refine b_icmp_ne (tgt := 39) (pc := 34) C dX11_led_34 rfl (fun hc5 => ?_) (fun hc5 => ?_)
        · rw [if_neg hc5] at hF
          obtain ⟨x2_6, e7, hF⟩ := blet_e hF
          refine b_iinc (L' := [(2, .int x2_6), (0, .ref 0), (1, .int x1), (3, .int x3)]) (pc := 39) C dX11_led_39 2 rfl ic_1 e7 (Hh.2.1 _ (Nat.le_of_ble_eq_true rfl)) rfl ?_
          obtain ⟨x3_8, e9, hF⟩ := blet_e hF
          refine b_iinc (L' := [(3, .int x3_8), (2, .int x2_6), (0, .ref 0), (1, .int x1)]) (pc := 42) C dX11_led_42 3 rfl ic_1 e9 (Hh.2.1 _ (Nat.le_of_ble_eq_true rfl)) rfl ?_
          refine b_goto (tgt := 4) (pc := 45) C dX11_led_45 rfl ?_
          exact b_sub [2, 3, 1, 0] rfl (ih x1 x2_6 x3_8 _ _ hF hr hx)
        · rw [if_pos hc5] at hF
          refine b_iload_n (pc := 37) C dX11_led_37 rfl 3 rfl ?_
          exact hr _ _ _ (Option.some.inj hF).symm
set_option maxHeartbeats 4000000 in
set_option maxRecDepth 20000 in
/-- led up to its two ends -/
theorem e_X11_led_0 {X : bX} {l : Launch} {G : bG} {ρ : Nat → Nat} {A : Nat → Prop} {d : Nat} (C : bCX X cX11_led RX11 d) (Hh : bH X l G bSHf ρ A 4) (x1 : Int32) (σ : bSto) (q : ((Int32 × bSto) ⊕ bSto)) (hF : f_X11_led_L4 bFU x1 (0 : Int32) (0 : Int32) σ = some q) (hr : ∀ (v : Int32) (s : bSto) (L : List (Nat × Value)), q = .inl (v, s) → bAJ X 38 L [.int v] s) (hx : ∀ (s : bSto), q = .inr s → bAJ X 48 [(0, .ref 0)] [] s) : bAJ X 0 [(0, .ref 0), (1, .int x1)] [] σ := by
  refine b_iconst (pc := 0) C dX11_led_0 ic_0 ?_
  refine b_istore_n (L' := [(2, .int (0 : Int32)), (0, .ref 0), (1, .int x1)]) (pc := 1) C dX11_led_1 rfl rfl (Hh.2.1 _ (Nat.le_of_ble_eq_true rfl)) rfl ?_
  refine b_iconst (pc := 2) C dX11_led_2 ic_0 ?_
  refine b_istore_n (L' := [(3, .int (0 : Int32)), (2, .int (0 : Int32)), (0, .ref 0), (1, .int x1)]) (pc := 3) C dX11_led_3 rfl rfl (Hh.2.1 _ (Nat.le_of_ble_eq_true rfl)) rfl ?_
  exact b_sub [2, 3, 1, 0] rfl (e_X11_led_L4 C Hh bFU x1 (0 : Int32) (0 : Int32) σ q hF hr hx)
set_option maxHeartbeats 4000000 in
set_option maxRecDepth 20000 in
/-- led, where it answers -/
theorem e_X11_led {l : Launch} {G : bG} {ρ : Nat → Nat} {A : Nat → Prop} (d : Nat) (x1 : Int32) (σ : bSto) (r : Int32) (σ' : bSto) (hF : f_X11_led_L4 bFU x1 (0 : Int32) (0 : Int32) σ = some (.inl (r, σ'))) : bEv l G bSHf ρ A yX11_led cX11_led 4 (some .int) (d + 0) [.ref 0, .int x1] σ (some (.int r)) σ' := b_met (d := d + 0) (by decide +kernel) (Nat.le_of_ble_eq_true rfl) rfl (fun X C Rt h1 h2 h3 => e_X11_led_0 C ⟨fun o q h => by rw [h1]; exact h, fun i h => by rw [h2]; exact h, h3⟩ x1 σ _ hF (fun v s L e => b_iret (pc := 38) C Rt dX11_led_38 (by cases e; rfl)) (fun s e => by cases e))
theorem led_both {N : Nat} {s : Nat → Nat} {x : Int32} {σ : bSto} (hN : N ≤ 7) (hk : kR (σ.2.2 0 7)) (hc : σ.1 (σ.2.2 0 7 + 7) 7 = nI N) (h14 : ¬ σ.1 92 14 = 0) (h4 : σ.1 95 4 = nI N) (hs : ∀ p, s p ≤ 6) (h31 : ∀ p, p < 7 → σ.1 31 p = sv (s p)) (h97 : ∀ p, p < 7 → σ.1 97 p = nI (s p)) : ∀ d p n m b, p + d = N → d < n → d < m → (∃ v, f_X11_led_L4 n x b (nI p) σ = some (.inl (v, σ)) ∧ f_X12_led_L4 m x b (nI p) σ = some (.inl (v, bI σ 92 0 0))) ∨ (f_X11_led_L4 n x b (nI p) σ = some (.inr σ) ∧ f_X12_led_L4 m x b (nI p) σ = some (.inr σ)) := by
  intro d
  induction d with
  | zero =>
    intro p n m b hp hn hm
    obtain ⟨n, rfl⟩ : ∃ n', n = n' + 1 := ⟨n - 1, by omega⟩
    obtain ⟨m, rfl⟩ : ∃ n', m = n' + 1 := ⟨m - 1, by omega⟩
    obtain rfl : p = N := by omega
    refine Or.inr ⟨?_, ?_⟩
    · rw [f_X11_led_L4, if_pos hk, hc, if_pos (nI_le (Nat.le_refl _) (by omega))]
    · rw [f_X12_led_L4, if_neg h14, h4, if_pos (nI_le (Nat.le_refl _) (by omega))]
  | succ d ih =>
    intro p n m b hp hn hm
    obtain ⟨n, rfl⟩ : ∃ n', n = n' + 1 := ⟨n - 1, by omega⟩
    obtain ⟨m, rfl⟩ : ∃ n', m = n' + 1 := ⟨m - 1, by omega⟩
    have hge : ¬ nI N ≤ nI p := nI_ge (by omega) (by omega)
    have one : nI p + (1 : Int32) = nI (p + 1) := q_add p 1
    have hsp := hs p
    have e1 : f_X11_led_L4 (n + 1) x b (nI p) σ = if s p = 0 then (if b = x then some (.inl (nI p, σ)) else f_X11_led_L4 n x (b + 1) (nI (p + 1)) σ) else f_X11_led_L4 n x b (nI (p + 1)) σ := by
      rw [f_X11_led_L4, if_pos hk, hc, if_neg hge, nI_clamp (by omega), if_neg (by rw [fcd (by omega) (by omega)]; exact id), h31 p (by omega), blet_v, blet_v, blet_v, one]
      by_cases z : s p = 0
      · rw [z, if_pos (show (0 : Nat) = 0 from rfl), if_pos sv_0]
      · rw [if_neg z, if_neg (show ¬ sv (s p) = -2 from fun y => by
          rw [sv, if_neg z] at y
          have h : ∀ j : Fin 6, ¬ nI j.1 = (-2 : Int32) := by decide
          exact h ⟨s p - 1, by omega⟩ y)]
    have e2 : f_X12_led_L4 (m + 1) x b (nI p) σ = if s p = 0 then (if b = x then some (.inl (nI p, bI σ 92 0 0)) else f_X12_led_L4 m x (b + 1) (nI (p + 1)) σ) else f_X12_led_L4 m x b (nI (p + 1)) σ := by
      rw [f_X12_led_L4, if_neg h14, h4, if_neg hge, nI_clamp (by omega), if_neg (by rw [fcd (by omega) (by omega)]; exact id), h97 p (by omega), blet_v, blet_v, blet_v, blet_v, one]
      by_cases z : s p = 0
      · rw [z, if_pos (show nI 0 ≤ 0 by decide), if_pos rfl]
      · rw [if_neg z, if_neg (show ¬ nI (s p) ≤ 0 from nI_ge (a := 0) (by omega) (by omega))]
    rw [e1, e2]
    by_cases z : s p = 0
    · rw [if_pos z, if_pos z]
      by_cases y : b = x
      · rw [if_pos y, if_pos y]
        exact Or.inl ⟨nI p, rfl, rfl⟩
      · rw [if_neg y, if_neg y]
        exact ih (p + 1) n m (b + 1) (by omega) (by omega) (by omega)
    · rw [if_neg z, if_neg z]
      exact ih (p + 1) n m b (by omega) (by omega) (by omega)
/-- led: both find the same person, or the class throws and the reference says so -/
theorem o_led {σ : bSto} (hI : INV σ) (x : Int32) : (∃ v, f_X11_led_L4 bFU x (0 : Int32) (0 : Int32) σ = some (.inl (v, σ)) ∧ f_X12_led x σ = some (v, bI σ 92 0 0) ∧ INV (bI σ 92 0 0)) ∨ (f_X11_led_L4 bFU x (0 : Int32) (0 : Int32) σ = some (.inr σ) ∧ f_X12_led x σ = some (0, bI σ 92 0 1) ∧ INV (bI σ 92 0 1)) := by
  have hk := hI.2.2.1.1
  have hk' : σ.2.2 0 7 = 7 ∨ σ.2.2 0 7 = 69 := hk
  have keep : ∀ y, INV (bI σ 92 0 y) := fun y => hI.keep (AO.set _ _ (by unfold Bs; omega)) (by rw [bI_ne (by omega), bI_ne (by omega)]; exact hI.2.2.2.1.1) (fun z => by rw [bI_ne (by omega)] at z; rw [bI_ne (by omega), bI_ne (by omega)]; exact hI.2.2.2.1.2.2 z)
  rcases hI.2.2.2.2 with hN | ⟨v, s, bel, S, D, hV, -⟩
  · refine Or.inr ⟨?_, ?_, keep 1⟩
    · show f_X11_led_L4 (99999 + 1) x 0 0 σ = _
      rw [f_X11_led_L4, if_pos hk, hN.2.2.1.1, if_pos (by decide)]
    · rw [f_X12_led, show bFU = 99999 + 1 from rfl, f_X12_led_L4, hN.1.2, if_pos (by decide), br0]
      rfl
  · obtain ⟨⟨hi, hm⟩, ⟨w, wt, we, wr⟩, mv, ⟨ch', cf, ct, ce, cr', ft⟩, ⟨hs, h0, cn', mn⟩, ⟨cb, mb⟩, ⟨hS, hS1, hS2⟩, hD, hD1, hD2⟩ := hV
    have h7 := w.2.2.2.2.1
    have h6 := w.2.2.2.1.2
    rcases led_both (s := s) (x := x) (σ := σ) h7 hk cf.1 (by rw [hm]; decide) (mv 4 (by omega) (by omega)) (fun p => by have := hs p; omega) cn' mn (v 4) 0 bFU bFU (0 : Int32) (by omega) (by show _ < 100000; omega) (by show _ < 100000; omega) with ⟨y, a1, a2⟩ | ⟨a1, a2⟩
    · refine Or.inl ⟨y, a1, ?_, keep 0⟩
      rw [f_X12_led, show f_X12_led_L4 bFU x (0 : Int32) (0 : Int32) σ = _ from a2, br0]
    · refine Or.inr ⟨a1, ?_, keep 1⟩
      rw [f_X12_led, show f_X12_led_L4 bFU x (0 : Int32) (0 : Int32) σ = _ from a2, br0]
      rfl
