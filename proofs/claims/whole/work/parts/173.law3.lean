/-! ===== the law: led (own work) ===== -/
theorem mm_L_224 : bMV RL 224 yX12_led cX12_led 4 (some .int) 1 := ⟨(bTB_in (List.mem_append_right _ (List.mem_of_getElem? (i := 1957) (by decide +kernel))) rfl), (bTB_in (List.mem_append_right _ (List.mem_of_getElem? (i := 1958) (by decide +kernel))) rfl), (bTB_in (List.mem_append_right _ (List.mem_of_getElem? (i := 1959) (by decide +kernel))) rfl), (bTB_in (List.mem_append_right _ (List.mem_of_getElem? (i := 17) (by decide +kernel))) rfl), (bTB_in (List.mem_append_right _ (List.mem_of_getElem? (i := 1960) (by decide +kernel))) rfl), by decide, by decide +kernel, by decide +kernel, by decide +kernel⟩
theorem mm_L_225 : bMV RL 225 yX12_thrown cX12_thrown 1 (some .int) 0 := ⟨(bTB_in (List.mem_append_right _ (List.mem_of_getElem? (i := 1442) (by decide +kernel))) rfl), (bTB_in (List.mem_append_right _ (List.mem_of_getElem? (i := 1443) (by decide +kernel))) rfl), (bTB_in (List.mem_append_right _ (List.mem_of_getElem? (i := 1444) (by decide +kernel))) rfl), (bTB_in (List.mem_append_right _ (List.mem_of_getElem? (i := 17) (by decide +kernel))) rfl), (bTB_in (List.mem_append_right _ (List.mem_of_getElem? (i := 1445) (by decide +kernel))) rfl), by decide, by decide +kernel, by decide +kernel, by decide +kernel⟩
theorem INV.out {σ : bSto} (h : INV σ) (y : Int64) : INV (bJ σ 110 0 y) := by
  have e : ∀ a k, a ≠ 110 → (bJ σ 110 0 y).2.1 a k = σ.2.1 a k := fun a k z => by
    show (if a = 110 then vp_updL (σ.2.1 a) 0 y else σ.2.1 a) k = _
    rw [if_neg z]
  obtain ⟨h1, h2, h3, h4, h5⟩ := h
  have hk' : σ.2.2 0 7 = 7 ∨ σ.2.2 0 7 = 69 := h3.1
  refine ⟨h1, fun i hi => by rw [e 4 i (by omega)]; exact h2 i hi, h3, h4, ?_⟩
  rcases h5 with h5 | ⟨v, s, bel, S, D, h5, n, x, m, h6⟩
  · exact Or.inl h5
  · refine Or.inr ⟨v, s, bel, S, D, ?_, n, x, m, h6⟩
    obtain ⟨a1, a3, a4, ⟨b1, b2', b3, b4, b5, b6⟩, c1, d1, e1, f1⟩ := h5
    exact ⟨a1, a3, a4, ⟨b1, b2', fun p hp => (e (σ.2.2 0 7 + 7 + 2) p (by omega)).trans (b3 p hp), b4, b5, b6⟩, c1, d1, e1, f1⟩
def ledM (σ : bSto) : ((Int32 × bSto) ⊕ bSto) → ((Int32 × bSto) ⊕ bSto)
  | .inl (v, _) => .inl (v, σ)
  | .inr _ => .inr σ
theorem led_out (y : Int64) (σ : bSto) (x : Int32) : ∀ n b p, f_X11_led_L4 n x b p (bJ σ 110 0 y) = (f_X11_led_L4 n x b p σ).map (ledM (bJ σ 110 0 y)) := by
  intro n
  induction n with
  | zero => intro b p; rfl
  | succ n ih =>
    intro b p
    rw [f_X11_led_L4, f_X11_led_L4]
    show (if kR (σ.2.2 0 7) then (if (σ.1 ((σ.2.2 0 7) + 7) 7) ≤ p then some (.inr (bJ σ 110 0 y)) else if p < 0 ∨ 7 ≤ p.toNatClampNeg then none else (if (σ.1 31 p.toNatClampNeg) = (-2 : Int32) then (if b = x then some (.inl (p, (bJ σ 110 0 y))) else blet (b + (1 : Int32)) (fun x2_6 => blet (p + (1 : Int32)) (fun x3_8 => f_X11_led_L4 n x x2_6 x3_8 (bJ σ 110 0 y)))) else blet (p + (1 : Int32)) (fun x3_12 => f_X11_led_L4 n x b x3_12 (bJ σ 110 0 y)))) else none) = _
    by_cases h1 : kR (σ.2.2 0 7)
    · rw [if_pos h1, if_pos h1]
      by_cases h2 : (σ.1 ((σ.2.2 0 7) + 7) 7) ≤ p
      · rw [if_pos h2, if_pos h2]; rfl
      · rw [if_neg h2, if_neg h2]
        by_cases h3 : p < 0 ∨ 7 ≤ p.toNatClampNeg
        · rw [if_pos h3, if_pos h3]; rfl
        · rw [if_neg h3, if_neg h3]
          by_cases h4 : (σ.1 31 p.toNatClampNeg) = (-2 : Int32)
          · rw [if_pos h4, if_pos h4]
            by_cases h5 : b = x
            · rw [if_pos h5, if_pos h5]; rfl
            · rw [if_neg h5, if_neg h5, blet_v, blet_v, blet_v, blet_v]; exact ih _ _
          · rw [if_neg h4, if_neg h4, blet_v, blet_v]; exact ih _ _
    · rw [if_neg h1, if_neg h1]; rfl
/-- what the law's own led does: it answers 0 and writes what was found, or 1 -/
def LD (x : Int32) (σ : bSto) (k : Int32) (σ' : bSto) : Prop := (∃ v, f_X11_led_L4 bFU x (0 : Int32) (0 : Int32) σ = some (.inl (v, σ)) ∧ k = 0 ∧ σ' = bJ σ 110 0 v.toInt64) ∨ (f_X11_led_L4 bFU x (0 : Int32) (0 : Int32) σ = some (.inr σ) ∧ k = 1 ∧ σ' = σ)
/-- the reference's led behind it -/
theorem LD.ref {x k : Int32} {σ σ' : bSto} (hI : INV σ) (h : LD x σ k σ') : ∃ b, f_X12_led x σ' = some (b, bI σ' 92 0 k) ∧ INV (bI σ' 92 0 k) ∧ (k = 0 → σ'.2.1 110 0 = b.toInt64) ∧ (k = 0 ∨ k = 1) := by
  rcases h with ⟨v, h1, rfl, rfl⟩ | ⟨h1, rfl, rfl⟩
  · rcases o_led (hI.out v.toInt64) x with ⟨v', a1, a2, a3⟩ | ⟨a1, a2, a3⟩
    · rw [led_out, h1] at a1
      have e : v = v' := by
        have := Option.some.inj a1
        have := Sum.inl.inj this
        exact congrArg Prod.fst this
      subst e
      refine ⟨v, a2, a3, fun _ => ?_, Or.inl rfl⟩
      show (if 110 = 110 then vp_updL (σ.2.1 110) 0 v.toInt64 else σ.2.1 110) 0 = _
      rw [if_pos rfl]
      simp [vp_updL]
    · rw [led_out, h1] at a1
      cases Option.some.inj a1
  · rcases o_led hI x with ⟨v', a1, a2, a3⟩ | ⟨a1, a2, a3⟩
    · rw [h1] at a1
      cases Option.some.inj a1
    · exact ⟨0, a2, a3, fun z => absurd z (by decide), Or.inr rfl⟩
theorem lg_same (x : Int64) : lg_cmp x x = 0 := by
  unfold lg_cmp
  simp
set_option maxHeartbeats 4000000 in
set_option maxRecDepth 20000 in
theorem q_law_48 {X X' : bX} {l : Launch} {G : bG} {ρ : Nat → Nat} {A : Nat → Prop} {L i : Nat} {xs : Nat → Int32} (C : bCX X cL_law RL 800) (C' : bCX X' cL_law RL 800) (Hh' : bH X' l G bSHf ρ A 7) (hX : bSX X 500 L xs) (hX' : bSX X' 500 L xs) (hL : L ≤ 3072) (hi : i + 6 ≤ L) {σ : bSto} (hI : INV σ)
    (KL : ∀ (x : Int32) (Lo : List (Nat × Value)), ∃ k σ', LD x σ k σ' ∧ (bAJ X' 1475 Lo [.int k] σ' → bAJ X 1472 Lo [.ref 110, .int x, .ref 0] σ))
    (K : ∀ σ2, INV σ2 → bAJ X' 1558 [(0, .ref 500), (1, .ref 0), (2, .ref 92), (3, .ref 110), (4, .int (nI i))] [] σ2) : bAJ X 1464 [(0, .ref 500), (1, .ref 0), (2, .ref 92), (3, .ref 110), (4, .int (nI i))] [] σ := by
  refine b_aload_n (pc := 1464) C dL_law_1464 rfl 1 rfl ?_
  refine b_aload_n (pc := 1465) C dL_law_1465 rfl 0 rfl ?_
  refine b_iload (pc := 1466) C dL_law_1466 4 rfl ?_
  refine b_iconst (pc := 1468) C dL_law_1468 ic_1 ?_
  refine b_iadd (pc := 1469) C dL_law_1469 ?_
  refine b_sldL (pc := 1470) C dL_law_1470 hX hL (q_add i 1) (by omega) ?_
  refine b_aload_n (pc := 1471) C dL_law_1471 rfl 3 rfl ?_
  obtain ⟨k, σ', hLD, hK⟩ := KL (xs (i + 1)) [(0, .ref 500), (1, .ref 0), (2, .ref 92), (3, .ref 110), (4, .int (nI i))]
  obtain ⟨b, h1, hI2, hb, hk⟩ := hLD.ref hI
  refine hK ?_
  refine b_istore (L' := [(5, .int k), (0, .ref 500), (1, .ref 0), (2, .ref 92), (3, .ref 110), (4, .int (nI i))]) (pc := 1475) C' dL_law_1475 rfl (Hh'.2.1 _ (Nat.le_of_ble_eq_true rfl)) rfl ?_
  refine b_aload_n (pc := 1477) C' dL_law_1477 rfl 3 rfl ?_
  refine b_aload_n (pc := 1478) C' dL_law_1478 rfl 1 rfl ?_
  refine b_iload (pc := 1479) C' dL_law_1479 5 rfl ?_
  refine b_iconst (pc := 1481) C' dL_law_1481 ic_1 ?_
  refine b_iadd (pc := 1482) C' dL_law_1482 ?_
  refine b_sldL (pc := 1483) C' dL_law_1483 hX' hL (q_add i 1) (by omega) ?_
  refine b_cV1i (pc := 1484) C' dL_law_1484 mm_L_224 (Hh'.1 _ _ sh_92) rfl (Nat.le_of_ble_eq_true rfl) (by omega) (Hh'.2.2 _ _ _ _ _ _ _ _ _ (e_X12_led 0 _ _ _ _ h1)) ?_
  refine b_istore (L' := [(6, .int b), (5, .int k), (0, .ref 500), (1, .ref 0), (2, .ref 92), (3, .ref 110), (4, .int (nI i))]) (pc := 1487) C' dL_law_1487 rfl (Hh'.2.1 _ (Nat.le_of_ble_eq_true rfl)) rfl ?_
  refine b_aload_n (pc := 1489) C' dL_law_1489 rfl 4 rfl ?_
  have h2 : f_X12_thrown (bI σ' 92 0 k) = some (k, bI σ' 92 0 k) := by rw [f_X12_thrown, bI_eq]
  refine b_cV0i (pc := 1490) C' dL_law_1490 mm_L_225 (Hh'.1 _ _ sh_92) rfl (Nat.le_of_ble_eq_true rfl) (by omega) (Hh'.2.2 _ _ _ _ _ _ _ _ _ (e_X12_thrown 0 _ _ _ h2)) ?_
  refine b_iload (pc := 1493) C' dL_law_1493 1 rfl ?_
  refine b_icmp_eq (tgt := 1500) (pc := 1495) C' dL_law_1495 rfl (fun _ => ?_) (fun z => absurd rfl z)
  refine b_iload (pc := 1500) C' dL_law_1500 1 rfl ?_
  have fin : bAJ X' 1517 [(6, .int b), (5, .int k), (0, .ref 500), (1, .ref 0), (2, .ref 92), (3, .ref 110), (4, .int (nI i))] [] (bI σ' 92 0 k) := by
    refine b_goto (tgt := 1558) (pc := 1517) C' dL_law_1517 rfl ?_
    exact b_sub [2, 3, 4, 5, 6] rfl (K _ hI2)
  refine b_if_ne (tgt := 1517) (pc := 1502) C' dL_law_1502 rfl (fun _ => fin) (fun hc => ?_)
  refine b_aload_n (pc := 1505) C' dL_law_1505 rfl 5 rfl ?_
  refine b_iconst (pc := 1506) C' dL_law_1506 ic_0 ?_
  refine b_lald (pc := 1507) C' dL_law_1507 (Hh'.1 _ _ sh_110) (by decide) ?_
  refine b_iload (pc := 1508) C' dL_law_1508 0 rfl ?_
  refine b_i2l (pc := 1510) C' dL_law_1510 ?_
  refine b_lcmp (pc := 1511) C' dL_law_1511 ?_
  have e : lg_cmp ((bI σ' 92 0 k).2.1 110 (0 : Int32).toNatClampNeg) b.toInt64 = 0 := by
    show lg_cmp (σ'.2.1 110 0) b.toInt64 = 0
    rw [hb hc]
    exact lg_same _
  exact b_if_eq (tgt := 1517) (pc := 1512) C' dL_law_1512 rfl (fun _ => fin) (fun z => absurd e z)
