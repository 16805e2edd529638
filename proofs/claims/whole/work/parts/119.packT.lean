/-! ===== packing: the reference (own work) ===== -/
theorem Kv_n (v : Nat → Nat) : (Kv v).n = v 4 := rfl
theorem Kv_nb (v : Nat → Nat) : (Kv v).nb = v 3 := rfl
theorem Kv_ok (v : Nat → Nat) : (Kv v).ok = okv v := rfl
theorem Kv_rt (v : Nat → Nat) (b : Nat) : (Kv v).rt b = v (14 + 4 * b) := rfl
/-- all but one -/
def but (wo : Nat) : Nat → Bool := fun i => !(i + 1 == wo)
theorem bv_eq_all : ∀ i : Fin 8, ∀ k : Fin 9, (nI i.val = bv k.val) = (i.val + 1 = k.val) := by decide +kernel
theorem bv_eq {i k : Nat} (hi : i < 8) (hk : k < 9) : (nI i = bv k) = (i + 1 = k) := bv_eq_all ⟨i, hi⟩ ⟨k, hk⟩
theorem s_heatOf {v : Nat → Nat} {σ : bSto} (w : WF v) (hv : MV v σ) {b : Nat} (hb : b < v 3) : f_X12_heatOf (nI b) σ = some (nI (htv v b (v 2)), σ) := by
  rw [f_X12_heatOf, hv.at 2 (by decide) (by decide), s_heatBy w hv hb w.2.2.1.2]
  rfl
theorem pkr_le (v : Nat → Nat) (w : WF v) : ∀ j A s, (pk (Kv v) j A s).2 ≤ 30 * j := by
  intro j
  induction j with
  | zero => intro A s; exact Nat.zero_le _
  | succ j ih =>
    intro A s
    rw [pk]
    split
    · obtain ⟨-, -, h3⟩ := fo_cb (fun b => (Kv v).ok ((Kv v).n - (j + 1)) b && decide (0 < s b)) (fun b => (1 + (pk (Kv v) j A (dcs s b)).1, (Kv v).rt b + (pk (Kv v) j A (dcs s b)).2)) (pk (Kv v) j A s) (Kv v).nb 0
      rcases h3 with h3 | ⟨b, -, b2, -, b4⟩
      · rw [h3]; have := ih A s; omega
      · rw [b4]
        have h1 := ih A (dcs s b)
        have h2 := (w.2.2.2.2.2.2.2.2.2.2.1 b (by rw [Kv_nb] at b2; omega)).2.2.2
        show v (14 + 4 * b) + _ ≤ _
        omega
    · have := ih A s; omega
def stS (v : Nat → Nat) (wo j m r : Nat) (s cur : Nat → Nat) (p : Nat) : Nat → T3 → T3 := fun b st => if okv v p b && decide (0 < s b) then cb3 st (Dr (Kv v) j (but wo) (dcs s b) (m + 1) (put cur p (b + 1)) (r + v (14 + 4 * b))) else st
theorem s_tryS {v : Nat → Nat} (w : WF v) {wo : Nat} (hwo : wo < 9) : ∀ j n p m r s cur st σ, p + j = v 4 → j < n → m ≤ p → r ≤ 30 * p → t1 st ≤ 8 → t3 st ≤ 1000000 → (∀ b, b < v 3 → s b ≤ 4) → MV v σ → SS v p s cur st σ → ∃ τ, f_X12_trySits n (nI p) (nI m) (nI r) (bv wo) σ = some τ ∧ AO BS σ τ ∧ SS v p s cur (cb3 st (Dr (Kv v) j (but wo) s m cur r)) τ := by
  have hp7 : v 4 ≤ 7 := w.2.2.2.2.1
  have hb6 : v 3 ≤ 6 := w.2.2.2.1.2
  intro j
  induction j with
  | zero =>
    intro n p m r s cur st σ hp hn hm hr h8 hM h4 hv hS
    obtain ⟨n, rfl⟩ : ∃ n', n = n' + 1 := ⟨n - 1, by omega⟩
    obtain rfl : p = v 4 := by omega
    obtain ⟨a1, a2, a3, a4, a5⟩ := hS
    rw [f_X12_trySits, f_X12_trySits_B, hv.at 4 (by decide) (by decide), a3, q_add, q_sub (by omega), Dr]
    have c1 : (bv (t1 st) ≤ nI (m + v 4 - v 4)) = (t1 st ≤ m + 1) := by rw [Nat.add_sub_cancel]; exact bv_le (by omega) (by omega)
    have c2 : (nI m ≤ bv (t1 st)) = (m + 1 ≤ t1 st) := le_bv (by omega) (by omega)
    simp only [c1, c2, if_true]
    by_cases h1 : t1 st ≤ m + 1
    · rw [if_pos h1]
      by_cases h2 : m + 1 ≤ t1 st
      · rw [if_pos h2, f_X12_trySits_J61, a4]
        have c3 : (nI (t3 st) ≤ nI r) = (t3 st ≤ r) := q_le (by omega) (by omega)
        simp only [c3, blet]
        have hcb : cb3 st (mk3 (m + 1) (fun i => nI (cur i)) r) = mk3 (t1 st) (t2 st) (min (t3 st) r) := cb3_e (by rw [m1]; omega)
        rw [hcb]
        have hmin : (if t3 st ≤ r then some (bI σ 92 26 (nI (t3 st))) else some (bI σ 92 26 (nI r))) = some (bI σ 92 26 (nI (min (t3 st) r))) := by
          by_cases e : t3 st ≤ r
          · rw [if_pos e, Nat.min_eq_left e]
          · rw [if_neg e, Nat.min_eq_right (by omega)]
        rw [hmin]
        refine ⟨_, rfl, AO.set σ _ (Or.inr (Or.inr (Or.inr ⟨rfl, Or.inr rfl⟩))), fun b hb => ?_, fun i hi => ?_, ?_, ?_, fun i hi => ?_⟩
        · rw [bI_ne (Or.inl (by decide)), a1 b hb]
        · rw [bI_ne (Or.inl (by decide)), a2 i hi]
        · rw [bI_ne (Or.inr (by decide)), a3]; rfl
        · rw [bI_eq]; rfl
        · rw [bI_ne (Or.inl (by decide)), a5 i hi]; rfl
      · rw [if_neg h2]
        simp only [blet]
        rw [show (0 : Int32) = nI 0 from rfl, show (7 : Int32) = nI 7 from rfl, s_copy (by decide) (by decide) (by decide) (by decide) (by decide)]
        simp only [bbv]
        have hcb : cb3 st (mk3 (m + 1) (fun i => nI (cur i)) r) = mk3 (m + 1) (fun i => nI (cur i)) r := cb3_l (by rw [m1]; omega)
        rw [f_X12_trySits_J61, hcb, bA_ne (by decide), bI_eq, if_pos (Int32.le_refl _)]
        simp only [blet]
        refine ⟨_, rfl, ?_, fun b hb => ?_, fun i hi => ?_, ?_, ?_, fun i hi => ?_⟩
        · exact AO.trans (B := BS) (AO.trans (B := BS) (AO.trans (B := BS) (AO.set σ _ (Or.inr (Or.inr (Or.inr ⟨rfl, Or.inl rfl⟩)))) (AO.set _ _ (Or.inr (Or.inr (Or.inr ⟨rfl, Or.inr rfl⟩))))) (AO.setA _ _ (fun k => Or.inr (Or.inr (Or.inl rfl))))) (AO.set _ _ (Or.inr (Or.inr (Or.inr ⟨rfl, Or.inr rfl⟩))))
        · rw [bI_ne (Or.inl (by decide)), bA_ne (by decide), bI_ne (Or.inl (by decide)), bI_ne (Or.inl (by decide)), a1 b hb]
        · rw [bI_ne (Or.inl (by decide)), bA_ne (by decide), bI_ne (Or.inl (by decide)), bI_ne (Or.inl (by decide)), a2 i hi]
        · rw [bI_ne (Or.inr (by decide)), bA_ne (by decide), bI_ne (Or.inr (by decide)), bI_eq, m1]; rfl
        · rw [bI_eq]; rfl
        · rw [bI_ne (Or.inl (by decide)), bA_eq, if_pos (by omega), bI_ne (Or.inl (by decide)), bI_ne (Or.inl (by decide)), show 0 + (i - 0) = i by omega, a2 i hi]; rfl
    · rw [if_neg h1]
      have hcb : cb3 st (mk3 (m + 1) (fun i => nI (cur i)) r) = st := cb3_g (by rw [m1]; omega)
      rw [hcb]
      exact ⟨σ, rfl, AO.refl _ _, a1, a2, a3, a4, a5⟩
  | succ j ih =>
    intro n p m r s cur st σ hp hn hm hr h8 hM h4 hv hS
    obtain ⟨n, rfl⟩ : ∃ n', n = n' + 1 := ⟨n - 1, by omega⟩
    have hpn : p < v 4 := by omega
    have a3 := hS.2.2.1
    rw [f_X12_trySits, f_X12_trySits_B, hv.at 4 (by decide) (by decide), a3, q_add, q_sub (by omega)]
    have c1 : (bv (t1 st) ≤ nI (m + v 4 - p)) = (t1 st ≤ m + (j + 1) + 1) := by rw [show m + v 4 - p = m + (j + 1) by omega]; exact bv_le (by omega) (by omega)
    have c2 : (nI p = nI (v 4)) = (p = v 4) := q_eq (by omega) (by omega)
    simp only [c1, c2]
    by_cases h1 : t1 st ≤ m + (j + 1) + 1
    · rw [if_pos h1, if_neg (by omega)]
      have hloop : ∀ k b n' st σ, b + k = v 3 → k < n' → t1 st ≤ 8 → t3 st ≤ 1000000 → but wo p = true → MV v σ → SS v p s cur st σ → ∃ τ, f_X12_trySits_L85 (f_X12_trySits n) n' (nI p) (nI m) (nI r) (bv wo) (nI b) σ = some (nI p, nI m, nI r, bv wo, τ) ∧ AO BS σ τ ∧ t1 (itr (stS v wo j m r s cur p) k b st) ≤ 8 ∧ t3 (itr (stS v wo j m r s cur p) k b st) ≤ 1000000 ∧ SS v p s cur (itr (stS v wo j m r s cur p) k b st) τ := by
        intro k
        induction k with
        | zero =>
          intro b n' st σ hb hn' h8 hM hbw hv hS
          obtain ⟨n', rfl⟩ : ∃ n'', n' = n'' + 1 := ⟨n' - 1, by omega⟩
          obtain rfl : b = v 3 := by omega
          refine ⟨σ, ?_, AO.refl _ _, h8, hM, hS⟩
          rw [f_X12_trySits_L85, hv.at 3 (by decide) (by decide), if_pos (Int32.le_refl _)]
        | succ k ihk =>
          intro b n' st σ hb hn' h8 hM hbw hv hS
          obtain ⟨n', rfl⟩ : ∃ n'', n' = n'' + 1 := ⟨n' - 1, by omega⟩
          obtain ⟨a1, a2, a3, a4, a5⟩ := id hS
          have hbn : b < v 3 := by omega
          have hs4 := h4 b hbn
          have hht := htv_lt (v := v) (b := b) w.2.2.1.2
          obtain ⟨-, hcold, -⟩ := w.2.2.2.2.2.2.2.2.2.2.2.1 p hpn
          have hrent := (w.2.2.2.2.2.2.2.2.2.2.1 b hbn).2.2.2
          have hpw : (nI p = bv wo) = False := by
            rw [bv_eq (by omega) hwo]
            simp only [but, Bool.not_eq_true', beq_eq_false_iff_ne] at hbw
            exact eq_false hbw
          have ib : ¬ (nI b < 0 ∨ 6 ≤ b) := by rw [q_lt0 (by omega)]; simp; omega
          have ip : ¬ (nI p < 0 ∨ 7 ≤ p) := by rw [q_lt0 (by omega)]; simp; omega
          have one : nI b + (1 : Int32) = nI (b + 1) := q_add b 1
          have onep : nI p + (1 : Int32) = nI (p + 1) := q_add p 1
          have onem : nI m + (1 : Int32) = nI (m + 1) := q_add m 1
          have qb : (nI b).toNatClampNeg = b := q_cl (by omega)
          have qp : (nI p).toNatClampNeg = p := q_cl (by omega)
          rw [f_X12_trySits_L85, hv.at 3 (by decide) (by decide), if_neg (show ¬ nI (v 3) ≤ nI b by rw [q_le (by omega) (by omega)]; omega), if_neg (show ¬ nI p = bv wo by rw [hpw]; exact id), qb, if_neg ib, a1 b hbn, itr, stS]
          by_cases e0 : s b = 0
          · rw [if_pos (show nI (s b) = 0 by rw [e0]; rfl), if_neg (by simp [e0])]
            simp only [blet, one]
            exact ihk (b + 1) n' st σ (by omega) (by omega) h8 hM hbw hv hS
          · rw [if_neg (show ¬ nI (s b) = 0 by rw [show (0 : Int32) = nI 0 from rfl, q_eq (by omega) (by omega)]; exact e0), s_mayOn w hv hpn hbn]
            simp only [bbd, b2_0]
            cases hmay : mayK (v (35 + 4 * p)) (v (11 + 4 * b)) with
            | false =>
              rw [if_pos rfl, if_neg (by simp [okv, hmay])]
              simp only [blet, one]
              exact ihk (b + 1) n' st σ (by omega) (by omega) h8 hM hbw hv hS
            | true =>
              rw [if_neg (by decide), s_heatOf w hv hbn]
              simp only []
              rw [s_coldOf hv (show p < 7 by omega)]
              simp only []
              by_cases hwarm : v (36 + 4 * p) ≤ htv v b (v 2)
              · have hok : (okv v p b && decide (0 < s b)) = true := by simp [okv, hmay, hwarm]; omega
                rw [if_pos (show nI (v (36 + 4 * p)) ≤ nI (htv v b (v 2)) by rw [q_le (by omega) (by omega)]; exact hwarm), if_pos hok, if_neg ib, if_neg ib]
                simp only [blet, qp, if_neg ip, a1 b hbn, one, onep, onem]
                rw [show nI (s b) - (1 : Int32) = nI (s b - 1) from q_sub (a := s b) (b := 1) (by omega)]
                have hA1 : AO BS σ (bI (bI σ 102 b (nI (s b - 1))) 100 p (nI (b + 1))) := AO.trans (B := BS) (AO.set σ _ (Or.inr (Or.inr (Or.inl rfl)))) (AO.set _ _ (Or.inl rfl))
                have hv1 := hv.ao hA1 (fun k h => by rcases h with h | h | h | h <;> omega)
                have hS1 : SS v (p + 1) (dcs s b) (put cur p (b + 1)) st (bI (bI σ 102 b (nI (s b - 1))) 100 p (nI (b + 1))) := by
                  refine ⟨fun c hc => ?_, fun i hi => ?_, ?_, ?_, fun i hi => ?_⟩
                  · rw [bI_ne (Or.inl (by decide)), bI_at, dcs]
                    by_cases e : c = b
                    · rw [if_pos ⟨rfl, e⟩, if_pos e, e]
                    · rw [if_neg (by simp [e]), if_neg e, a1 c hc]
                  · rw [bI_at, put]
                    by_cases e : i = p
                    · rw [if_pos ⟨rfl, e⟩, if_pos e]
                    · rw [if_neg (by simp [e]), if_neg e, bI_ne (Or.inl (by decide)), a2 i (by omega)]
                  · rw [bI_ne (Or.inl (by decide)), bI_ne (Or.inl (by decide)), a3]
                  · rw [bI_ne (Or.inl (by decide)), bI_ne (Or.inl (by decide)), a4]
                  · rw [bI_ne (Or.inl (by decide)), bI_ne (Or.inl (by decide)), a5 i hi]
                obtain ⟨τ1, g1, g2, g3⟩ := ih n (p + 1) (m + 1) (r + v (14 + 4 * b)) (dcs s b) (put cur p (b + 1)) st _ (by omega) (by omega) (by omega) (by omega) h8 hM (fun c hc => by have := h4 c hc; unfold dcs; split <;> omega) hv1 hS1
                have dv := Dr_val (Kv v) j (but wo) (dcs s b) (m + 1) (put cur p (b + 1)) (r + v (14 + 4 * b))
                have dl := pkm_le (Kv v) j (but wo) (dcs s b) (by rw [Kv_n]; omega)
                have dr := pkr_le v w j (but wo) (dcs s b)
                have n8 : t1 (cb3 st (Dr (Kv v) j (but wo) (dcs s b) (m + 1) (put cur p (b + 1)) (r + v (14 + 4 * b)))) ≤ 8 := by rw [cb3_t1]; omega
                have nM : t3 (cb3 st (Dr (Kv v) j (but wo) (dcs s b) (m + 1) (put cur p (b + 1)) (r + v (14 + 4 * b)))) ≤ 1000000 := cb3_t3 _ _ hM (by omega)
                obtain ⟨b1, b2, b3, b4, b5⟩ := g3
                have hb1 : τ1.1 102 b = nI (s b - 1) := by rw [b1 b hbn, dcs, if_pos rfl]
                have hA2 : AO BS τ1 (bI τ1 102 b (nI (s b))) := AO.set τ1 _ (Or.inr (Or.inr (Or.inl rfl)))
                have hA3 := (hA1.trans g2).trans hA2
                obtain ⟨τ, k1, k2, k3, k4, k5⟩ := ihk (b + 1) n' _ (bI τ1 102 b (nI (s b))) (by omega) (by omega) n8 nM hbw (hv.ao hA3 (fun k h => by rcases h with h | h | h | h <;> omega)) (by
                  refine ⟨fun c hc => ?_, fun i hi => ?_, ?_, ?_, fun i hi => ?_⟩
                  · rw [bI_at]
                    by_cases e : c = b
                    · rw [if_pos ⟨rfl, e⟩, e]
                    · rw [if_neg (by simp [e]), b1 c hc, dcs, if_neg e]
                  · rw [bI_ne (Or.inl (by decide)), b2 i (by omega), put, if_neg (by omega)]
                  · rw [bI_ne (Or.inl (by decide)), b3]
                  · rw [bI_ne (Or.inl (by decide)), b4]
                  · rw [bI_ne (Or.inl (by decide)), b5 i hi])
                refine ⟨τ, ?_, hA3.trans k2, k3, k4, k5⟩
                rw [s_rentOf hv1 (by omega)]
                simp only [q_add]
                rw [g1]
                simp only [bbv]
                rw [hb1, show nI (s b - 1) + (1 : Int32) = nI (s b) from by rw [show (1 : Int32) = nI 1 from rfl, q_add, show s b - 1 + 1 = s b by omega], if_neg ib, if_neg ib]
                exact k1
              · rw [if_neg (show ¬ nI (v (36 + 4 * p)) ≤ nI (htv v b (v 2)) by rw [q_le (by omega) (by omega)]; exact hwarm), if_neg (by simp [okv, hwarm])]
                simp only [blet, one]
                exact ihk (b + 1) n' st σ (by omega) (by omega) h8 hM hbw hv hS
      have hlast : ∀ st σ, t1 st ≤ 8 → t3 st ≤ 1000000 → MV v σ → SS v p s cur st σ → ∃ τ, f_X12_trySits_J197 (f_X12_trySits n) (nI p) (nI m) (nI r) (bv wo) σ = some τ ∧ AO BS σ τ ∧ SS v p s cur (cb3 st (Dr (Kv v) j (but wo) s m (put cur p 0) r)) τ := by
        intro st σ h8 hM hv hS
        obtain ⟨a1, a2, a3, a4, a5⟩ := hS
        have hA1 : AO BS σ (bI σ 100 p (nI 0)) := AO.set σ _ (Or.inl rfl)
        obtain ⟨τ, g1, g2, g3⟩ := ih n (p + 1) m r s (put cur p 0) st (bI σ 100 p (nI 0)) (by omega) (by omega) (by omega) (by omega) h8 hM h4 (hv.ao hA1 (fun k h => by rcases h with h | h | h | h <;> omega)) (by
          refine ⟨fun c hc => ?_, fun i hi => ?_, ?_, ?_, fun i hi => ?_⟩
          · rw [bI_ne (Or.inl (by decide)), a1 c hc]
          · rw [bI_at, put]
            by_cases e : i = p
            · rw [if_pos ⟨rfl, e⟩, if_pos e]
            · rw [if_neg (by simp [e]), if_neg e, a2 i (by omega)]
          · rw [bI_ne (Or.inl (by decide)), a3]
          · rw [bI_ne (Or.inl (by decide)), a4]
          · rw [bI_ne (Or.inl (by decide)), a5 i hi])
        obtain ⟨b1, b2, b3, b4, b5⟩ := g3
        refine ⟨τ, ?_, hA1.trans g2, b1, fun i hi => by rw [b2 i (by omega), put, if_neg (by omega)], b3, b4, b5⟩
        rw [f_X12_trySits_J197]
        simp (disch := omega) only [q_lit, q_lt0, q_ge0, q_le, q_lt, q_eq, q_cl, q_add, q_mul, q_div, q_rem, blet, if_false, false_or]
        rw [if_neg (by omega), g1]
        rfl
      rw [Dr, Kv_n, show v 4 - (j + 1) = p by omega]
      by_cases hw2 : but wo p = true
      · obtain ⟨τ1, g1, g2, g3, g4, g5⟩ := hloop (v 3) 0 bFU st σ (by omega) (by show _ < 100000; omega) h8 hM hw2 hv hS
        obtain ⟨τ, k1, k2, k3⟩ := hlast _ τ1 g3 g4 (hv.ao g2 (fun k h => by rcases h with h | h | h | h <;> omega)) g5
        rw [show stS v wo j m r s cur p = (fun b st => if okv v p b && decide (0 < s b) then cb3 st (Dr (Kv v) j (but wo) (dcs s b) (m + 1) (put cur p (b + 1)) (r + v (14 + 4 * b))) else st) from rfl, fo_left cb3 cb3_assoc (fun b => okv v p b && decide (0 < s b)) (fun b => Dr (Kv v) j (but wo) (dcs s b) (m + 1) (put cur p (b + 1)) (r + v (14 + 4 * b)))] at k3
        refine ⟨τ, ?_, g2.trans k2, ?_⟩
        · rw [show (0 : Int32) = nI 0 from rfl, g1]
          exact k1
        · rw [if_pos hw2]
          exact k3
      · have hpw : nI p = bv wo := by
          rw [bv_eq (by omega) hwo]
          simpa [but] using hw2
        have hex : f_X12_trySits_L85 (f_X12_trySits n) bFU (nI p) (nI m) (nI r) (bv wo) (0 : Int32) σ = some (nI p, nI m, nI r, bv wo, σ) := by
          show f_X12_trySits_L85 (f_X12_trySits n) (99999 + 1) (nI p) (nI m) (nI r) (bv wo) (0 : Int32) σ = _
          rw [f_X12_trySits_L85]
          by_cases hx : σ.1 95 3 ≤ 0
          · rw [if_pos hx]
          · rw [if_neg hx, if_pos hpw]
        obtain ⟨τ, k1, k2, k3⟩ := hlast st σ h8 hM hv hS
        refine ⟨τ, ?_, k2, ?_⟩
        · rw [hex]
          exact k1
        · rw [if_neg hw2]
          exact k3
    · rw [if_neg h1]
      have dv := Dr_val (Kv v) (j + 1) (but wo) s m cur r
      have dl := pkm_le (Kv v) (j + 1) (but wo) s (by rw [Kv_n]; omega)
      have hcb : cb3 st (Dr (Kv v) (j + 1) (but wo) s m cur r) = st := cb3_g (by omega)
      rw [hcb]
      exact ⟨σ, rfl, AO.refl _ _, hS⟩
/-- the seats, with one more on a bench -/
def sts (v : Nat → Nat) (more : Nat) : Nat → Nat := fun b => v (13 + 4 * b) + (if b + 1 = more then 1 else 0)
theorem s_seekS {v : Nat → Nat} {σ : bSto} (w : WF v) (hv : MV v σ) {wo mo : Nat} (hwo : wo < 9) (hmo : mo < 9) : ∃ τ, f_X12_seekSits (bv wo) (bv mo) σ = some (nI (PM (Kv v) (but wo) (sts v mo)), τ) ∧ AO BS σ τ ∧ (∀ i, i < v 4 → τ.1 101 i = nI (pkf (Kv v) (v 4) (but wo) (sts v mo) (fun _ => 0) i)) ∧ τ.1 92 26 = nI (pk (Kv v) (v 4) (but wo) (sts v mo)).2 := by
  have hp7 : v 4 ≤ 7 := w.2.2.2.2.1
  have hb6 : v 3 ≤ 6 := w.2.2.2.1.2
  have hl : ∀ k b n σ, b + k = v 3 → k < n → MV v σ → (∀ c, c < b → σ.1 102 c = nI (sts v mo c)) → ∃ τ, f_X12_seekSits_L2 n (bv wo) (bv mo) (nI b) σ = some (bv wo, τ) ∧ AO BS σ τ ∧ ∀ c, c < v 3 → τ.1 102 c = nI (sts v mo c) := by
    intro k
    induction k with
    | zero =>
      intro b n σ hb hn hv hc
      obtain ⟨n, rfl⟩ : ∃ n', n = n' + 1 := ⟨n - 1, by omega⟩
      obtain rfl : b = v 3 := by omega
      refine ⟨σ, ?_, AO.refl _ _, hc⟩
      rw [f_X12_seekSits_L2, hv.at 3 (by decide) (by decide), if_pos (Int32.le_refl _)]
    | succ k ih =>
      intro b n σ hb hn hv hc
      obtain ⟨n, rfl⟩ : ∃ n', n = n' + 1 := ⟨n - 1, by omega⟩
      have hA : AO BS σ (bI σ 102 b (nI (sts v mo b))) := AO.set σ _ (Or.inr (Or.inr (Or.inl rfl)))
      obtain ⟨τ, h1, h2, h3⟩ := ih (b + 1) n (bI σ 102 b (nI (sts v mo b))) (by omega) (by omega) (hv.ao hA (fun k h => by rcases h with h | h | h | h <;> omega)) (by
        intro c hcb
        rw [bI_at]
        by_cases e : c = b
        · rw [if_pos ⟨rfl, e⟩, e]
        · rw [if_neg (by simp [e]), hc c (by omega)])
      refine ⟨τ, ?_, hA.trans h2, h3⟩
      rw [← h1, f_X12_seekSits_L2, hv.at 3 (by decide) (by decide), s_seatsOf hv (by omega)]
      have c1 : (nI b = bv mo) = (b + 1 = mo) := bv_eq (by omega) hmo
      simp only [bbd, f_X12_seekSits_J32_2, c1]
      simp (disch := omega) only [q_lit, q_lt0, q_ge0, q_le, q_lt, q_eq, q_cl, q_add, q_mul, q_div, q_rem, blet, if_false, false_or]
      rw [if_neg (show ¬ v 3 ≤ b by omega), if_neg (show ¬ (b < 0 ∨ 6 ≤ b) by omega), sts]
      by_cases e : b + 1 = mo
      · rw [if_pos e, if_pos e]
      · rw [if_neg e, if_neg e, if_neg (show ¬ (b < 0 ∨ 6 ≤ b) by omega)]
  obtain ⟨τ1, g1, g2, g3⟩ := hl (v 3) 0 bFU σ (by omega) (by show _ < 100000; omega) hv (fun c hc => by omega)
  have hA2 : AO BS τ1 (bI (bI τ1 92 25 (-1)) 92 26 1000000) := AO.trans (B := BS) (AO.set τ1 _ (Or.inr (Or.inr (Or.inr ⟨rfl, Or.inl rfl⟩)))) (AO.set _ _ (Or.inr (Or.inr (Or.inr ⟨rfl, Or.inr rfl⟩))))
  have hA := g2.trans hA2
  obtain ⟨τ, k1, k2, k3⟩ := s_tryS w hwo (v 4) 20 0 0 0 (sts v mo) (fun _ => 0) (mk3 0 (fun i => τ1.1 101 i) 1000000) _ (by omega) (by omega) (by omega) (by omega) (by rw [m1]; omega) (by rw [m3]; omega) (fun b hb => by
    have := (w.2.2.2.2.2.2.2.2.2.2.1 b hb).2.2.1.2
    unfold sts
    split <;> omega) (hv.ao hA (fun k h => by rcases h with h | h | h | h <;> omega)) (by
    refine ⟨fun c hc => ?_, fun i hi => by omega, ?_, ?_, fun i hi => ?_⟩
    · rw [bI_ne (Or.inl (by decide)), bI_ne (Or.inl (by decide)), g3 c hc]
    · rw [bI_ne (Or.inr (by decide)), bI_eq]; rfl
    · rw [bI_eq]; rfl
    · rw [bI_ne (Or.inl (by decide)), bI_ne (Or.inl (by decide))]; rfl)
  have dv := Dr_val (Kv v) (v 4) (but wo) (sts v mo) 0 (fun _ => 0) 0
  have hcb : cb3 (mk3 0 (fun i => τ1.1 101 i) 1000000) (Dr (Kv v) (v 4) (but wo) (sts v mo) 0 (fun _ => 0) 0) = Dr (Kv v) (v 4) (but wo) (sts v mo) 0 (fun _ => 0) 0 := cb3_l (by rw [m1]; omega)
  rw [hcb] at k3
  obtain ⟨-, -, b3, b4, b5⟩ := k3
  refine ⟨τ, ?_, hA.trans k2, fun i hi => ?_, ?_⟩
  · rw [f_X12_seekSits, show (0 : Int32) = nI 0 from rfl, g1]
    simp only [bl1, blet]
    rw [k1]
    simp only [bbv]
    rw [b3, dv.1, Nat.zero_add, bv, if_neg (by omega), Nat.add_sub_cancel]
    rfl
  · rw [b5 i hi, Dr_row]
  · rw [b4, dv.2, Nat.zero_add]
