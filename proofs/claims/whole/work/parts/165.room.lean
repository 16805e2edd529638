/-! ===== room (own work) ===== -/
/-- cells that a text told writes, but for the room that holds -/
def Bg (c : Nat) : Nat → Nat → Prop := fun a k => a ≤ 3 ∨ a = 5 ∨ a = 6 ∨ (c ≤ a ∧ a < c + 23) ∨ a = 94 ∨ a = 96 ∨ (a = 92 ∧ k ≠ 14 ∧ k ≠ 20 ∧ k ≠ 21)
theorem VW.al {c ct : Nat} {v s : Nat → Nat} {bel : Nat → Int32} {S D : Nat} {σ τ : bSto} (hk : kR c) (h : VW c v s bel S D σ) (hk2 : kR ct) (hne : c ≠ ct) (ha : AL (Bg ct) σ τ) : VW c v s bel S D τ := by
  have hk' : c = 7 ∨ c = 69 := hk
  obtain ⟨⟨a1, a2⟩, a3, a4, ⟨b1, b2', b3, b4, b5, b6⟩, ⟨c1, c2, c3, c4⟩, ⟨d1, d2⟩, ⟨e1, e2, e3⟩, f1, f2, f3⟩ := h
  have hk2' : ct = 7 ∨ ct = 69 := hk2
  have e : ∀ a k, ¬ Bg ct a k → τ.1 a k = σ.1 a k := ha.1
  have ha' : AO (Bg ct) σ (τ.1, σ.2) := ⟨ha.1, rfl⟩
  refine ⟨⟨by rw [e _ _ (by unfold Bg; omega)]; exact a1, by rw [e _ _ (by unfold Bg; omega)]; exact a2⟩, a3, a4.ao (B := Bg ct) (τ := (τ.1, σ.2)) ha' (fun k => by unfold Bg; omega), ⟨b1.ao (B := Bg ct) (τ := (τ.1, σ.2)) ha' (fun a k z => by unfold Bg at z; omega), b2'.ao (B := Bg ct) (τ := (τ.1, σ.2)) ha' (fun a k z => by unfold Bg at z; omega), fun p hp => by rw [ha.2.1 _ _ (by unfold Bg; omega)]; exact b3 p hp, b4.ao (B := Bg ct) (τ := (τ.1, σ.2)) ha' (fun a k z => by unfold Bg at z; omega), b5.ao (B := Bg ct) (τ := (τ.1, σ.2)) ha' (fun a k z => by unfold Bg at z; omega), b6.ao (B := Bg ct) (τ := (τ.1, σ.2)) ha' (fun a k z => by unfold Bg at z; omega)⟩, ⟨c1, c2, c3.ao (B := Bg ct) (τ := (τ.1, σ.2)) ha' (fun k => by unfold Bg; omega), c4.ao (B := Bg ct) (τ := (τ.1, σ.2)) ha' (fun k => by unfold Bg; omega)⟩, ⟨fun q hq => by rw [e _ _ (by unfold Bg; omega)]; exact d1 q hq, d2.ao (B := Bg ct) (τ := (τ.1, σ.2)) ha' (fun k => by unfold Bg; omega)⟩, ⟨e1, by rw [e _ _ (by unfold Bg; omega)]; exact e2, by rw [e _ _ (by unfold Bg; omega)]; exact e3⟩, f1, by rw [e _ _ (by unfold Bg; omega)]; exact f2, by rw [e _ _ (by unfold Bg; omega)]; exact f3⟩
theorem NR.al {c ct : Nat} {σ τ : bSto} (hk : kR c) (h : NR c σ) (hk2 : kR ct) (hne : c ≠ ct) (ha : AL (Bg ct) σ τ) : NR c τ := by
  have hk' : c = 7 ∨ c = 69 := hk
  have hk2' : ct = 7 ∨ ct = 69 := hk2
  have e : ∀ a k, ¬ Bg ct a k → τ.1 a k = σ.1 a k := ha.1
  unfold NR
  rw [e c 4 (by unfold Bg; omega), e 92 14 (by unfold Bg; omega), e (c + 1) 5 (by unfold Bg; omega), e (c + 1) 6 (by unfold Bg; omega), e (c + 1) 7 (by unfold Bg; omega), e (c + 1) 10 (by unfold Bg; omega), e (c + 7) 7 (by unfold Bg; omega), e (c + 7) 8 (by unfold Bg; omega), e (c + 7) 9 (by unfold Bg; omega), e (c + 15) 4 (by unfold Bg; omega), e (c + 15) 5 (by unfold Bg; omega), e 30 2 (by unfold Bg; omega), e 30 3 (by unfold Bg; omega), e 36 3 (by unfold Bg; omega), e 36 4 (by unfold Bg; omega), e 92 20 (by unfold Bg; omega), e 92 21 (by unfold Bg; omega)]
  exact h
def sq (u : Nat → Nat) (p : Nat) : Nat := if p < 7 then u (37 + 4 * p) else 0
def Bro (c : Nat) : Nat → Nat → Prop := fun a k => a = c + 15 + 3 ∨ a = c + 15 + 4 ∨ (a = c + 15 ∧ k = 6) ∨ (30 ≤ a ∧ a ≤ 32) ∨ a = 36 ∨ a = 0 ∨ (a = 2 ∧ k = 1)
theorem s_copyIn {c : Nat} (hk : kR c) (σ : bSto) : ∃ τ, f_X4_copyFrom 30 (c + 20) σ = some τ ∧ AO (fun a _ => 30 ≤ a ∧ a ≤ 32) σ τ ∧ (∀ p, p < 7 → τ.1 (30 + 1) p = σ.1 (c + 20 + 1) p) ∧ (∀ p, p < 7 → τ.1 (30 + 2) p = σ.1 (c + 20 + 2) p) ∧ τ.1 30 2 = σ.1 (c + 20) 2 ∧ τ.1 30 3 = σ.1 (c + 20) 3 := by
  have hk' : c = 7 ∨ c = 69 := hk
  refine ⟨_, rfl, ?_, fun p hp => ?_, fun p hp => ?_, ?_, ?_⟩
  · exact AO.trans (AO.trans (AO.trans (AO.setA _ _ (fun k => Or.inr (by show 30 ≤ 30 + 1 ∧ 30 + 1 ≤ 32; omega))) (AO.setA _ _ (fun k => Or.inr (by show 30 ≤ 30 + 2 ∧ 30 + 2 ≤ 32; omega)))) (AO.set _ _ (by show 30 ≤ 30 ∧ 30 ≤ 32; omega))) (AO.set _ _ (by show 30 ≤ 30 ∧ 30 ≤ 32; omega))
  · rw [bI_ne (Or.inl (by decide)), bI_ne (Or.inl (by decide)), bA_ne (by decide), bA_eq, va_cpy, if_pos (by show 0 ≤ p ∧ p < 0 + 7; omega), show (0 : Int32).toNatClampNeg = 0 from rfl, show 0 + (p - 0) = p by omega]
  · rw [bI_ne (Or.inl (by decide)), bI_ne (Or.inl (by decide)), bA_eq, va_cpy, if_pos (by show 0 ≤ p ∧ p < 0 + 7; omega), show (0 : Int32).toNatClampNeg = 0 from rfl, show 0 + (p - 0) = p by omega, bA_ne (by omega)]
  · rw [bI_ne (Or.inr (by decide)), bI_eq, bA_ne (by omega), bA_ne (by omega)]
  · rw [bI_eq, bI_ne (Or.inl (by omega)), bA_ne (by omega), bA_ne (by omega)]
/-- the class's store once a room is told -/
def CR (c cc : Nat) (u : Nat → Nat) (bel : Nat → Int32) (σ' σ1 : bSto) : Prop := AO (Bro c) (bR (bR σ' 0 7 c) 1 4 cc) σ1 ∧ (σ1.1 2 1 = nI 0 ∧ σ1.1 0 8 = nI 0 ∧ σ1.1 0 9 = σ'.1 1 5) ∧ FTv c u 77 σ1 ∧ CN 30 (sq u) σ1 ∧ (∀ q, q < 7 → σ1.1 32 q = bel q) ∧ σ1.1 30 2 = nI (u 10) ∧ σ1.1 30 3 = nI 0 ∧ σ1.1 36 2 = nI 0 ∧ σ1.1 36 3 = nI 0 ∧ σ1.1 36 4 = nI 0
theorem c_room {c cc n L : Nat} {u : Nat → Nat} {bel : Nat → Int32} {σ σ' μ : bSto} (hk : kR c) (hkc : kR cc) (r0 : σ.2.2 0 7 = cc) (r1 : σ.2.2 1 4 = c) (er : σ'.2.2 = σ.2.2) (hl : σ.1 2 1 = nI L) (hn : n ≤ L) (hL : L ≤ 1000) (hT : f_X9_tell (nI n) σ = some (1, σ')) (S : ST c u bel σ' μ) (h3 : 1 ≤ u 3) : ∃ σ1, f_X11_room (nI n) σ = some (nI (u 3), σ1) ∧ CR c cc u bel σ' σ1 := by
  have hk' : c = 7 ∨ c = 69 := hk
  obtain ⟨-, -, g1, g2, g3, g4, g5, g6, g7, g8⟩ := S
  obtain ⟨w, wh, wf⟩ := G_WF g1 g2 g3 g5 g6 g8 h3
  have h0 : u 0 ≠ 0 := fun z => by have := g1.2.2.1 z; omega
  obtain ⟨-, -, -, -, -, -, hS⟩ := g1.2.2.2 h0
  obtain ⟨σ17, e17⟩ : ∃ s, s = bR (bR (bI (bI (bI σ' 2 1 0) 0 9 (σ'.1 1 5)) 0 10 (σ'.1 1 6)) 0 7 c) 1 4 cc := ⟨_, rfl⟩
  have A17 : AO (Bro c) (bR (bR σ' 0 7 c) 1 4 cc) σ17 := by
    rw [e17]
    exact ((AO.set (bR (bR σ' 0 7 c) 1 4 cc) _ (by unfold Bro; omega)).trans (AO.set _ _ (by unfold Bro; omega))).trans (AO.set _ _ (by unfold Bro; omega))
  have k17 : ∀ a k, a ≠ 0 → a ≠ 2 → σ17.1 a k = σ'.1 a k := fun a k z1 z2 => by
    rw [e17]
    show (bI (bI (bI σ' 2 1 0) 0 9 (σ'.1 1 5)) 0 10 (σ'.1 1 6)).1 a k = _
    rw [bI_ne (Or.inl z1), bI_ne (Or.inl z1), bI_ne (Or.inl z2)]
  have r17 : σ17.2.2 0 7 = c := by rw [e17]; rfl
  have v17 : CVr c u σ17 := (show CVr c u (bR (bR σ' 0 7 c) 1 4 cc) from g8.2.2).ao A17 (fun a k z => by unfold Bro at z; omega)
  obtain ⟨τ1, t1, t2, t3⟩ := s_findTrains w g8.2.1 hk v17
  have k1 : ∀ a k, ¬ BT c a k → τ1.1 a k = σ17.1 a k := t2.1
  obtain ⟨τ2, p1, p2, p3, p4, p5, p6⟩ := s_copyIn hk τ1
  have k2 : ∀ a k, ¬ (30 ≤ a ∧ a ≤ 32) → τ2.1 a k = τ1.1 a k := p2.1
  have A3 : AO (Bro c) (bR (bR σ' 0 7 c) 1 4 cc) (bI (bI (bI (bI τ2 36 2 0) 36 3 0) 36 4 0) 0 8 0) := (((((A17.trans (t2.mono (fun a k z => by unfold BT at z; unfold Bro; omega))).trans (p2.mono (fun a k z => by unfold Bro; omega))).trans (AO.set _ _ (by unfold Bro; omega))).trans (AO.set _ _ (by unfold Bro; omega))).trans (AO.set _ _ (by unfold Bro; omega))).trans (AO.set _ _ (by unfold Bro; omega))
  have kk : ∀ a k, 3 ≤ a → ¬ BT c a k → ¬ (30 ≤ a ∧ a ≤ 32) → a ≠ 36 → (bI (bI (bI (bI τ2 36 2 0) 36 3 0) 36 4 0) 0 8 0).1 a k = σ'.1 a k := fun a k z1 z2 z3 z4 => by
    rw [bI_ne (by omega), bI_ne (by omega), bI_ne (by omega), bI_ne (by omega), k2 a k z3, k1 a k z2, k17 a k (by omega) (by omega)]
  refine ⟨bI (bI (bI (bI τ2 36 2 0) 36 3 0) 36 4 0) 0 8 0, ?_, A3, ⟨?_, ?_, ?_⟩, ?_, ?_, ?_, ?_, ?_, ?_, ?_, ?_⟩
  · have e10a : (bI (bI (bI σ' 2 1 0) 0 9 (σ'.1 1 5)) 0 10 (σ'.1 1 6)).2.2 0 7 = cc := by show σ'.2.2 0 7 = cc; rw [er]; exact r0
    have e10b : (bI (bI (bI σ' 2 1 0) 0 9 (σ'.1 1 5)) 0 10 (σ'.1 1 6)).2.2 1 4 = c := by show σ'.2.2 1 4 = c; rw [er]; exact r1
    have q1 : τ1.2.2 0 7 = c := by rw [t2.2]; exact r17
    have q2 : (bI (bI (bI τ2 36 2 0) 36 3 0) 36 4 0).2.2 0 7 = c := by show τ2.2.2 0 7 = c; rw [p2.2]; exact q1
    have q3 : (bI (bI (bI τ2 36 2 0) 36 3 0) 36 4 0).1 (c + 1) 5 = nI (u 3) := by
      rw [bI_ne (by omega), bI_ne (by omega), bI_ne (by omega), k2 _ _ (by omega), k1 _ _ (by unfold BT; omega), k17 _ _ (by omega) (by omega)]
      exact g2.2.1
    rw [f_X11_room, rg_y hn (by omega) hl, hT, bbd_s, blet_v, blet_v, bI_ne (σ := σ') (o := 2) (k := 1) (a := 1) (j := 5) (by omega), blet_v, bI_ne (o := 0) (k := 9) (a := 1) (j := 6) (by omega), bI_ne (σ := σ') (o := 2) (k := 1) (a := 1) (j := 6) (by omega), if_neg (by decide), e10a, e10b, if_pos hkc, if_pos hk, blet_v, blet_v, ← e17, r17, if_pos hk, t1, bbv_s, q1, if_pos hk, p1, bbv_s, show f_X6_forgetAll τ2 = some (bI (bI (bI τ2 36 2 0) 36 3 0) 36 4 0) from rfl, bbv_s, q2, if_pos hk, q3, ans_eq, bbd_s]
  · rw [bI_ne (by omega), bI_ne (by omega), bI_ne (by omega), bI_ne (by omega), k2 _ _ (by omega), k1 _ _ (by unfold BT; omega), e17]
    show (bI (bI (bI σ' 2 1 0) 0 9 (σ'.1 1 5)) 0 10 (σ'.1 1 6)).1 2 1 = _
    rw [bI_ne (by omega), bI_ne (by omega), bI_eq]
    rfl
  · rw [bI_eq]; rfl
  · rw [bI_ne (by omega), bI_ne (by omega), bI_ne (by omega), bI_ne (by omega), k2 _ _ (by omega), k1 _ _ (by unfold BT; omega), e17]
    show (bI (bI (bI σ' 2 1 0) 0 9 (σ'.1 1 5)) 0 10 (σ'.1 1 6)).1 0 9 = _
    rw [bI_ne (by omega), bI_eq]
  · exact ((((t3.ao p2 (fun a k z => by omega)).ao (AO.set (B := fun a _ => a = 36) _ _ rfl) (fun a k z => by omega)).ao (AO.set (B := fun a _ => a = 36) _ _ rfl) (fun a k z => by omega)).ao (AO.set (B := fun a _ => a = 36) _ _ rfl) (fun a k z => by omega)).ao (AO.set (B := fun a _ => a = 0) _ _ rfl) (fun a k z => by omega)
  · intro p hp
    rw [bI_ne (by omega), bI_ne (by omega), bI_ne (by omega), bI_ne (by omega), p3 p hp, k1 _ _ (by unfold BT; omega), k17 _ _ (by omega) (by omega), sq, if_pos hp]
    exact (g3.2.2.2.1 p hp).1
  · intro p hp
    rw [bI_ne (by omega), bI_ne (by omega), bI_ne (by omega), bI_ne (by omega)]
    have := p4 p hp
    rw [k1 _ _ (by unfold BT; omega), k17 _ _ (by omega) (by omega)] at this
    exact this.trans (g7 p hp).1
  · rw [bI_ne (by omega), bI_ne (by omega), bI_ne (by omega), bI_ne (by omega), p5, k1 _ _ (by unfold BT; omega), k17 _ _ (by omega) (by omega)]
    exact hS
  · rw [bI_ne (by omega), bI_ne (by omega), bI_ne (by omega), bI_ne (by omega), p6, k1 _ _ (by unfold BT; omega), k17 _ _ (by omega) (by omega)]
    exact g3.2.2.2.2
  · rw [bI_ne (by omega), bI_ne (by omega), bI_ne (by omega), bI_eq]; rfl
  · rw [bI_ne (by omega), bI_ne (by omega), bI_eq]; rfl
  · rw [bI_ne (by omega), bI_eq]; rfl
theorem m_setL : ∀ d i n (σ : bSto), i + d = 7 → d < n → (∀ p, p < i → σ.1 97 p = σ.1 95 (37 + 4 * p) ∧ σ.1 97 (7 + p) = σ.1 95 (38 + 4 * p)) → ∃ τ, f_X12_room_L193 n (nI i) σ = some τ ∧ AO (fun a _ => a = 97) σ τ ∧ ∀ p, p < 7 → τ.1 97 p = σ.1 95 (37 + 4 * p) ∧ τ.1 97 (7 + p) = σ.1 95 (38 + 4 * p) := by
  intro d
  induction d with
  | zero =>
    intro i n σ hi hn h
    obtain ⟨n, rfl⟩ : ∃ n', n = n' + 1 := ⟨n - 1, by omega⟩
    obtain rfl : i = 7 := by omega
    exact ⟨σ, by rw [f_X12_room_L193, if_pos (by decide)], AO.refl _ _, h⟩
  | succ d ih =>
    intro i n σ hi hn h
    obtain ⟨n, rfl⟩ : ∃ n', n = n' + 1 := ⟨n - 1, by omega⟩
    have g1 : ¬ 406 ≤ 35 + 4 * i + 2 := by omega
    have g2 : ¬ 406 ≤ 35 + 4 * i + 3 := by omega
    have g3 : ¬ 16 ≤ i := by omega
    have g4 : ¬ 16 ≤ 7 + i := by omega
    have hA : AO (fun a _ => a = 97) σ (bI (bI σ 97 i (σ.1 95 (37 + 4 * i))) 97 (7 + i) (σ.1 95 (38 + 4 * i))) := AO.trans (B := fun a _ => a = 97) (AO.set (B := fun a _ => a = 97) _ _ rfl) (AO.set (B := fun a _ => a = 97) _ _ rfl)
    obtain ⟨τ, a1, a2, a3⟩ := ih (i + 1) n (bI (bI σ 97 i (σ.1 95 (37 + 4 * i))) 97 (7 + i) (σ.1 95 (38 + 4 * i))) (by omega) (by omega) (fun p hp => by
      rw [hA.1 95 _ (by omega), hA.1 95 _ (by omega)]
      by_cases e : p = i
      · subst e
        exact ⟨by rw [bI_ne (by omega), bI_eq], by rw [bI_eq]⟩
      · exact ⟨by rw [bI_ne (by omega), bI_ne (by omega)]; exact (h p (by omega)).1, by rw [bI_ne (by omega), bI_ne (by omega)]; exact (h p (by omega)).2⟩)
    refine ⟨τ, ?_, hA.trans a2, fun p hp => by rw [← hA.1 95 _ (by omega), ← hA.1 95 _ (by omega)]; exact a3 p hp⟩
    rw [f_X12_room_L193]
    simp (disch := omega) only [q_lit, q_lt0, q_ge0, q_le, q_lt, q_eq, q_cl, q_add, q_mul, q_div, q_rem, Nat.not_lt_zero, false_or, if_false, g1, g2, g3, g4]
    rw [if_neg (by omega), blet_v, blet_v, blet_v, bI_ne (by omega), show 35 + 4 * i + 2 = 37 + 4 * i by omega, show 35 + 4 * i + 3 = 38 + 4 * i by omega]
    exact a1
theorem m_room {u : Nat → Nat} {bel : Nat → Int32} {μ : bSto} (h13 : μ.1 92 13 = nI 0) (hM : MF u bel μ) : ∃ μ2, f_X12_room_J162 μ = some (nI (u 3), μ2) ∧ AO (fun a k => a = 95 ∨ a = 97 ∨ (a = 92 ∧ (k = 14 ∨ k = 20 ∨ k = 21))) μ μ2 ∧ MV u μ2 ∧ MN 97 (sq u) μ2 ∧ MB bel μ2 ∧ (μ2.1 97 14 = nI (u 10) ∧ μ2.1 97 15 = nI 0) ∧ μ2.1 92 14 = nI 1 ∧ μ2.1 92 20 = nI 0 ∧ μ2.1 92 21 = nI 0 := by
  have hc := s_copy (a := 96) (b := 95) (i := 0) (j := 0) (m := 406) (by decide) (by show 0 + 406 ≤ 406; omega) (by show 0 + 406 ≤ 406; omega) (by show 406 < 90000; omega) (by show 406 < 90000; omega) μ
  obtain ⟨ν, hν⟩ : ∃ s, s = bA μ 95 (fun k => if 0 ≤ k ∧ k < 0 + 406 then μ.1 96 (0 + (k - 0)) else μ.1 95 k) := ⟨_, rfl⟩
  rw [← hν] at hc
  have hA : AO (fun a _ => a = 95) μ ν := by rw [hν]; exact AO.setA _ _ (fun k => Or.inr rfl)
  have h95 : ∀ k, k < 406 → ν.1 95 k = μ.1 96 k := fun k hk => by
    rw [hν, bA_eq, if_pos (by omega), show 0 + (k - 0) = k by omega]
  obtain ⟨τ, a1, a2, a3⟩ := m_setL 7 0 bFU ν rfl (by show _ < 100000; omega) (fun p hp => by omega)
  have t95 : ∀ k, k < 406 → τ.1 95 k = μ.1 96 k := fun k hk => (a2.1 95 k (by omega)).trans (h95 k hk)
  refine ⟨bI (bI (bI (bI (bI τ 97 14 (τ.1 95 10)) 97 15 0) 92 14 1) 92 20 0) 92 21 0, ?_, ?_, ?_, ?_, ?_, ⟨?_, ?_⟩, ?_, ?_, ?_⟩
  · rw [f_X12_room_J162, h13, if_pos (show nI 0 = 0 from rfl), show f_X12_copy 96 (0 : Int32) 95 (0 : Int32) (406 : Int32) μ = some ν from hc, bbv_s, show f_X12_room_L193 bFU (0 : Int32) ν = some τ from a1, bl0, blet_v, blet_v, blet_v, blet_v, blet_v, bI_ne (by omega), bI_ne (by omega), bI_ne (by omega), bI_ne (by omega), bI_ne (by omega), t95 3 (by omega), hM.1 3 (by omega) (by omega)]
  · exact ((((((hA.mono (fun a k z => Or.inl z)).trans (a2.mono (fun a k z => Or.inr (Or.inl z)))).trans (AO.set _ _ (by omega))).trans (AO.set _ _ (by omega))).trans (AO.set _ _ (by omega))).trans (AO.set _ _ (by omega))).trans (AO.set _ _ (by omega))
  · intro k h1 h2
    rw [bI_ne (by omega), bI_ne (by omega), bI_ne (by omega), bI_ne (by omega), bI_ne (by omega), t95 k h1]
    exact hM.1 k h1 h2
  · intro p hp
    rw [bI_ne (by omega), bI_ne (by omega), bI_ne (by omega), bI_ne (by omega), bI_ne (by omega), (a3 p hp).1, h95 _ (by omega), sq, if_pos hp]
    exact hM.1 _ (by omega) (by omega)
  · intro p hp
    rw [bI_ne (by omega), bI_ne (by omega), bI_ne (by omega), bI_ne (by omega), bI_ne (by omega), (a3 p hp).2, h95 _ (by omega)]
    exact hM.2 p hp
  · rw [bI_ne (by omega), bI_ne (by omega), bI_ne (by omega), bI_ne (by omega), bI_eq, t95 10 (by omega)]
    exact hM.1 10 (by omega) (by omega)
  · rw [bI_ne (by omega), bI_ne (by omega), bI_ne (by omega), bI_eq]; rfl
  · rw [bI_ne (by omega), bI_ne (by omega), bI_eq]; rfl
  · rw [bI_ne (by omega), bI_eq]; rfl
  · rw [bI_eq]; rfl
