/-! ===== feed (own work) ===== -/
theorem blet_v {α β : Type} (a : α) (k : α → β) : blet a k = k a := by unfold blet; rfl
def by8 (y : Int32) : Nat := y.toBitVec.toNat % 256
theorem by8_lt (y : Int32) : by8 y < 256 := Nat.mod_lt _ (by decide)
theorem by8_and (y : Int32) : y &&& (255 : Int32) = nI (by8 y) := by
  apply Int32.toBitVec_inj.mp
  apply BitVec.eq_of_toNat_eq
  have h1 : (y &&& (255 : Int32)).toBitVec.toNat = y.toBitVec.toNat &&& 255 := by
    rw [Int32.toBitVec_and, BitVec.toNat_and]; rfl
  have h2 : ∀ k : Fin 256, (nI k.1).toBitVec.toNat = k.1 := by decide +kernel
  rw [h1, h2 ⟨by8 y, by8_lt y⟩, show (255 : Nat) = 2 ^ 8 - 1 from rfl, Nat.and_two_pow_sub_one_eq_mod]
  rfl
theorem by8_i8 (y : Int32) : y.toInt8 = Int8.ofNat (by8 y) := by
  apply Int8.toBitVec_inj.mp
  apply BitVec.eq_of_toNat_eq
  rw [Int32.toBitVec_toInt8, BitVec.signExtend_eq_setWidth_of_le _ (by decide), BitVec.toNat_setWidth]
  show _ = (BitVec.ofNat 8 (by8 y)).toNat
  rw [BitVec.toNat_ofNat, by8, Nat.mod_mod]
theorem by8_nar (y : Int32) : vp_nar .byte y.toInt8.toInt32 = sb (by8 y) := by
  have h : ∀ k : Fin 256, vp_nar .byte (Int8.ofNat k.1).toInt32 = sb k.1 := by decide +kernel
  rw [by8_i8]
  exact h ⟨by8 y, by8_lt y⟩
def wd (x1 x2 x3 x4 x5 : Int32) (i : Nat) : Int32 := if i < 4 then x1 else if i < 8 then x2 else if i < 12 then x3 else if i < 16 then x4 else x5
def fw (x1 x2 x3 x4 x5 : Int32) (i : Nat) : Nat := by8 (wd x1 x2 x3 x4 x5 i >>> nI (24 - 8 * (i % 4)))
def Fc (L m : Nat) (w : Nat → Nat) (σ0 σ : bSto) : Prop := σ.1 2 1 = nI (L + m) ∧ (∀ j, j < m → σ.1 3 (L + j) = sb (w j)) ∧ AO (fun a k => (a = 3 ∧ L ≤ k) ∨ (a = 2 ∧ k = 1)) σ0 σ
def Fm (L m : Nat) (w : Nat → Nat) (σ0 σ : bSto) : Prop := σ.1 92 2 = nI (L + m) ∧ (∀ j, j < m → σ.1 93 (L + j) = nI (w j)) ∧ AO (fun a k => (a = 93 ∧ L ≤ k) ∨ (a = 92 ∧ k = 2)) σ0 σ
theorem Fc.put {L m : Nat} {w : Nat → Nat} {σ0 σ : bSto} (h : Fc L m w σ0 σ) {y : Int32} (hy : y = sb (w m)) {z : Int32} (hz : z = nI (L + (m + 1))) : Fc L (m + 1) w σ0 (bI (bI σ 3 (L + m) y) 2 1 z) := by
  obtain ⟨h1, h2, h3⟩ := h
  refine ⟨by rw [bI_eq, hz], fun j hj => ?_, (h3.trans (AO.set _ _ (Or.inl ⟨rfl, Nat.le_add_right _ _⟩))).trans (AO.set _ _ (Or.inr ⟨rfl, rfl⟩))⟩
  rw [bI_ne (by omega)]
  by_cases e : j = m
  · subst e; rw [bI_eq, hy]
  · rw [bI_ne (by omega)]; exact h2 j (by omega)
theorem Fm.put {L m : Nat} {w : Nat → Nat} {σ0 σ : bSto} (h : Fm L m w σ0 σ) {y : Int32} (hy : y = nI (w m)) {z : Int32} (hz : z = nI (L + (m + 1))) : Fm L (m + 1) w σ0 (bI (bI σ 93 (L + m) y) 92 2 z) := by
  obtain ⟨h1, h2, h3⟩ := h
  refine ⟨by rw [bI_eq, hz], fun j hj => ?_, (h3.trans (AO.set _ _ (Or.inl ⟨rfl, Nat.le_add_right _ _⟩))).trans (AO.set _ _ (Or.inr ⟨rfl, rfl⟩))⟩
  rw [bI_ne (by omega)]
  by_cases e : j = m
  · subst e; rw [bI_eq, hy]
  · rw [bI_ne (by omega)]; exact h2 j (by omega)
theorem Fc.step {L m : Nat} {w : Nat → Nat} {σ0 σ : bSto} (h : Fc L m w σ0 σ) (hL : L + m < 1000) (n s : Nat) (x t : Int32) (hs : s ≤ 24) (ha : nI s &&& 31 = nI s) (ht : nI s + (-8 : Int32) = t) (hw : w m = by8 (x >>> nI s)) : ∃ σ', f_X8_append_L3 (n + 1) x (nI s) σ = f_X8_append_L3 n x t σ' ∧ Fc L (m + 1) w σ0 σ' := by
  refine ⟨_, ?_, h.put (y := vp_nar .byte ((x >>> (nI s &&& 31)).toInt8.toInt32)) (by rw [ha, by8_nar, hw]) (z := nI (L + m) + 1) ?_⟩
  · rw [f_X8_append_L3, if_neg (nI_pos (by omega)), h.1, if_neg (by rw [show (1000 : Int32) = nI 1000 from rfl, q_le (by omega) (by omega)]; omega), nI_clamp (by omega), if_neg (by rw [fcd (by omega) (by omega)]; exact id), blet_v, blet_v, blet_v, bI_ne (by omega), h.1, ht]
  · rw [show (1 : Int32) = nI 1 from rfl, q_add, Nat.add_assoc]
theorem Fc.app {L m : Nat} {w : Nat → Nat} {σ0 σ : bSto} (h : Fc L m w σ0 σ) (hL : L + m + 4 ≤ 1000) (x : Int32) (h0 : w m = by8 (x >>> nI 24)) (h1 : w (m + 1) = by8 (x >>> nI 16)) (h2 : w (m + 2) = by8 (x >>> nI 8)) (h3 : w (m + 3) = by8 (x >>> nI 0)) : ∃ σ', f_X8_append x σ = some σ' ∧ Fc L (m + 4) w σ0 σ' := by
  obtain ⟨σ1, a1, a2⟩ := h.step (by omega) 99999 24 x (nI 16) (by omega) (by decide) (by decide) h0
  obtain ⟨σ2, b1, b2'⟩ := a2.step (by omega) 99998 16 x (nI 8) (by omega) (by decide) (by decide) h1
  obtain ⟨σ3, c1, c2⟩ := b2'.step (by omega) 99997 8 x (nI 0) (by omega) (by decide) (by decide) h2
  obtain ⟨σ4, d1, d2⟩ := c2.step (by omega) 99996 0 x (-8) (by omega) (by decide) (by decide) h3
  refine ⟨σ4, ?_, d2⟩
  rw [f_X8_append, show (24 : Int32) = nI 24 from rfl, show bFU = 99999 + 1 from rfl, a1, b1, c1, d1, f_X8_append_L3, if_pos (by decide)]
  rfl
theorem Fm.step {L m : Nat} {x1 x2 x3 x4 x5 : Int32} {σ0 σ : bSto} (h : Fm L m (fw x1 x2 x3 x4 x5) σ0 σ) (hL : L + m < 1000) (hm : m < 20) (n : Nat) : ∃ σ', f_X12_feed_L23 (n + 1) x1 x2 x3 x4 x5 (nI m) σ = f_X12_feed_L23 n x1 x2 x3 x4 x5 (nI (m + 1)) σ' ∧ Fm L (m + 1) (fw x1 x2 x3 x4 x5) σ0 σ' := by
  have hsh : ∀ i : Fin 20, ((24 : Int32) - (8 : Int32) * (nI i.1 - nI i.1 / 4 * 4)) &&& 31 = nI (24 - 8 * (i.1 % 4)) := by decide +kernel
  refine ⟨_, ?_, h.put (y := wd x1 x2 x3 x4 x5 m >>> nI (24 - 8 * (m % 4)) &&& 255) (by rw [by8_and]; rfl) (z := nI (L + m) + 1) ?_⟩
  · have e : f_X12_feed_L23 (n + 1) x1 x2 x3 x4 x5 (nI m) σ = f_X12_feed_J76_23 (f_X12_feed_L23 n) x1 x2 x3 x4 x5 (nI m) (wd x1 x2 x3 x4 x5 m) σ := by
      rw [f_X12_feed_L23, wd, show (20 : Int32) = nI 20 from rfl, show (4 : Int32) = nI 4 from rfl, show (8 : Int32) = nI 8 from rfl, show (12 : Int32) = nI 12 from rfl, show (16 : Int32) = nI 16 from rfl]
      rw [if_neg (by rw [q_le (by omega) (by omega)]; omega)]
      by_cases c1 : m < 4
      · rw [if_pos c1, if_neg (by rw [q_le (by omega) (by omega)]; omega)]
      · rw [if_neg c1, if_pos (by rw [q_le (by omega) (by omega)]; omega)]
        by_cases c2 : m < 8
        · rw [if_pos c2, if_neg (by rw [q_le (by omega) (by omega)]; omega)]
        · rw [if_neg c2, if_pos (by rw [q_le (by omega) (by omega)]; omega)]
          by_cases c3 : m < 12
          · rw [if_pos c3, if_neg (by rw [q_le (by omega) (by omega)]; omega)]
          · rw [if_neg c3, if_pos (by rw [q_le (by omega) (by omega)]; omega)]
            by_cases c4 : m < 16
            · rw [if_pos c4, if_neg (by rw [q_le (by omega) (by omega)]; omega)]
            · rw [if_neg c4, if_pos (by rw [q_le (by omega) (by omega)]; omega)]
    rw [e, f_X12_feed_J76_23, h.1, nI_clamp (by omega), if_neg (by rw [fcd (by omega) (by omega)]; exact id), blet_v, blet_v, blet_v, bI_ne (by omega), h.1, hsh ⟨m, hm⟩, show nI m + (1 : Int32) = nI (m + 1) from q_add m 1]
  · rw [show (1 : Int32) = nI 1 from rfl, q_add, Nat.add_assoc]
theorem Fm.loop {L : Nat} {x1 x2 x3 x4 x5 : Int32} {σ0 : bSto} (hL : L + 20 ≤ 1000) : ∀ d m n (σ : bSto), m + d = 20 → d < n → Fm L m (fw x1 x2 x3 x4 x5) σ0 σ → ∃ σ', f_X12_feed_L23 n x1 x2 x3 x4 x5 (nI m) σ = some σ' ∧ Fm L 20 (fw x1 x2 x3 x4 x5) σ0 σ' := by
  intro d
  induction d with
  | zero =>
    intro m n σ hm hn h
    obtain ⟨n', rfl⟩ := Nat.exists_eq_succ_of_ne_zero (Nat.ne_of_gt hn)
    have : m = 20 := by omega
    subst this
    exact ⟨σ, by rw [f_X12_feed_L23, if_pos (by decide)], h⟩
  | succ d ih =>
    intro m n σ hm hn h
    obtain ⟨n', rfl⟩ : ∃ k, n = k + 1 := ⟨n - 1, by omega⟩
    obtain ⟨σ1, a1, a2⟩ := h.step (by omega) (by omega) n'
    obtain ⟨σ2, b1, b2'⟩ := ih (m + 1) n' σ1 (by omega) (by omega) a2
    exact ⟨σ2, a1.trans b1, b2'⟩
/-- cells that feed writes -/
def Bf : Nat → Nat → Prop := fun a k => a = 3 ∨ (a = 2 ∧ k = 1) ∨ a = 93 ∨ (a = 92 ∧ (k = 0 ∨ k = 2))
theorem VW.aoF {c : Nat} {v s : Nat → Nat} {bel : Nat → Int32} {S D : Nat} {σ τ : bSto} (hk : kR c) (h : VW c v s bel S D σ) (ha : AO Bf σ τ) : VW c v s bel S D τ := by
  have hk' : c = 7 ∨ c = 69 := hk
  obtain ⟨⟨a1, a2⟩, a3, a4, ⟨b1, b2', b3, b4, b5, b6⟩, ⟨c1, c2, c3, c4⟩, ⟨d1, d2⟩, ⟨e1, e2, e3⟩, f1, f2, f3⟩ := h
  have e : ∀ a k, ¬ Bf a k → τ.1 a k = σ.1 a k := ha.1
  refine ⟨⟨by rw [e _ _ (by unfold Bf; omega)]; exact a1, by rw [e _ _ (by unfold Bf; omega)]; exact a2⟩, a3, a4.ao ha (fun k => by unfold Bf; omega), ⟨b1.ao ha (fun a k z => by unfold Bf at z; omega), b2'.ao ha (fun a k z => by unfold Bf at z; omega), fun p hp => by rw [ha.2]; exact b3 p hp, b4.ao ha (fun a k z => by unfold Bf at z; omega), b5.ao ha (fun a k z => by unfold Bf at z; omega), b6.ao ha (fun a k z => by unfold Bf at z; omega)⟩, ⟨c1, c2, c3.ao ha (fun k => by unfold Bf; omega), c4.ao ha (fun k => by unfold Bf; omega)⟩, ⟨fun q hq => by rw [e _ _ (by unfold Bf; omega)]; exact d1 q hq, d2.ao ha (fun k => by unfold Bf; omega)⟩, ⟨e1, by rw [e _ _ (by unfold Bf; omega)]; exact e2, by rw [e _ _ (by unfold Bf; omega)]; exact e3⟩, f1, by rw [e _ _ (by unfold Bf; omega)]; exact f2, by rw [e _ _ (by unfold Bf; omega)]; exact f3⟩
theorem NR.aoF {c : Nat} {σ τ : bSto} (hk : kR c) (h : NR c σ) (ha : AO Bf σ τ) : NR c τ := by
  have hk' : c = 7 ∨ c = 69 := hk
  have e : ∀ a k, ¬ Bf a k → τ.1 a k = σ.1 a k := ha.1
  unfold NR
  rw [e c 4 (by unfold Bf; omega), e 92 14 (by unfold Bf; omega), e (c + 1) 5 (by unfold Bf; omega), e (c + 1) 6 (by unfold Bf; omega), e (c + 1) 7 (by unfold Bf; omega), e (c + 1) 10 (by unfold Bf; omega), e (c + 7) 7 (by unfold Bf; omega), e (c + 7) 8 (by unfold Bf; omega), e (c + 7) 9 (by unfold Bf; omega), e (c + 15) 4 (by unfold Bf; omega), e (c + 15) 5 (by unfold Bf; omega), e 30 2 (by unfold Bf; omega), e 30 3 (by unfold Bf; omega), e 36 3 (by unfold Bf; omega), e 36 4 (by unfold Bf; omega), e 92 20 (by unfold Bf; omega), e 92 21 (by unfold Bf; omega)]
  exact h
theorem INV.tape {σ τ : bSto} (h : INV σ) (ha : AO Bf σ τ) (ht : ∃ tx L, TP tx L τ τ) : INV τ := by
  obtain ⟨-, h3, h4, ⟨h5, h6, h7⟩, h8⟩ := h
  have e : ∀ a k, ¬ Bf a k → τ.1 a k = σ.1 a k := ha.1
  have er : τ.2.2 = σ.2.2 := by rw [ha.2]
  unfold INV
  rw [er]
  refine ⟨ht, fun i hi => by rw [ha.2]; exact h3 i hi, h4, ⟨by rw [e _ _ (by unfold Bf; omega), e _ _ (by unfold Bf; omega)]; exact h5, by rw [e _ _ (by unfold Bf; omega), e _ _ (by unfold Bf; omega)]; exact h6, by rw [e _ _ (by unfold Bf; omega), e _ _ (by unfold Bf; omega), e _ _ (by unfold Bf; omega)]; exact h7⟩, ?_⟩
  rcases h8 with h8 | ⟨v, s, bel, S, D, h8, n, x, m, h9⟩
  · exact Or.inl (h8.aoF h4.1 ha)
  · exact Or.inr ⟨v, s, bel, S, D, h8.aoF h4.1 ha, n, x, m, h9.ao ha (fun a k z => by unfold Bf at z; omega)⟩
theorem o_feed {σ : bSto} (hI : INV σ) (x1 x2 x3 x4 x5 : Int32) : ∃ r σ1 σ2, f_X11_feed x1 x2 x3 x4 x5 σ = some (r, σ1) ∧ f_X12_feed x1 x2 x3 x4 x5 σ1 = some (r, σ2) ∧ INV σ2 := by
  obtain ⟨tx, L, ⟨t0, t1⟩, ⟨t2, t3⟩, t4, t5⟩ := hI.1
  by_cases hL : L + 20 ≤ 1000
  · have z0 : Fc L 0 (fw x1 x2 x3 x4 x5) σ σ := ⟨t2, fun j hj => by omega, AO.refl _ _⟩
    obtain ⟨σ1, a1, a2⟩ := z0.app (by omega) x1 rfl rfl rfl rfl
    obtain ⟨σ2, b1, b2'⟩ := a2.app (by omega) x2 rfl rfl rfl rfl
    obtain ⟨σ3, c1, c2⟩ := b2'.app (by omega) x3 rfl rfl rfl rfl
    obtain ⟨σ4, d1, d2⟩ := c2.app (by omega) x4 rfl rfl rfl rfl
    obtain ⟨σ5, e1, e2⟩ := d2.app (by omega) x5 rfl rfl rfl rfl
    have hA : AO Bf σ (bI σ5 92 0 (0 : Int32)) := (e2.2.2.mono (fun a k z => by unfold Bf; omega)).trans (AO.set _ _ (by unfold Bf; omega))
    have hn : (bI σ5 92 0 (0 : Int32)).1 92 2 = nI L := by rw [bI_ne (by omega), e2.2.2.1 92 2 (by omega)]; exact t3
    obtain ⟨σ6, f1, f2⟩ := Fm.loop (x1 := x1) (x2 := x2) (x3 := x3) (x4 := x4) (x5 := x5) (σ0 := bI σ5 92 0 (0 : Int32)) hL 20 0 bFU (bI σ5 92 0 (0 : Int32)) rfl (by show _ < 100000; omega) ⟨hn, fun j hj => by omega, AO.refl _ _⟩
    refine ⟨nI (L + 20), σ5, σ6, ?_, ?_, ?_⟩
    · rw [f_X11_feed, t2, if_pos (by rw [show (980 : Int32) = nI 980 from rfl, q_le (by omega) (by omega)]; omega), a1, bbv_s, b1, bbv_s, c1, bbv_s, d1, bbv_s, e1, bbv_s, e2.1]
    · rw [f_X12_feed, blet_v, hn, if_pos (by rw [show (20 : Int32) = nI 20 from rfl, q_add, show (1000 : Int32) = nI 1000 from rfl, q_le (by omega) (by omega)]; omega), show f_X12_feed_L23 bFU x1 x2 x3 x4 x5 (0 : Int32) (bI σ5 92 0 (0 : Int32)) = some σ6 from f1, bl0, f2.1]
    · refine hI.tape (hA.trans (f2.2.2.mono (fun a k z => by unfold Bf; omega))) ⟨fun j => if j < L then tx j else fw x1 x2 x3 x4 x5 (j - L), L + 20, ⟨hL, fun j => ?_⟩, ⟨?_, f2.1⟩, fun j hj => ?_, fun j hj => ?_⟩
      · show (if j < L then tx j else fw x1 x2 x3 x4 x5 (j - L)) < 256
        by_cases hj : j < L
        · rw [if_pos hj]; exact t1 j
        · rw [if_neg hj]; exact by8_lt _
      · rw [f2.2.2.1 2 1 (by omega), bI_ne (by omega)]; exact e2.1
      · show _ = sb (if j < L then tx j else fw x1 x2 x3 x4 x5 (j - L))
        rw [f2.2.2.1 3 j (by omega), bI_ne (by omega)]
        by_cases hl : j < L
        · rw [if_pos hl, e2.2.2.1 3 j (by omega)]; exact t4 j hl
        · rw [if_neg hl]
          have := e2.2.1 (j - L) (by omega)
          rw [show L + (j - L) = j by omega] at this
          exact this
      · show _ = nI (if j < L then tx j else fw x1 x2 x3 x4 x5 (j - L))
        by_cases hl : j < L
        · rw [if_pos hl, f2.2.2.1 93 j (by omega), bI_ne (by omega), e2.2.2.1 93 j (by omega)]; exact t5 j hl
        · rw [if_neg hl]
          have := f2.2.1 (j - L) (by omega)
          rw [show L + (j - L) = j by omega] at this
          exact this
  · refine ⟨-1, σ, bI σ 92 0 (0 : Int32), ?_, ?_, hI.tape (AO.set _ _ (by unfold Bf; omega)) ⟨tx, L, ⟨t0, t1⟩, ⟨by rw [bI_ne (by omega)]; exact t2, by rw [bI_ne (by omega)]; exact t3⟩, fun j hj => by rw [bI_ne (by omega)]; exact t4 j hj, fun j hj => by rw [bI_ne (by omega)]; exact t5 j hj⟩⟩
    · rw [f_X11_feed, t2, if_neg (by rw [show (980 : Int32) = nI 980 from rfl, q_le (by omega) (by omega)]; omega)]
    · rw [f_X12_feed, blet_v, bI_ne (by omega), t3, if_neg (by rw [show (20 : Int32) = nI 20 from rfl, q_add, show (1000 : Int32) = nI 1000 from rfl, q_le (by omega) (by omega)]; omega)]
