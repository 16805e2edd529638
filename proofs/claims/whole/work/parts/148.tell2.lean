/-! ===== a text told: class and reference (own work) ===== -/
def Bcr (c : Nat) : Nat → Nat → Prop := fun a _ => c ≤ a ∧ a < c + 23
theorem c_cl3 (x : Nat) (σ : bSto) : ∃ τ, f_X3_clear x σ = some τ ∧ AO (fun a _ => a = x) σ τ ∧ τ.1 x 5 = 0 := by
  rw [f_X3_clear]
  simp only [blet]
  exact ⟨_, rfl, (((AO.set (B := fun a _ => a = x) σ (o := x) (k := 5) 0 rfl).trans (AO.set (B := fun a _ => a = x) _ (o := x) (k := 6) 0 rfl)).trans (AO.set (B := fun a _ => a = x) _ (o := x) (k := 7) 0 rfl)).trans (AO.set (B := fun a _ => a = x) _ (o := x) (k := 10) 0 rfl), by rw [bI_ne (by omega), bI_ne (by omega), bI_ne (by omega), bI_eq]⟩
theorem c_cl2 {x : Nat} (hl : bln (x + 4) = 7) (σ : bSto) : ∃ τ, f_X2_clear x σ = some τ ∧ AO (fun a _ => a = x ∨ a = x + 4) σ τ ∧ (τ.1 x 7 = 0 ∧ τ.1 x 8 = 0 ∧ τ.1 x 9 = 0) ∧ ∀ p, p < 7 → τ.1 (x + 4) p = 0 := by
  have h1 : AO (fun a _ => a = x ∨ a = x + 4) σ (bI (bI (bI σ x 7 0) x 8 0) x 9 0) := ((AO.set σ _ (Or.inl rfl)).trans (AO.set _ _ (Or.inl rfl))).trans (AO.set _ _ (Or.inl rfl))
  have e7 : (bI (bI (bI σ x 7 0) x 8 0) x 9 0).1 x 7 = 0 := by rw [bI_ne (by omega), bI_ne (by omega), bI_eq]
  have e8 : (bI (bI (bI σ x 7 0) x 8 0) x 9 0).1 x 8 = 0 := by rw [bI_ne (by omega), bI_eq]
  have e9 : (bI (bI (bI σ x 7 0) x 8 0) x 9 0).1 x 9 = 0 := by rw [bI_eq]
  rw [f_X2_clear]
  simp only [blet]
  generalize bI (bI (bI σ x 7 0) x 8 0) x 9 0 = s at h1 e7 e8 e9
  rw [s_fill hl (by decide)]
  simp only [bbv_s]
  exact ⟨_, rfl, h1.trans (AO.setA _ _ (fun k => Or.inr (Or.inr rfl))), ⟨by rw [bA_ne (by omega)]; exact e7, by rw [bA_ne (by omega)]; exact e8, by rw [bA_ne (by omega)]; exact e9⟩, fun p hp => by rw [bA_eq]; exact if_pos hp⟩
theorem c_cl10 (x : Nat) (σ : bSto) : ∃ τ, f_X10_clear x σ = some τ ∧ AO (fun a _ => a = x) σ τ ∧ τ.1 x 4 = 0 ∧ τ.1 x 5 = 0 := by
  rw [f_X10_clear]
  simp only [blet]
  exact ⟨_, rfl, (AO.set (B := fun a _ => a = x) σ (o := x) (k := 4) 0 rfl).trans (AO.set (B := fun a _ => a = x) _ (o := x) (k := 5) 0 rfl), by rw [bI_ne (by omega), bI_eq], by rw [bI_eq]⟩
theorem c_cl4 {x : Nat} (h1 : bln (x + 1) = 7) (h2 : bln (x + 2) = 7) (σ : bSto) : ∃ τ, f_X4_clear x σ = some τ ∧ AO (fun a _ => a = x ∨ a = x + 1 ∨ a = x + 2) σ τ ∧ (τ.1 x 2 = 0 ∧ τ.1 x 3 = 0) ∧ ∀ p, p < 7 → τ.1 (x + 1) p = -2 ∧ τ.1 (x + 2) p = 0 := by
  rw [f_X4_clear, s_fill h1 (by decide)]
  simp only [bbv_s]
  have a1 : AO (fun a _ => a = x ∨ a = x + 1 ∨ a = x + 2) σ (bA σ (x + 1) (fun k => if k < 7 then -2 else σ.1 (x + 1) k)) := AO.setA _ _ (fun k => Or.inr (Or.inr (Or.inl rfl)))
  have e1 : ∀ p, p < 7 → (bA σ (x + 1) (fun k => if k < 7 then -2 else σ.1 (x + 1) k)).1 (x + 1) p = -2 := fun p hp => by rw [bA_eq]; exact if_pos hp
  generalize bA σ (x + 1) (fun k => if k < 7 then -2 else σ.1 (x + 1) k) = s at a1 e1
  rw [s_fill h2 (by decide)]
  simp only [bbv_s, blet]
  have a2 : AO (fun a _ => a = x ∨ a = x + 1 ∨ a = x + 2) s (bA s (x + 2) (fun k => if k < 7 then 0 else s.1 (x + 2) k)) := AO.setA _ _ (fun k => Or.inr (Or.inr (Or.inr rfl)))
  have e2 : ∀ p, p < 7 → (bA s (x + 2) (fun k => if k < 7 then 0 else s.1 (x + 2) k)).1 (x + 2) p = 0 := fun p hp => by rw [bA_eq]; exact if_pos hp
  have e3 : ∀ p, p < 7 → (bA s (x + 2) (fun k => if k < 7 then 0 else s.1 (x + 2) k)).1 (x + 1) p = -2 := fun p hp => by rw [bA_ne (by omega)]; exact e1 p hp
  generalize bA s (x + 2) (fun k => if k < 7 then 0 else s.1 (x + 2) k) = t at a2 e2 e3
  exact ⟨_, rfl, ((a1.trans a2).trans (AO.set _ _ (Or.inl rfl))).trans (AO.set _ _ (Or.inl rfl)), ⟨by rw [bI_ne (by omega), bI_eq], by rw [bI_eq]⟩, fun p hp => ⟨by rw [bI_ne (by omega), bI_ne (by omega)]; exact e3 p hp, by rw [bI_ne (by omega), bI_ne (by omega)]; exact e2 p hp⟩⟩
theorem c_clear {c : Nat} (hk : kR c) (σ : bSto) : ∃ τ, f_X7_clear c σ = some τ ∧ AO (Bcr c) σ τ ∧ (τ.1 c 4 = nI 0 ∧ τ.1 (c + 1) 5 = nI 0) ∧ (τ.1 (c + 7) 7 = nI 0 ∧ τ.1 (c + 7) 8 = nI 0 ∧ τ.1 (c + 7) 9 = nI 0) ∧ (τ.1 (c + 15) 4 = nI 0 ∧ τ.1 (c + 15) 5 = nI 0) ∧ (τ.1 (c + 20) 2 = nI 0 ∧ τ.1 (c + 20) 3 = nI 0) ∧ ∀ p, p < 7 → τ.1 (c + 7 + 4) p = nI 0 ∧ τ.1 (c + 20 + 1) p = -2 ∧ τ.1 (c + 20 + 2) p = nI 0 := by
  have hk' : c = 7 ∨ c = 69 := hk
  have l1 : bln (c + 7 + 4) = 7 := by rcases hk' with rfl | rfl <;> rfl
  have l2 : bln (c + 20 + 1) = 7 := by rcases hk' with rfl | rfl <;> rfl
  have l3 : bln (c + 20 + 2) = 7 := by rcases hk' with rfl | rfl <;> rfl
  obtain ⟨s1, p1, q1, r1⟩ := c_cl3 (c + 1) (bI σ c 4 0)
  obtain ⟨s2, p2, q2, r2, r2'⟩ := c_cl2 l1 s1
  obtain ⟨s3, p3, q3, r3⟩ := c_cl10 (c + 15) s2
  obtain ⟨s4, p4, q4, r4, r4'⟩ := c_cl4 l2 l3 s3
  have q0 : AO (fun a _ => a = c) σ (bI σ c 4 0) := AO.set σ _ rfl
  have w4 : ∀ a k, a < c + 20 → s4.1 a k = s3.1 a k := fun a k z => q4.1 a k (by omega)
  have w3 : ∀ a k, a ≠ c + 15 → s3.1 a k = s2.1 a k := fun a k z => q3.1 a k z
  have w2 : ∀ a k, a < c + 7 → s2.1 a k = s1.1 a k := fun a k z => q2.1 a k (by omega)
  refine ⟨s4, ?_, ⟨fun a k hb => ?_, by rw [q4.2, q3.2, q2.2, q1.2, q0.2]⟩, ⟨?_, ?_⟩, ⟨?_, ?_, ?_⟩, ⟨?_, ?_⟩, r4, fun p hp => ⟨?_, (r4' p hp).1, (r4' p hp).2⟩⟩
  · rw [f_X7_clear, blet, p1, bbv_s, p2, bbv_s, p3, bbv_s, p4, bbv_s]
  · unfold Bcr at hb
    rw [q4.1 a k (by omega), q3.1 a k (by omega), q2.1 a k (by omega), q1.1 a k (by omega), q0.1 a k (by omega)]
  · rw [w4 _ _ (by omega), w3 _ _ (by omega), w2 _ _ (by omega), q1.1 c 4 (by omega), bI_eq]; rfl
  · rw [w4 _ _ (by omega), w3 _ _ (by omega), w2 _ _ (by omega), r1]; rfl
  · rw [w4 _ _ (by omega), w3 _ _ (by omega), r2.1]; rfl
  · rw [w4 _ _ (by omega), w3 _ _ (by omega), r2.2.1]; rfl
  · rw [w4 _ _ (by omega), w3 _ _ (by omega), r2.2.2]; rfl
  · rw [w4 _ _ (by omega), r3.1]; rfl
  · rw [w4 _ _ (by omega), r3.2]; rfl
  · rw [w4 _ _ (by omega), w3 _ _ (by omega), r2' p hp]; rfl
theorem ST.zero {c : Nat} {σ μ : bSto} (hk : kR c) (hc : σ.2.2 1 4 = c) (hK : CK σ) (h1 : σ.1 c 4 = nI 0 ∧ σ.1 (c + 1) 5 = nI 0) (h2 : σ.1 (c + 7) 7 = nI 0 ∧ σ.1 (c + 7) 8 = nI 0 ∧ σ.1 (c + 7) 9 = nI 0) (h3 : σ.1 (c + 15) 4 = nI 0 ∧ σ.1 (c + 15) 5 = nI 0) (h4 : σ.1 (c + 20) 3 = nI 0) (h5 : ∀ p, p < 7 → σ.1 (c + 7 + 4) p = nI 0 ∧ σ.1 (c + 20 + 1) p = -2 ∧ σ.1 (c + 20 + 2) p = nI 0) (hm : ∀ j, j < 406 → μ.1 96 j = nI 0) : ST c (fun _ => 0) (fun _ => 0) σ μ := by
  refine ⟨⟨hk, hc, hK⟩, ⟨fun j h _ => hm j h, fun p hp => hm _ (by omega)⟩, ⟨h1.1, by decide, fun _ => rfl, fun z => absurd rfl z⟩, ⟨by decide, h1.2, fun b hb => absurd hb (Nat.not_lt_zero _)⟩, ⟨by decide, h2.1, fun p hp => absurd hp (Nat.not_lt_zero _), fun p hp => ⟨(h5 p hp).2.1, fun _ => rfl⟩, h4⟩, ⟨fun m _ => ⟨Nat.zero_le _, fun j hj => absurd hj (Nat.not_lt_zero _)⟩, fun m _ => ⟨fun z => absurd rfl z, fun z => absurd z (Nat.not_lt_zero _)⟩, fun m _ => ⟨fun z => absurd rfl z, fun z => absurd z (Nat.not_lt_zero _)⟩, fun m m' _ _ z => absurd rfl z, fun b hb => absurd hb (Nat.not_lt_zero _), fun b hb => absurd hb (Nat.not_lt_zero _)⟩, ⟨by decide, h2.2.1, fun p hp => ⟨by show (0 : Nat) < 128; decide, (h5 p hp).1⟩⟩, ⟨by decide, h2.2.2, fun p q _ _ => Nat.zero_le _, fun p q _ _ _ => rfl, fun _ => 0, fun _ => 0, fun i hi => absurd hi (Nat.not_lt_zero _), fun p q _ _ => ⟨fun ⟨i, hi, _⟩ => absurd hi (Nat.not_lt_zero _), fun z => absurd rfl z⟩, fun bel p _ => ?_⟩, fun p hp => ⟨(h5 p hp).2.2, Nat.zero_le _, ⟨fun _ => rfl, fun _ => rfl⟩⟩, ⟨by decide, fun h _ => Nat.zero_le _, h3.1, h3.2, fun _ => 0, fun i hi => absurd hi (Nat.not_lt_zero _), fun h _ z => absurd rfl z⟩⟩
  show (0 : Int32) = ism (fun q => bel q * nI 0) 7
  have e : ∀ q, bel q * nI 0 = 0 := fun q => by show bel q * (0 : Int32) = 0; simp
  simp only [ism, e]
  rfl
theorem m_zeroL (x : Int32) : ∀ d i g μ, i + d = 406 → d < g → (∀ j, j < i → μ.1 96 j = nI 0) → ∃ τ, f_X12_room_L39 g x (nI i) μ = some (x, τ) ∧ AO (fun a _ => a = 96) μ τ ∧ ∀ j, j < 406 → τ.1 96 j = nI 0 := by
  intro d
  induction d with
  | zero =>
    intro i g μ hi hg hz
    obtain ⟨g, rfl⟩ : ∃ g', g = g' + 1 := ⟨g - 1, by omega⟩
    refine ⟨μ, ?_, AO.refl _ _, fun j hj => hz j (by omega)⟩
    rw [f_X12_room_L39]
    simp (disch := omega) only [q_lit, q_lt0, q_ge0, q_le, q_lt, q_eq, q_cl, q_add, q_mul, q_div, q_rem]
    rw [if_pos (by omega)]
  | succ d ih =>
    intro i g μ hi hg hz
    obtain ⟨g, rfl⟩ : ∃ g', g = g' + 1 := ⟨g - 1, by omega⟩
    have g1 : ¬ 406 ≤ i := by omega
    have hA : AO (fun a _ => a = 96) μ (bI μ 96 i (nI 0)) := AO.set μ _ rfl
    obtain ⟨τ, t1, t2, t3⟩ := ih (i + 1) g (bI μ 96 i (nI 0)) (by omega) (by omega) (fun j hj => by
      by_cases e : j = i
      · rw [e, bI_eq]
      · rw [bI_ne (by omega)]; exact hz j (by omega))
    refine ⟨τ, ?_, hA.trans t2, t3⟩
    rw [f_X12_room_L39]
    simp (disch := omega) only [q_lit, q_lt0, q_ge0, q_le, q_lt, q_eq, q_cl, q_add, q_mul, q_div, q_rem, Nat.not_lt_zero, false_or, if_false, g1, blet]
    exact t1
