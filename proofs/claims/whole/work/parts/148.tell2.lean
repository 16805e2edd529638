/-! ===== a text told: class and reference (own work) ===== -/
def Bcr (c : Nat) : Nat → Nat → Prop := fun a _ => c ≤ a ∧ a < c + 23
theorem c_clear {c : Nat} (hk : kR c) (σ : bSto) : ∃ τ, f_X7_clear c σ = some τ ∧ AO (Bcr c) σ τ ∧ (τ.1 c 4 = nI 0 ∧ τ.1 (c + 1) 5 = nI 0) ∧ (τ.1 (c + 7) 7 = nI 0 ∧ τ.1 (c + 7) 8 = nI 0 ∧ τ.1 (c + 7) 9 = nI 0) ∧ (τ.1 (c + 15) 4 = nI 0 ∧ τ.1 (c + 15) 5 = nI 0) ∧ (τ.1 (c + 20) 2 = nI 0 ∧ τ.1 (c + 20) 3 = nI 0) ∧ ∀ p, p < 7 → τ.1 (c + 7 + 4) p = nI 0 ∧ τ.1 (c + 20 + 1) p = -2 ∧ τ.1 (c + 20 + 2) p = nI 0 := by
  have hk' : c = 7 ∨ c = 69 := hk
  have l1 : bln (c + 7 + 4) = 7 := by rcases hk' with rfl | rfl <;> decide
  have l2 : bln (c + 20 + 1) = 7 := by rcases hk' with rfl | rfl <;> decide
  have l3 : bln (c + 20 + 2) = 7 := by rcases hk' with rfl | rfl <;> decide
  rw [f_X7_clear]
  simp only [blet, f_X3_clear, f_X2_clear, f_X10_clear, f_X4_clear, bbv_s]
  rw [s_fill l1 (by decide)]
  simp only [bbv_s]
  rw [s_fill l2 (by decide)]
  simp only [bbv_s]
  rw [s_fill l3 (by decide)]
  simp only [bbv_s]
  refine ⟨_, rfl, ⟨fun a k hb => ?_, rfl⟩, ⟨?_, ?_⟩, ⟨?_, ?_, ?_⟩, ⟨?_, ?_⟩, ⟨?_, ?_⟩, fun p hp => ⟨?_, ?_, ?_⟩⟩
  · unfold Bcr at hb
    rw [bI_ne (by omega), bI_ne (by omega), bA_ne (by omega), bA_ne (by omega), bI_ne (by omega), bI_ne (by omega), bA_ne (by omega), bI_ne (by omega), bI_ne (by omega), bI_ne (by omega), bI_ne (by omega), bI_ne (by omega), bI_ne (by omega), bI_ne (by omega), bI_ne (by omega)]
  · rw [bI_ne (by omega), bI_ne (by omega), bA_ne (by omega), bA_ne (by omega), bI_ne (by omega), bI_ne (by omega), bA_ne (by omega), bI_ne (by omega), bI_ne (by omega), bI_ne (by omega), bI_ne (by omega), bI_ne (by omega), bI_ne (by omega), bI_ne (by omega), bI_eq]; rfl
  · rw [bI_ne (by omega), bI_ne (by omega), bA_ne (by omega), bA_ne (by omega), bI_ne (by omega), bI_ne (by omega), bA_ne (by omega), bI_ne (by omega), bI_ne (by omega), bI_ne (by omega), bI_ne (by omega), bI_ne (by omega), bI_ne (by omega), bI_eq]; rfl
  · rw [bI_ne (by omega), bI_ne (by omega), bA_ne (by omega), bA_ne (by omega), bI_ne (by omega), bI_ne (by omega), bA_ne (by omega), bI_ne (by omega), bI_ne (by omega), bI_eq]; rfl
  · rw [bI_ne (by omega), bI_ne (by omega), bA_ne (by omega), bA_ne (by omega), bI_ne (by omega), bI_ne (by omega), bA_ne (by omega), bI_ne (by omega), bI_eq]; rfl
  · rw [bI_ne (by omega), bI_ne (by omega), bA_ne (by omega), bA_ne (by omega), bI_ne (by omega), bI_ne (by omega), bA_ne (by omega), bI_eq]; rfl
  · rw [bI_ne (by omega), bI_ne (by omega), bA_ne (by omega), bA_ne (by omega), bI_ne (by omega), bI_eq]; rfl
  · rw [bI_ne (by omega), bI_ne (by omega), bA_ne (by omega), bA_ne (by omega), bI_eq]; rfl
  · rw [bI_ne (by omega), bI_eq]; rfl
  · rw [bI_eq]; rfl
  · rw [bI_ne (by omega), bI_ne (by omega), bA_ne (by omega), bA_ne (by omega), bI_ne (by omega), bI_ne (by omega), bA_eq]
    (try dsimp only)
    rw [if_pos hp]; rfl
  · rw [bI_ne (by omega), bI_ne (by omega), bA_ne (by omega), bA_eq]
    (try dsimp only)
    rw [if_pos hp]
  · rw [bI_ne (by omega), bI_ne (by omega), bA_eq]
    (try dsimp only)
    rw [if_pos hp]; rfl
theorem ST.zero {c : Nat} {σ μ : bSto} (hk : kR c) (hc : σ.2.2 1 4 = c) (hK : CK σ) (h1 : σ.1 c 4 = nI 0 ∧ σ.1 (c + 1) 5 = nI 0) (h2 : σ.1 (c + 7) 7 = nI 0 ∧ σ.1 (c + 7) 8 = nI 0 ∧ σ.1 (c + 7) 9 = nI 0) (h3 : σ.1 (c + 15) 4 = nI 0 ∧ σ.1 (c + 15) 5 = nI 0) (h4 : σ.1 (c + 20) 3 = nI 0) (h5 : ∀ p, p < 7 → σ.1 (c + 7 + 4) p = nI 0 ∧ σ.1 (c + 20 + 1) p = -2 ∧ σ.1 (c + 20 + 2) p = nI 0) (hm : ∀ j, j < 406 → μ.1 96 j = nI 0) : ST c (fun _ => 0) (fun _ => 0) σ μ := by
  refine ⟨⟨hk, hc, hK⟩, ⟨fun j h _ => hm j h, fun p hp => hm _ (by omega)⟩, ⟨h1.1, by decide, fun _ => rfl, fun z => absurd rfl z⟩, ⟨by decide, h1.2, fun b hb => absurd hb (Nat.not_lt_zero _)⟩, ⟨by decide, h2.1, fun p hp => absurd hp (Nat.not_lt_zero _), fun p hp => ⟨(h5 p hp).2.1, fun _ => rfl⟩, h4⟩, ⟨fun m _ => ⟨by decide, fun j hj => absurd hj (Nat.not_lt_zero _)⟩, fun m _ => ⟨fun z => absurd rfl z, fun z => absurd z (Nat.not_lt_zero _)⟩, fun m _ => ⟨fun z => absurd rfl z, fun z => absurd z (Nat.not_lt_zero _)⟩, fun m m' _ _ z => absurd rfl z, fun b hb => absurd hb (Nat.not_lt_zero _), fun b hb => absurd hb (Nat.not_lt_zero _)⟩, ⟨by decide, h2.2.1, fun p hp => ⟨by show (0 : Nat) < 128; decide, (h5 p hp).1⟩⟩, ⟨by decide, h2.2.2, fun p q _ _ => by decide, fun p q _ _ _ => rfl, fun _ => 0, fun _ => 0, fun i hi => absurd hi (Nat.not_lt_zero _), fun p q _ _ => ⟨fun ⟨i, hi, _⟩ => absurd hi (Nat.not_lt_zero _), fun z => absurd rfl z⟩, fun bel p _ => ?_⟩, fun p hp => ⟨(h5 p hp).2.2, by decide, ⟨fun _ => rfl, fun _ => rfl⟩⟩, ⟨by decide, fun h _ => by decide, h3.1, h3.2, fun _ => 0, fun i hi => absurd hi (Nat.not_lt_zero _), fun h _ z => absurd rfl z⟩⟩
  show (0 : Int32) = ism (fun q => bel q * nI 0) 7
  have e : ∀ q, bel q * nI 0 = 0 := fun q => by show bel q * (0 : Int32) = 0; simp
  simp only [ism, e]
  rfl
theorem m_zeroL (x : Int32) : ∀ d i g μ, i + d = 406 → d < g → (∀ j, j < i → μ.1 96 j = nI 0) → ∃ τ, f_X12_room_L39 g x (nI i) μ = some (x, τ) ∧ AO (fun a _ => a = 96) μ τ ∧ ∀ j, j < 406 → τ.1 96 j = nI 0 := by
  intro d
  induction d with
  | zero =>
    intro i g μ hi hg hz
    obtain ⟨g, rfl⟩ : ∃ g', g = g' + 1 := ⟨g - 1, by omega⟩
    refine ⟨μ, ?_, AO.refl _ _, fun j hj => hz j (by omega)⟩
    rw [f_X12_room_L39]
    simp (disch := omega) only [q_lit, q_lt0, q_ge0, q_le, q_lt, q_eq, q_cl, q_add, q_mul, q_div, q_rem]
    rw [if_pos (by omega)]
  | succ d ih =>
    intro i g μ hi hg hz
    obtain ⟨g, rfl⟩ : ∃ g', g = g' + 1 := ⟨g - 1, by omega⟩
    have g1 : ¬ 406 ≤ i := by omega
    have hA : AO (fun a _ => a = 96) μ (bI μ 96 i (nI 0)) := AO.set μ _ rfl
    obtain ⟨τ, t1, t2, t3⟩ := ih (i + 1) g (bI μ 96 i (nI 0)) (by omega) (by omega) (fun j hj => by
      by_cases e : j = i
      · rw [e, bI_eq]
      · rw [bI_ne (by omega)]; exact hz j (by omega))
    refine ⟨τ, ?_, hA.trans t2, t3⟩
    rw [f_X12_room_L39]
    simp (disch := omega) only [q_lit, q_lt0, q_ge0, q_le, q_lt, q_eq, q_cl, q_add, q_mul, q_div, q_rem, Nat.not_lt_zero, false_or, if_false, g1, blet]
    exact t1
/-- the tapes of class and reference -/
def TP (tx : Nat → Nat) (L : Nat) (σ μ : bSto) : Prop := (L ≤ 1000 ∧ ∀ j, tx j < 256) ∧ (σ.1 2 1 = nI L ∧ μ.1 92 2 = nI L) ∧ (∀ j, j < L → σ.1 3 j = sb (tx j)) ∧ ∀ j, j < L → μ.1 93 j = nI (tx j)
def Bz1 (c : Nat) : Nat → Nat → Prop := fun a k => a = 1 ∨ (a = 2 ∧ 2 ≤ k) ∨ a = 5 ∨ a = 6 ∨ (c ≤ a ∧ a < c + 23)
def By1 : Nat → Nat → Prop := fun a k => a = 94 ∨ a = 96 ∨ (a = 92 ∧ (k = 2 ∨ (3 ≤ k ∧ k ≤ 13 ∧ k ≠ 11)))
theorem r_tell {c : Nat} {tx : Nat → Nat} {L n : Nat} {σ μ : bSto} (hk : kR c) (hc : σ.2.2 1 4 = c) (hK : CK σ) (hT : TP tx L σ μ) (hn : n ≤ L) : ∃ r σ' μ', f_X9_tell (nI n) σ = some (r, σ') ∧ AL (Bz1 c) σ σ' ∧ AO By1 μ μ' ∧ μ'.1 92 2 = nI 0 ∧ (blet (bI μ 92 2 (0 : Int32)) (fun σ7 => blet (bI σ7 92 9 (0 : Int32)) (fun σ9 => blet (bI σ9 92 13 (0 : Int32)) (fun σ11 => bl1 (f_X12_room_L39 bFU (nI n) (0 : Int32) σ11) (fun x1_13 σ14 => blet (bI σ14 92 3 x1_13) (fun σ15 => blet (bI σ15 92 5 (0 : Int32)) (fun σ17 => bbv (f_X12_next σ17) (fun σ20 => bbv (f_X12_readLine σ20) (fun σ22 => bl0 (f_X12_room_L77 bFU σ22) (fun σ24 => f_X12_room_J104 σ24)))))))))) = f_X12_room_J162 μ' ∧ ((r = 1 ∧ σ'.1 1 5 = nI 0 ∧ σ'.1 1 6 = nI 0 ∧ μ'.1 92 9 = nI 0 ∧ μ'.1 92 13 = nI 0 ∧ ∃ u bel, ST c u bel σ' μ' ∧ 1 ≤ u 3) ∨ (r = 0 ∧ BDx σ' μ')) := by
  sorry
