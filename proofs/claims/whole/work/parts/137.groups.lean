/-! ===== what is told so far, class and reference (own work) ===== -/
def G1 (c : Nat) (u : Nat → Nat) (σ : bSto) : Prop := σ.1 c 4 = b2 (decide (u 0 ≠ 0)) ∧ u 0 ≤ 9 ∧ (u 0 = 0 → u 3 = 0) ∧ (u 0 ≠ 0 → ((1 ≤ u 1 ∧ u 1 ≤ 9) ∧ (1 ≤ u 2 ∧ u 2 ≤ 60) ∧ (u 9 % 10 ≤ 8 ∧ u 9 / 10 ≤ 8) ∧ u 10 ≤ 200) ∧ σ.1 (c + 1) 6 = nI (u 0) ∧ σ.1 (c + 1) 7 = nI (u 1) ∧ σ.1 (c + 1) 8 = nI (u 9 % 10) ∧ σ.1 (c + 1) 9 = nI (u 9 / 10) ∧ σ.1 (c + 1) 10 = nI (u 2) ∧ σ.1 (c + 20) 2 = nI (u 10))
def G2 (c : Nat) (u : Nat → Nat) (σ : bSto) : Prop := u 3 ≤ 6 ∧ σ.1 (c + 1) 5 = nI (u 3) ∧ ∀ b, b < u 3 → (u (11 + 4 * b) ≤ 2 ∧ (u (12 + 4 * b) % 10 ≤ 8 ∧ u (12 + 4 * b) / 10 ≤ 8) ∧ (1 ≤ u (13 + 4 * b) ∧ u (13 + 4 * b) ≤ 3) ∧ u (14 + 4 * b) ≤ 30) ∧ σ.1 (c + 1 + 1) b = nI (u (11 + 4 * b)) ∧ σ.1 (c + 1 + 2) b = nI (u (12 + 4 * b) % 10) ∧ σ.1 (c + 1 + 3) b = nI (u (12 + 4 * b) / 10) ∧ σ.1 (c + 1 + 4) b = nI (u (13 + 4 * b)) ∧ σ.1 (c + 1 + 5) b = nI (u (14 + 4 * b))
def G3 (c : Nat) (u : Nat → Nat) (σ : bSto) : Prop := u 4 ≤ 7 ∧ σ.1 (c + 7) 7 = nI (u 4) ∧ (∀ p, p < u 4 → (u (35 + 4 * p) ≤ 3 ∧ u (36 + 4 * p) ≤ 60 ∧ u (37 + 4 * p) ≤ u 3) ∧ (σ.1 (c + 7 + 1) p = nI (u (35 + 4 * p)) ∧ σ.1 (c + 7 + 3) p = nI (u (36 + 4 * p))) ∧ (twn u p ≤ 8 ∧ ltr (twl u p) (twn u p)) ∧ σ.2.1 (c + 7 + 2) p = nL (twc u p)) ∧ (∀ p, p < 7 → σ.1 (c + 20 + 1) p = sv (u (37 + 4 * p)) ∧ (u 4 ≤ p → u (37 + 4 * p) = 0)) ∧ σ.1 (c + 20) 3 = nI 0
def G4 (u : Nat → Nat) (σ : bSto) : Prop := N1 u ∧ N2 u ∧ N3 u ∧ N4 u ∧ N5 u σ ∧ N6 u σ
def G5 (c : Nat) (u : Nat → Nat) (σ : bSto) : Prop := u 5 ≤ 6 ∧ σ.1 (c + 7) 8 = nI (u 5) ∧ ∀ p, p < 7 → u (70 + p) < 128 ∧ σ.1 (c + 7 + 4) p = nI (u (70 + p))
def G6 (c : Nat) (u : Nat → Nat) (σ : bSto) : Prop := u 6 ≤ 9 ∧ σ.1 (c + 7) 9 = nI (u 6) ∧ (∀ p q, p < 7 → q < 7 → u (77 + 7 * p + q) ≤ 9) ∧ WFe u ∧ CVe c u σ
def G7 (c : Nat) (u : Nat → Nat) (bel : Nat → Int32) (σ : bSto) : Prop := ∀ p, p < 7 → σ.1 (c + 20 + 2) p = bel p ∧ u (63 + p) ≤ 1 ∧ (u (63 + p) = 0 ↔ bel p = 0)
def G8 (c : Nat) (u : Nat → Nat) (σ : bSto) : Prop := u 7 + u 8 ≤ 8 ∧ WFr u ∧ CVr c u σ
def MF (u : Nat → Nat) (bel : Nat → Int32) (μ : bSto) : Prop := (∀ j, j < 406 → ¬ (35 ≤ j ∧ j < 63 ∧ j % 4 = 2) → μ.1 96 j = nI (u j)) ∧ ∀ p, p < 7 → μ.1 96 (38 + 4 * p) = bel p
theorem G1.cg {c : Nat} {u u' : Nat → Nat} {σ σ' : bSto} (h : G1 c u σ) (hu : ∀ j, j ≤ 3 ∨ j = 9 ∨ j = 10 → u' j = u j) (hs : ∀ a k, (a = c ∧ k = 4) ∨ (a = c + 1 ∧ 6 ≤ k) ∨ (a = c + 20 ∧ k = 2) → σ'.1 a k = σ.1 a k) : G1 c u' σ' := by
  unfold G1
  rw [hu 0 (by omega), hu 1 (by omega), hu 2 (by omega), hu 3 (by omega), hu 9 (by omega), hu 10 (by omega), hs c 4 (by omega), hs (c + 1) 6 (by omega), hs (c + 1) 7 (by omega), hs (c + 1) 8 (by omega), hs (c + 1) 9 (by omega), hs (c + 1) 10 (by omega), hs (c + 20) 2 (by omega)]
  exact h
theorem G2.cg {c : Nat} {u u' : Nat → Nat} {σ σ' : bSto} (h : G2 c u σ) (hu : ∀ j, j = 3 ∨ (11 ≤ j ∧ j < 35) → u' j = u j) (hs : ∀ a k, (a = c + 1 ∧ k = 5) ∨ (c + 2 ≤ a ∧ a ≤ c + 6) → σ'.1 a k = σ.1 a k) : G2 c u' σ' := by
  obtain ⟨h1, h2, h3⟩ := h
  unfold G2
  rw [hu 3 (by omega), hs (c + 1) 5 (by omega)]
  refine ⟨h1, h2, fun b hb => ?_⟩
  rw [hu (11 + 4 * b) (by omega), hu (12 + 4 * b) (by omega), hu (13 + 4 * b) (by omega), hu (14 + 4 * b) (by omega), hs (c + 1 + 1) b (by omega), hs (c + 1 + 2) b (by omega), hs (c + 1 + 3) b (by omega), hs (c + 1 + 4) b (by omega), hs (c + 1 + 5) b (by omega)]
  exact h3 b hb
theorem twc_cg {u u' : Nat → Nat} {p : Nat} (hp : p < 7) (hu : ∀ j, 226 ≤ j ∧ j < 289 → u' j = u j) (hn : twn u p ≤ 8) : twn u' p = twn u p ∧ (∀ j, j < 8 → twl u' p j = twl u p j) ∧ twc u' p = twc u p := by
  have e1 : twn u' p = twn u p := hu _ (by omega)
  have e2 : ∀ j, j < 8 → twl u' p j = twl u p j := fun j hj => hu _ (by omega)
  refine ⟨e1, e2, ?_⟩
  rw [twc, twc, e1]
  exact wc_congr _ (fun j hj => e2 j (by omega))
theorem G3.cg {c : Nat} {u u' : Nat → Nat} {σ σ' : bSto} (h : G3 c u σ) (hu : ∀ j, j = 4 ∨ (35 ≤ j ∧ j < 63 ∧ j % 4 ≠ 2) ∨ (226 ≤ j ∧ j < 289) → u' j = u j) (h3' : u 3 ≤ u' 3) (hs : ∀ a k, (a = c + 7 ∧ k = 7) ∨ (c + 8 ≤ a ∧ a ≤ c + 10) ∨ a = c + 21 ∨ (a = c + 20 ∧ k = 3) → σ'.1 a k = σ.1 a k) (hl : ∀ k, σ'.2.1 (c + 7 + 2) k = σ.2.1 (c + 7 + 2) k) : G3 c u' σ' := by
  obtain ⟨h1, h2, h3, h4, h5⟩ := h
  unfold G3
  rw [hu 4 (by omega), hs (c + 7) 7 (by omega), hs (c + 20) 3 (by omega)]
  refine ⟨h1, h2, fun p hp => ?_, fun p hp => ?_, h5⟩
  · obtain ⟨⟨a1, a2, a3⟩, a4, a5, a6⟩ := h3 p hp
    obtain ⟨e1, e2, e3⟩ := twc_cg (u := u) (u' := u') (p := p) (by omega) (fun j hj => hu j (by omega)) a5.1
    rw [hu (35 + 4 * p) (by omega), hu (36 + 4 * p) (by omega), hu (37 + 4 * p) (by omega), hs (c + 7 + 1) p (by omega), hs (c + 7 + 3) p (by omega), hl, e1, e3]
    exact ⟨⟨a1, a2, by omega⟩, a4, ⟨a5.1, fun j hj => by rw [e2 j (by omega)]; exact a5.2 j hj⟩, a6⟩
  · rw [hu (37 + 4 * p) (by omega), hs (c + 20 + 1) p (by omega)]
    exact h4 p hp
theorem nmc_cg {u u' : Nat → Nat} {m : Nat} (hu : ∀ j, 289 ≤ j → u' j = u j) : nmc u' m = nmc u m := by
  rw [nmc, nmc, hu _ (by omega)]
  exact wc_congr _ (fun j hj => hu _ (by omega))
theorem G4.cg {u u' : Nat → Nat} {σ σ' : bSto} (h : G4 u σ) (hu : ∀ j, j = 3 ∨ j = 4 ∨ 289 ≤ j → u' j = u j) (hl : ∀ a k, a = 5 ∨ a = 6 → σ'.2.1 a k = σ.2.1 a k) : G4 u' σ' := by
  obtain ⟨h1, h2, h3, h4, h5, h6⟩ := h
  have hn : ∀ m, nmc u' m = nmc u m := fun m => nmc_cg (fun j hj => hu j (by omega))
  refine ⟨fun m hm => ?_, fun m hm => ?_, fun p hp => ?_, fun m m' hm hm' => ?_, fun b hb => ?_, fun p hp => ?_⟩
  · rw [hu (289 + m) (by omega)]
    exact ⟨(h1 m hm).1, fun j hj => by rw [show nml u' m j = nml u m j from hu _ (by omega)]; exact (h1 m hm).2 j hj⟩
  · rw [hu (289 + m) (by omega), hu 3 (by omega)]; exact h2 m hm
  · rw [hu (295 + p) (by omega), hu 4 (by omega)]; exact h3 p hp
  · rw [hu (289 + m) (by omega), hn, hn]; exact h4 m m' hm hm'
  · rw [hu 3 (by omega)] at hb
    rw [hl 5 b (by omega), hn]; exact h5 b hb
  · rw [hu 4 (by omega)] at hp
    rw [hl 6 p (by omega), hn]; exact h6 p hp
theorem G5.cg {c : Nat} {u u' : Nat → Nat} {σ σ' : bSto} (h : G5 c u σ) (hu : ∀ j, j = 5 ∨ (70 ≤ j ∧ j < 77) → u' j = u j) (hs : ∀ a k, (a = c + 7 ∧ k = 8) ∨ a = c + 11 → σ'.1 a k = σ.1 a k) : G5 c u' σ' := by
  obtain ⟨h1, h2, h3⟩ := h
  unfold G5
  rw [hu 5 (by omega), hs (c + 7) 8 (by omega)]
  refine ⟨h1, h2, fun p hp => ?_⟩
  rw [hu (70 + p) (by omega), hs (c + 7 + 4) p (by omega)]
  exact h3 p hp
theorem drw_cg {u u' : Nat → Nat} {bel : Nat → Int32} {p : Nat} (hp : p < 7) (hu : ∀ j, 77 ≤ j ∧ j < 126 → u' j = u j) : drw u' bel p = drw u bel p := ism_congr 7 (fun q hq => by rw [hu _ (by omega)])
theorem G6.cg {c : Nat} {u u' : Nat → Nat} {σ σ' : bSto} (h : G6 c u σ) (hu : ∀ j, j = 6 ∨ (77 ≤ j ∧ j < 126) → u' j = u j) (h4 : u 4 ≤ u' 4) (hs : ∀ a k, (a = c + 7 ∧ k = 9) ∨ (c + 12 ≤ a ∧ a ≤ c + 14) → σ'.1 a k = σ.1 a k) : G6 c u' σ' := by
  obtain ⟨h1, h2, h3, h5, a, d, h6, h7, h8⟩ := h
  unfold G6 CVe
  rw [hu 6 (by omega), hs (c + 7) 9 (by omega)]
  refine ⟨h1, h2, fun p q hp hq => by rw [hu _ (by omega)]; exact h3 p q hp hq, fun p q hp hq hv => by rw [hu _ (by omega)]; exact h5 p q hp hq (by omega), a, d, fun i hi => ?_, fun p q hp hq => ?_, fun bel p hp => ?_⟩
  · obtain ⟨a1, a2, a3, a4⟩ := h6 i hi
    rw [hs (c + 7 + 5) i (by omega), hs (c + 7 + 6) i (by omega)]
    exact ⟨by omega, by omega, a3, a4⟩
  · rw [hu _ (by omega)]; exact h7 p q hp hq
  · rw [drw_cg hp (fun j hj => hu j (by omega)), ← h8 bel p hp]
    exact ism_congr _ (fun i _ => by simp only [hs (c + 7 + 7) i (by omega)])
theorem G7.cg {c : Nat} {u u' : Nat → Nat} {bel : Nat → Int32} {σ σ' : bSto} (h : G7 c u bel σ) (hu : ∀ j, 63 ≤ j ∧ j < 70 → u' j = u j) (hs : ∀ k, σ'.1 (c + 20 + 2) k = σ.1 (c + 20 + 2) k) : G7 c u' bel σ' := fun p hp => by
  rw [hu _ (by omega), hs]
  exact h p hp
theorem G8.cg {c : Nat} {u u' : Nat → Nat} {σ σ' : bSto} (h : G8 c u σ) (hu : ∀ j, j = 7 ∨ j = 8 ∨ (126 ≤ j ∧ j < 226) → u' j = u j) (hs : ∀ a k, (a = c + 15 ∧ (k = 4 ∨ k = 5)) ∨ a = c + 16 ∨ a = c + 17 → σ'.1 a k = σ.1 a k) : G8 c u' σ' := by
  obtain ⟨h1, h2, h3, h4, hr, h5, h6⟩ := h
  unfold G8 CVr
  rw [hu 7 (by omega), hu 8 (by omega), hs (c + 15) 4 (by omega), hs (c + 15) 5 (by omega)]
  refine ⟨h1, fun h hh => by rw [hu _ (by omega)]; exact h2 h hh, h3, h4, hr, fun i hi => ?_, fun h hh hz => ?_⟩
  · obtain ⟨a1, a2, a3, a4⟩ := h5 i hi
    rw [hu _ (by omega), hs (c + 15 + 1) i (by omega), hs (c + 15 + 2) i (by omega)]
    exact ⟨a1, a2, a3, a4⟩
  · rw [hu _ (by omega)] at hz
    exact h6 h hh hz
/-- the whole of it -/
def ST (c : Nat) (u : Nat → Nat) (bel : Nat → Int32) (σ μ : bSto) : Prop := (kR c ∧ σ.2.2 1 4 = c ∧ CK σ) ∧ MF u bel μ ∧ G1 c u σ ∧ G2 c u σ ∧ G3 c u σ ∧ G4 u σ ∧ G5 c u σ ∧ G6 c u σ ∧ G7 c u bel σ ∧ G8 c u σ
theorem CK.al {B : Nat → Nat → Prop} {σ τ : bSto} (h : CK σ) (a : AL B σ τ) (hB : ∀ k, ¬ B 4 k) : CK τ := fun i hi => by rw [a.2.1 4 i (hB i)]; exact h i hi
theorem ST.tok {c : Nat} {u : Nat → Nat} {bel : Nat → Int32} {σ μ σ' μ' : bSto} (h : ST c u bel σ μ) (a : AL Bw σ σ') (b : AO Bv μ μ') : ST c u bel σ' μ' := by
  obtain ⟨⟨h1, h2, h3⟩, h4, g1, g2, g3, g4, g5, g6, g7, g8⟩ := h
  have hc : c = 7 ∨ c = 69 := h1
  have k := a.k
  have kl := a.kL
  have km := b.m
  refine ⟨⟨h1, by rw [a.2.2]; exact h2, h3.al a (fun k z => by unfold Bw at z; omega)⟩, ⟨fun j h h' => by rw [km]; exact h4.1 j h h', fun p hp => by rw [km]; exact h4.2 p hp⟩, g1.cg (fun _ _ => rfl) (fun a k' z => k a k' (by omega)), g2.cg (fun _ _ => rfl) (fun a k' z => k a k' (by omega)), g3.cg (fun _ _ => rfl) (Nat.le_refl _) (fun a k' z => k a k' (by omega)) (fun k' => kl _ k' (by omega)), g4.cg (fun _ _ => rfl) (fun a k' z => kl a k' (by omega)), g5.cg (fun _ _ => rfl) (fun a k' z => k a k' (by omega)), g6.cg (fun _ _ => rfl) (Nat.le_refl _) (fun a k' z => k a k' (by omega)), g7.cg (fun _ _ => rfl) (fun k' => k _ k' (by omega)), g8.cg (fun _ _ => rfl) (fun a k' z => k a k' (by omega))⟩
theorem MF.m9 {u : Nat → Nat} {bel : Nat → Int32} {μ : bSto} (h : MF u bel μ) : M9 u μ := fun j h1 h2 => h.1 j h2 (by omega)
theorem GD.both {c : Nat} {σ0 μ0 : bSto} {tx : Nat → Nat} {n k : Nat} {σ μ : bSto} (g : GD c σ0 μ0 tx n k σ μ) : ∃ σ' μ', f_X8_step σ = some σ' ∧ f_X12_next μ = some μ' ∧ GD c σ0 μ0 tx n (tkE tx n k) σ' μ' ∧ AL Bw σ σ' ∧ AO Bv μ μ' := by
  obtain ⟨σ', s1, s2, s3⟩ := g.1.step
  obtain ⟨μ', m1, m2, m3⟩ := g.2.1.next
  exact ⟨σ', μ', s1, m1, g.step (s3.mono B2_Bw) (m3.mono Bq_Bv) s2 m2 (by rw [m3.1 92 13 (by unfold Bq; omega)]; exact g.2.2.1), s3.mono B2_Bw, m3.mono Bq_Bv⟩
theorem PW_pers {c : Nat} {σ0 μ0 : bSto} {tx : Nat → Nat} {n k : Nat} {u : Nat → Nat} {bel : Nat → Int32} {σ μ : bSto} {K : bSto → Option (Int32 × bSto)} {M : Int32 → bSto → Option bSto} {Q : Nat → bSto → bSto → Prop} (S : ST c u bel σ μ) (g : GD c σ0 μ0 tx n k σ μ) (hG : ∀ p σ' μ', p < u 4 → σ'.1 1 7 = nI p → ST c u bel σ' μ' → GD c σ0 μ0 tx n k σ' μ' → PW c σ0 μ0 tx n (K σ') (M (nI p) μ') Q) (hF : ∀ μ', μ'.1 92 13 = nI 1 → FF (M 0 μ') μ') : PW c σ0 μ0 tx n (bbd (f_X9_findPerson σ) (fun v s => if v = 0 then some ((0 : Int32), s) else K s)) (bbd (f_X12_personHere μ) (fun v s => M v s)) Q := by
  have S' := S
  obtain ⟨⟨s1, s2, s3⟩, s4, g1, g2, g3, g4, -⟩ := S'
  obtain ⟨r, v, σ', μ', h1, h2, h3, h4, h5⟩ := pw_pers (u := u) g.1 g.2.1 g.2.2.1 s3 s1 s2 g3.2.1 g3.1 g4.1 g4.2.2.1 g4.2.2.2.1 g4.2.2.2.2.2 s4.m9
  rw [h1, h2]
  simp only [bbd]
  rcases h5 with ⟨rfl, p, p1, rfl, p3, a, b, e⟩ | ⟨rfl, rfl, a, b⟩
  · rw [if_neg (by decide)]
    exact hG p σ' μ' p1 p3 (S.tok h3 h4) (g.step h3 h4 a b e)
  · exact PW_bad (g.bad h3 h4 a) (if_pos rfl) (hF μ' b)
theorem passed_eq {M : Int32 → bSto → Option bSto} (μ : bSto) : bbd (f_X12_personPassed μ) (fun v s => M v s) = bbd (f_X12_personHere μ) (fun v s => if s.1 92 13 = 0 then bbv (f_X12_next s) (fun s => M v s) else M v s) := by
  rw [f_X12_personPassed]
  cases f_X12_personHere μ with
  | none => rfl
  | some q =>
    obtain ⟨v, s⟩ := q
    simp only [bbd]
    by_cases h : s.1 92 13 = 0
    · rw [if_pos h, if_pos h]
      cases f_X12_next s <;> rfl
    · rw [if_neg h, if_neg h]
/-- a fault told here -/
theorem PW_no {c : Nat} {σ0 μ0 : bSto} {tx : Nat → Nat} {n k : Nat} {σ μ : bSto} {M : bSto → Option bSto} {Q : Nat → bSto → bSto → Prop} (g : GD c σ0 μ0 tx n k σ μ) {x : Int32} (y : Nat) (hx : x = nI y) (hF : ∀ μ', μ'.1 92 13 = nI 1 → FF (M μ') μ') : PW c σ0 μ0 tx n (bbd (f_X9_blame x σ) (fun v s => if v = 0 ∨ v = 1 then some (v, s) else none)) (bbv (f_X12_wrong x (μ.1 92 4) μ) (fun s => M s)) Q := by
  obtain ⟨σ', μ', b1, b2', b3, b4, b5, b6⟩ := bad_pair g.1 g.2.1 g.2.2.1 y hx
  rw [b1, b2']
  simp only [bbd, bbv]
  exact PW_bad (g.bad b3 b4 b5) (if_pos (Or.inl trivial)) (hF μ' b6)
theorem PW_end {c : Nat} {σ0 μ0 : bSto} {tx : Nat → Nat} {n k : Nat} {σ μ : bSto} {Q : Nat → bSto → bSto → Prop} (g : GD c σ0 μ0 tx n k σ μ) (q : Q k σ μ) : PW c σ0 μ0 tx n (some ((1 : Int32), σ)) (some μ) Q := ⟨1, σ, μ, rfl, rfl, Or.inl ⟨rfl, k, g, q⟩⟩
