/-! ===== what holds between two calls (own work) ===== -/
def Bx : Nat → Nat → Prop := fun a _ => (33 ≤ a ∧ a ≤ 35) ∨ (58 ≤ a ∧ a ≤ 68)
def Bn2 : Nat → Nat → Prop := fun a k => (100 ≤ a ∧ a < 110) ∨ (a = 92 ∧ (k = 11 ∨ k = 25 ∨ k = 26 ∨ k = 30 ∨ k = 33))
def Bs : Nat → Nat → Prop := fun a k => (33 ≤ a ∧ a ≤ 35) ∨ (58 ≤ a ∧ a ≤ 68) ∨ (100 ≤ a ∧ a < 110) ∨ (a = 0 ∧ k = 8) ∨ (a = 92 ∧ (k = 0 ∨ k = 11 ∨ k = 25 ∨ k = 26 ∨ k = 30 ∨ k = 33))
/-- no room is told -/
def NR (c : Nat) (σ : bSto) : Prop := (σ.1 c 4 = nI 0 ∧ σ.1 92 14 = nI 0) ∧ (σ.1 (c + 1) 5 = nI 0 ∧ σ.1 (c + 1) 6 = nI 0 ∧ σ.1 (c + 1) 7 = nI 0 ∧ σ.1 (c + 1) 10 = nI 0) ∧ (σ.1 (c + 7) 7 = nI 0 ∧ σ.1 (c + 7) 8 = nI 0 ∧ σ.1 (c + 7) 9 = nI 0) ∧ (σ.1 (c + 15) 4 = nI 0 ∧ σ.1 (c + 15) 5 = nI 0) ∧ (σ.1 30 2 = nI 0 ∧ σ.1 30 3 = nI 0) ∧ (σ.1 36 3 = nI 0 ∧ σ.1 36 4 = nI 0) ∧ (σ.1 92 20 = nI 0 ∧ σ.1 92 21 = nI 0)
/-- room v is told; seats, beliefs, sandwiches and day are so -/
def VW (c : Nat) (v s : Nat → Nat) (bel : Nat → Int32) (S D : Nat) (σ : bSto) : Prop := (σ.1 c 4 = nI 1 ∧ σ.1 92 14 = nI 1) ∧ (WF v ∧ WFt v ∧ WFe v ∧ WFr v) ∧ MV v σ ∧ (CVh c v σ ∧ CVf c v σ ∧ CVt c v σ ∧ CVe c v σ ∧ CVr c v σ ∧ FTv c v 77 σ) ∧ ((∀ p, s p ≤ v 3) ∧ (∀ p, v 4 ≤ p → s p = 0) ∧ CN 30 s σ ∧ MN 97 s σ) ∧ ((∀ q, q < 7 → σ.1 32 q = bel q) ∧ MB bel σ) ∧ (S ≤ 200 ∧ σ.1 30 2 = nI S ∧ σ.1 97 14 = nI S) ∧ (D ≤ 99 ∧ σ.1 30 3 = nI D ∧ σ.1 97 15 = nI D)
def INV (σ : bSto) : Prop := (∃ tx L, TP tx L σ σ) ∧ CK σ ∧ (kR (σ.2.2 0 7) ∧ kR (σ.2.2 1 4) ∧ σ.2.2 0 7 ≠ σ.2.2 1 4) ∧ (σ.1 0 8 = σ.1 92 11 ∧ σ.1 0 9 = σ.1 92 9 ∧ (σ.1 92 11 = nI 4 → σ.1 0 10 = σ.1 92 10)) ∧ (NR (σ.2.2 0 7) σ ∨ ∃ v s bel S D, VW (σ.2.2 0 7) v s bel S D σ ∧ ∃ n x m, PV v n x m σ)
theorem FTv.ao {B : Nat → Nat → Prop} {c : Nat} {v : Nat → Nat} {n : Nat} {σ τ : bSto} (h : FTv c v n σ) (ha : AO B σ τ) (hB : ∀ a k, B a k → a < c + 15 ∨ c + 20 ≤ a) : FTv c v n τ := by
  have e : ∀ a k, c + 15 ≤ a → a < c + 20 → τ.1 a k = σ.1 a k := fun a k h1 h2 => ha.1 a k (fun z => by have := hB a k z; omega)
  obtain ⟨h1, h2, h3⟩ := h
  refine ⟨by rw [e _ _ (by omega) (by omega)]; exact h1, fun d hd hf => ?_, fun h hh => ?_⟩
  · rw [e _ _ (by omega) (by omega)]; exact h2 d hd hf
  · rw [e _ _ (by omega) (by omega)]; exact h3 h hh
theorem VW.ao {c : Nat} {v s : Nat → Nat} {bel : Nat → Int32} {S D : Nat} {σ τ : bSto} (hk : kR c) (h : VW c v s bel S D σ) (ha : AO Bs σ τ) : VW c v s bel S D τ := by
  have hk' : c = 7 ∨ c = 69 := hk
  obtain ⟨⟨a1, a2⟩, a3, a4, ⟨b1, b2', b3, b4, b5, b6⟩, ⟨c1, c2, c3, c4⟩, ⟨d1, d2⟩, ⟨e1, e2, e3⟩, f1, f2, f3⟩ := h
  have e : ∀ a k, ¬ Bs a k → τ.1 a k = σ.1 a k := ha.1
  refine ⟨⟨by rw [e _ _ (by unfold Bs; omega)]; exact a1, by rw [e _ _ (by unfold Bs; omega)]; exact a2⟩, a3, a4.ao ha (fun k => by unfold Bs; omega), ⟨b1.ao ha (fun a k z => by unfold Bs at z; omega), b2'.ao ha (fun a k z => by unfold Bs at z; omega), fun p hp => by rw [ha.2]; exact b3 p hp, b4.ao ha (fun a k z => by unfold Bs at z; omega), b5.ao ha (fun a k z => by unfold Bs at z; omega), b6.ao ha (fun a k z => by unfold Bs at z; omega)⟩, ⟨c1, c2, c3.ao ha (fun k => by unfold Bs; omega), c4.ao ha (fun k => by unfold Bs; omega)⟩, ⟨fun q hq => by rw [e _ _ (by unfold Bs; omega)]; exact d1 q hq, d2.ao ha (fun k => by unfold Bs; omega)⟩, ⟨e1, by rw [e _ _ (by unfold Bs; omega)]; exact e2, by rw [e _ _ (by unfold Bs; omega)]; exact e3⟩, f1, by rw [e _ _ (by unfold Bs; omega)]; exact f2, by rw [e _ _ (by unfold Bs; omega)]; exact f3⟩
theorem NR.ao {c : Nat} {σ τ : bSto} (hk : kR c) (h : NR c σ) (ha : AO Bs σ τ) : NR c τ := by
  have hk' : c = 7 ∨ c = 69 := hk
  have e : ∀ a k, ¬ Bs a k → τ.1 a k = σ.1 a k := ha.1
  unfold NR
  rw [e c 4 (by unfold Bs; omega), e 92 14 (by unfold Bs; omega), e (c + 1) 5 (by unfold Bs; omega), e (c + 1) 6 (by unfold Bs; omega), e (c + 1) 7 (by unfold Bs; omega), e (c + 1) 10 (by unfold Bs; omega), e (c + 7) 7 (by unfold Bs; omega), e (c + 7) 8 (by unfold Bs; omega), e (c + 7) 9 (by unfold Bs; omega), e (c + 15) 4 (by unfold Bs; omega), e (c + 15) 5 (by unfold Bs; omega), e 30 2 (by unfold Bs; omega), e 30 3 (by unfold Bs; omega), e 36 3 (by unfold Bs; omega), e 36 4 (by unfold Bs; omega), e 92 20 (by unfold Bs; omega), e 92 21 (by unfold Bs; omega)]
  exact h
theorem INV.keep {σ τ : bSto} (h : INV σ) (ha : AO Bs σ τ) (h1 : τ.1 0 8 = τ.1 92 11) (h2 : τ.1 92 11 = nI 4 → τ.1 0 10 = τ.1 92 10) : INV τ := by
  obtain ⟨⟨tx, L, t1, ⟨t2, t3⟩, t4, t5⟩, h3, h4, ⟨-, h6, -⟩, h8⟩ := h
  have e : ∀ a k, ¬ Bs a k → τ.1 a k = σ.1 a k := ha.1
  have er : τ.2.2 = σ.2.2 := by rw [ha.2]
  unfold INV
  rw [er]
  refine ⟨⟨tx, L, t1, ⟨by rw [e _ _ (by unfold Bs; omega)]; exact t2, by rw [e _ _ (by unfold Bs; omega)]; exact t3⟩, fun j hj => by rw [e _ _ (by unfold Bs; omega)]; exact t4 j hj, fun j hj => by rw [e _ _ (by unfold Bs; omega)]; exact t5 j hj⟩, fun i hi => by rw [ha.2]; exact h3 i hi, h4, ⟨h1, by rw [e _ _ (by unfold Bs; omega), e _ _ (by unfold Bs; omega)]; exact h6, h2⟩, ?_⟩
  rcases h8 with h8 | ⟨v, s, bel, S, D, h8, n, x, m, h9⟩
  · exact Or.inl (h8.ao h4.1 ha)
  · exact Or.inr ⟨v, s, bel, S, D, h8.ao h4.1 ha, n, x, m, h9.ao ha (fun a k z => by unfold Bs at z; omega)⟩
theorem good_eq (σ : bSto) : f_X12_good σ = some (bI (bI σ 92 0 0) 92 11 0) := rfl
theorem ref_eq (x : Int32) (σ : bSto) : f_X11_refused x σ = some ((-1 : Int32), bI σ 0 8 x) := rfl
theorem refW_eq (x y : Int32) (σ : bSto) : f_X11_refusedWith x y σ = some (y, bI σ 0 8 x) := rfl
theorem ans_eq (x : Int32) (σ : bSto) : f_X11_answered x σ = some (x, bI σ 0 8 0) := rfl
theorem done_eq (σ : bSto) : f_X11_done σ = some ((1 : Int32), bI σ 0 8 0) := rfl
theorem notD_eq (x : Int32) (σ : bSto) : f_X11_notDone x σ = some ((0 : Int32), bI σ 0 8 x) := rfl
theorem no_eq (x : Int32) (σ : bSto) : f_X12_no x σ = some ((-1 : Int32), bI σ 92 11 x) := rfl
theorem less_eq (x : Int32) (σ : bSto) : f_X12_less x σ = some ((-1000 : Int32), bI σ 92 11 x) := rfl
theorem isNot_eq (x : Int32) (σ : bSto) : f_X12_isNot x σ = some ((0 : Int32), bI σ 92 11 x) := rfl
/-- a call that asks: class and reference answer alike -/
theorem OP {C M' : bSto → Option (Int32 × bSto)} {σ : bSto} (hI : INV σ) (r : Int32) (t : Nat) (ht : t ≤ 6 ∧ t ≠ 4) (hC : ∃ σa, C σ = some (r, bI σa 0 8 (nI t)) ∧ AO Bx σ σa) (hM : ∀ τ, AO Bs σ τ → τ.1 92 11 = nI 0 → ∃ τ2, M' τ = some (r, τ2) ∧ AO Bn2 τ τ2 ∧ τ2.1 92 11 = nI t) : ∃ r σ1 σ2, C σ = some (r, σ1) ∧ bbv (f_X12_good σ1) (fun s => M' s) = some (r, σ2) ∧ INV σ2 := by
  obtain ⟨σa, c1, c2⟩ := hC
  have hA1 : AO Bs σ (bI σa 0 8 (nI t)) := (c2.mono (fun a k z => by unfold Bx at z; unfold Bs; omega)).trans (AO.set _ _ (by unfold Bs; omega))
  have hA2 : AO Bs σ (bI (bI (bI σa 0 8 (nI t)) 92 0 0) 92 11 0) := (hA1.trans (AO.set _ _ (by unfold Bs; omega))).trans (AO.set _ _ (by unfold Bs; omega))
  obtain ⟨τ2, m1, m2, m3⟩ := hM _ hA2 (by rw [bI_eq]; rfl)
  refine ⟨r, _, τ2, c1, ?_, ?_⟩
  · rw [good_eq, bbv_s]; exact m1
  · have hA3 : AO Bs σ τ2 := hA2.trans (m2.mono (fun a k z => by unfold Bn2 at z; unfold Bs; omega))
    refine hI.keep hA3 ?_ (fun z => ?_)
    · rw [m3, m2.1 0 8 (by unfold Bn2; omega), bI_ne (by omega), bI_ne (by omega), bI_eq]
    · rw [m3, q_eq (by omega) (by omega)] at z
      exact absurd z ht.2
/-- it refuses -/
theorem OP_no {C M' : bSto → Option (Int32 × bSto)} {σ : bSto} (hI : INV σ) (r : Int32) (t : Nat) (ht : t ≤ 6 ∧ t ≠ 4) (hC : C σ = some (r, bI σ 0 8 (nI t))) (hM : ∀ τ, AO Bs σ τ → M' τ = some (r, bI τ 92 11 (nI t))) : ∃ r σ1 σ2, C σ = some (r, σ1) ∧ bbv (f_X12_good σ1) (fun s => M' s) = some (r, σ2) ∧ INV σ2 :=
  OP hI r t ht ⟨σ, hC, AO.refl _ _⟩ (fun τ hA _ => ⟨_, hM τ hA, AO.set _ _ (by unfold Bn2; omega), bI_eq _ _ _ _⟩)
/-- it answers, and nothing else changes -/
theorem OP_yes {C M' : bSto → Option (Int32 × bSto)} {σ : bSto} (hI : INV σ) (r : Int32) (hC : C σ = some (r, bI σ 0 8 (nI 0))) (hM : ∀ τ, AO Bs σ τ → M' τ = some (r, τ)) : ∃ r σ1 σ2, C σ = some (r, σ1) ∧ bbv (f_X12_good σ1) (fun s => M' s) = some (r, σ2) ∧ INV σ2 :=
  OP hI r 0 (by decide) ⟨σ, hC, AO.refl _ _⟩ (fun τ hA h0 => ⟨_, hM τ hA, AO.refl _ _, h0⟩)
theorem in_has {n : Nat} (hn : n ≤ 7) (x : Int32) (σ : bSto) : f_X12_in x (0 : Int32) (nI n - (1 : Int32)) σ = some (b2 (decide (∃ j, j < n ∧ x = nI j)), σ) := by
  by_cases hx : x < 0
  · rw [decide_eq_false (show ¬ ∃ j, j < n ∧ x = nI j from fun ⟨j, hj, e⟩ => nI_pos (n := j) (by omega) (by rw [← e]; exact hx)), f_X12_in, if_pos hx]
    rfl
  · obtain ⟨j, hj, rfl⟩ := nI_of hx
    by_cases h0 : n = 0
    · subst h0
      rw [decide_eq_false (by rintro ⟨i, hi, -⟩; omega), f_X12_in, if_neg hx]
      have : ¬ nI j ≤ nI 0 - 1 := by
        intro z
        have e : (nI 0 - 1 : Int32) = -1 := by decide
        rw [e] at z
        have := Int32.le_iff_toInt_le.mp z
        rw [nI_toInt hj] at this
        have e2 : (-1 : Int32).toInt = -1 := by decide
        omega
      rw [if_pos (Int32.not_le.mp this)]
      rfl
    · rw [pred_nI (by omega), show (0 : Int32) = nI 0 from rfl, s_in hj (by omega) (by omega)]
      have e : decide (0 ≤ j ∧ j ≤ n - 1) = decide (∃ i, i < n ∧ nI j = nI i) := by
        refine decide_eq_decide.mpr ⟨fun z => ⟨j, by omega, rfl⟩, ?_⟩
        rintro ⟨i, hi, e⟩
        rw [q_eq hj (by omega)] at e
        omega
      rw [e]
