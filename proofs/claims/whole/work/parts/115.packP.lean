/-! ===== packing: the numbers (own work) ===== -/
/-- the options i, i + 1 .. of which P is so, put together with what is last -/
def fo {T : Type} (cm : T → T → T) (P : Nat → Bool) (x : Nat → T) (last : T) : Nat → Nat → T
  | 0, _ => last
  | k + 1, i => if P i then cm (x i) (fo cm P x last k (i + 1)) else fo cm P x last k (i + 1)
theorem fo_left {T : Type} (cm : T → T → T) (ha : ∀ x y z, cm (cm x y) z = cm x (cm y z)) (P : Nat → Bool) (x : Nat → T) (last : T) : ∀ k i st, cm (itr (fun b st => if P b then cm st (x b) else st) k i st) last = cm st (fo cm P x last k i)
  | 0, _, _ => rfl
  | k + 1, i, st => by
    rw [itr, fo, fo_left cm ha P x last k (i + 1)]
    by_cases h : P i = true
    · rw [if_pos h, if_pos h, ha]
    · rw [if_neg h, if_neg h]
theorem fo_congr {T : Type} {cm : T → T → T} {P Q : Nat → Bool} {x y : Nat → T} {last : T} : ∀ k i, (∀ b, i ≤ b → b < i + k → P b = Q b ∧ (P b = true → x b = y b)) → fo cm P x last k i = fo cm Q y last k i
  | 0, _, _ => rfl
  | k + 1, i, h => by
    obtain ⟨h1, h2⟩ := h i (Nat.le_refl _) (by omega)
    rw [fo, fo, ← h1, fo_congr k (i + 1) (fun b h1 h2 => h b (by omega) (by omega))]
    by_cases e : P i = true
    · rw [if_pos e, if_pos e, h2 e]
    · rw [if_neg e, if_neg e]
/-- more first; of as many the less rent -/
def cb (x y : Nat × Nat) : Nat × Nat := if x.1 < y.1 then y else if y.1 = x.1 then (x.1, min x.2 y.2) else x
def ge2 (x y : Nat × Nat) : Prop := y.1 ≤ x.1 ∧ (y.1 = x.1 → x.2 ≤ y.2)
theorem ge2_refl (x : Nat × Nat) : ge2 x x := ⟨Nat.le_refl _, fun _ => Nat.le_refl _⟩
theorem ge2_trans {x y z : Nat × Nat} (h1 : ge2 x y) (h2 : ge2 y z) : ge2 x z := ⟨Nat.le_trans h2.1 h1.1, fun e => by
  have a := h1.1
  have b := h2.1
  exact Nat.le_trans (h1.2 (by omega)) (h2.2 (by omega))⟩
theorem cb_l (x y : Nat × Nat) : ge2 (cb x y) x := by
  unfold cb ge2
  by_cases h1 : x.1 < y.1
  · rw [if_pos h1]; omega
  · rw [if_neg h1]
    by_cases h2 : y.1 = x.1
    · rw [if_pos h2]; exact ⟨Nat.le_refl _, fun _ => Nat.min_le_left _ _⟩
    · rw [if_neg h2]; exact ⟨Nat.le_refl _, fun _ => Nat.le_refl _⟩
theorem cb_r (x y : Nat × Nat) : ge2 (cb x y) y := by
  unfold cb ge2
  by_cases h1 : x.1 < y.1
  · rw [if_pos h1]; exact ⟨Nat.le_refl _, fun _ => Nat.le_refl _⟩
  · rw [if_neg h1]
    by_cases h2 : y.1 = x.1
    · rw [if_pos h2]; exact ⟨by show y.1 ≤ x.1; omega, fun _ => Nat.min_le_right _ _⟩
    · rw [if_neg h2]; exact ⟨by omega, fun h => by omega⟩
theorem cb_or (x y : Nat × Nat) : cb x y = x ∨ cb x y = y := by
  unfold cb
  by_cases h1 : x.1 < y.1
  · rw [if_pos h1]; exact Or.inr rfl
  · rw [if_neg h1]
    by_cases h2 : y.1 = x.1
    · rw [if_pos h2]
      rcases Nat.le_total x.2 y.2 with h | h
      · left; rw [Nat.min_eq_left h]
      · right; rw [Nat.min_eq_right h, ← h2]
    · rw [if_neg h2]; exact Or.inl rfl
theorem fo_cb (P : Nat → Bool) (x : Nat → Nat × Nat) (last : Nat × Nat) : ∀ k i, ge2 (fo cb P x last k i) last ∧ (∀ b, i ≤ b → b < i + k → P b = true → ge2 (fo cb P x last k i) (x b)) ∧ (fo cb P x last k i = last ∨ ∃ b, i ≤ b ∧ b < i + k ∧ P b = true ∧ fo cb P x last k i = x b)
  | 0, i => ⟨ge2_refl _, fun b h1 h2 => by omega, Or.inl rfl⟩
  | k + 1, i => by
    obtain ⟨h1, h2, h3⟩ := fo_cb P x last k (i + 1)
    rw [fo]
    by_cases h : P i = true
    · rw [if_pos h]
      refine ⟨ge2_trans (cb_r _ _) h1, fun b a1 a2 a3 => ?_, ?_⟩
      · by_cases e : b = i
        · rw [e]; exact cb_l _ _
        · exact ge2_trans (cb_r _ _) (h2 b (by omega) (by omega) a3)
      · rcases cb_or (x i) (fo cb P x last k (i + 1)) with e | e
        · exact Or.inr ⟨i, Nat.le_refl _, by omega, h, e⟩
        · rw [e]
          rcases h3 with h3 | ⟨b, b1, b2, b3, b4⟩
          · exact Or.inl h3
          · exact Or.inr ⟨b, by omega, by omega, b3, b4⟩
    · rw [if_neg h]
      refine ⟨h1, fun b a1 a2 a3 => ?_, ?_⟩
      · by_cases e : b = i
        · rw [e] at a3; exact absurd a3 h
        · exact h2 b (by omega) (by omega) a3
      · rcases h3 with h3 | ⟨b, b1, b2, b3, b4⟩
        · exact Or.inl h3
        · exact Or.inr ⟨b, by omega, by omega, b3, b4⟩
/-- the seats, one less on b -/
def dcs (s : Nat → Nat) (b : Nat) : Nat → Nat := fun i => if i = b then s i - 1 else s i
/-- what packing asks: people, benches, who may and can sit where, the rents -/
def PK : Type := Nat × Nat × (Nat → Nat → Bool) × (Nat → Nat)
def mkPK (n nb : Nat) (ok : Nat → Nat → Bool) (rt : Nat → Nat) : PK := (n, nb, ok, rt)
def PK.n (K : PK) : Nat := Prod.fst (α := Nat) (β := Nat × (Nat → Nat → Bool) × (Nat → Nat)) K
def PK.nb (K : PK) : Nat := (Prod.snd (α := Nat) (β := Nat × (Nat → Nat → Bool) × (Nat → Nat)) K).1
def PK.ok (K : PK) : Nat → Nat → Bool := (Prod.snd (α := Nat) (β := Nat × (Nat → Nat → Bool) × (Nat → Nat)) K).2.1
def PK.rt (K : PK) : Nat → Nat := (Prod.snd (α := Nat) (β := Nat × (Nat → Nat → Bool) × (Nat → Nat)) K).2.2
/-- the most of A, from place n - j on, who can sit; the least rent of so many -/
def pk (K : PK) : Nat → (Nat → Bool) → (Nat → Nat) → Nat × Nat
  | 0, _, _ => (0, 0)
  | j + 1, A, s => if A (K.n - (j + 1)) then fo cb (fun b => K.ok (K.n - (j + 1)) b && decide (0 < s b)) (fun b => (1 + (pk K j A (dcs s b)).1, K.rt b + (pk K j A (dcs s b)).2)) (pk K j A s) K.nb 0 else pk K j A s
theorem pk_congrA (K : PK) : ∀ j (A E : Nat → Bool) s, j ≤ K.n → (∀ i, K.n - j ≤ i → i < K.n → A i = E i) → pk K j A s = pk K j E s := by
  intro j
  induction j with
  | zero => intro A E s _ _; rfl
  | succ j ih =>
    intro A E s hj h
    rw [pk, pk, h (K.n - (j + 1)) (Nat.le_refl _) (by omega), ih A E s (by omega) (fun i h1 h2 => h i (by omega) h2)]
    split
    · apply fo_congr
      intro b _ _
      exact ⟨rfl, fun _ => by rw [ih A E (dcs s b) (by omega) (fun i h1 h2 => h i (by omega) h2)]⟩
    · rfl
theorem pk_congrS (K : PK) : ∀ j (A : Nat → Bool) (s z : Nat → Nat), (∀ b, b < K.nb → s b = z b) → pk K j A s = pk K j A z := by
  intro j
  induction j with
  | zero => intro A s z _; rfl
  | succ j ih =>
    intro A s z h
    rw [pk, pk, ih A s z h]
    split
    · apply fo_congr
      intro b _ hb
      refine ⟨by rw [h b (by omega)], fun _ => by rw [ih A (dcs s b) (dcs z b) (fun i hi => by unfold dcs; rw [h i hi])]⟩
    · rfl
def Ysz (K : PK) (Y : Nat → Nat) (j : Nat) : Nat := sm (fun t => (!(Y (K.n - 1 - t) == 0)).toNat) j
def Yct (K : PK) (Y : Nat → Nat) (b j : Nat) : Nat := sm (fun t => (Y (K.n - 1 - t) == b + 1).toNat) j
def Yrn (K : PK) (Y : Nat → Nat) (j : Nat) : Nat := sm (fun t => if Y (K.n - 1 - t) = 0 then 0 else K.rt (Y (K.n - 1 - t) - 1)) j
def fea (K : PK) (A : Nat → Bool) (s Y : Nat → Nat) (j : Nat) : Prop := (∀ t, t < j → Y (K.n - 1 - t) ≠ 0 → A (K.n - 1 - t) = true ∧ Y (K.n - 1 - t) - 1 < K.nb ∧ K.ok (K.n - 1 - t) (Y (K.n - 1 - t) - 1) = true) ∧ ∀ b, b < K.nb → Yct K Y b j ≤ s b
theorem pk_opt (K : PK) : ∀ j (A : Nat → Bool) (s : Nat → Nat), j ≤ K.n → (∃ Y, fea K A s Y j ∧ Ysz K Y j = (pk K j A s).1 ∧ Yrn K Y j = (pk K j A s).2) ∧ ∀ Y, fea K A s Y j → ge2 (pk K j A s) (Ysz K Y j, Yrn K Y j) := by
  intro j
  induction j with
  | zero =>
    intro A s _
    refine ⟨⟨fun _ => 0, ⟨fun t ht => by omega, fun b _ => Nat.zero_le _⟩, rfl, rfl⟩, fun Y _ => ge2_refl _⟩
  | succ j ih =>
    intro A s hj
    have hput : ∀ (Y : Nat → Nat) (x : Nat), let Z := fun i => if i = K.n - 1 - j then x else Y i
        Z (K.n - 1 - j) = x ∧ ∀ t, t < j → Z (K.n - 1 - t) = Y (K.n - 1 - t) := by
      intro Y x
      exact ⟨if_pos rfl, fun t ht => if_neg (by omega)⟩
    have hp : K.n - (j + 1) = K.n - 1 - j := by omega
    rw [pk, hp]
    by_cases hA : A (K.n - 1 - j) = true
    · rw [if_pos hA]
      obtain ⟨f1, f2, f3⟩ := fo_cb (fun b => K.ok (K.n - 1 - j) b && decide (0 < s b)) (fun b => (1 + (pk K j A (dcs s b)).1, K.rt b + (pk K j A (dcs s b)).2)) (pk K j A s) K.nb 0
      constructor
      · rcases f3 with f3 | ⟨b, -, b2, b3, b4⟩
        · obtain ⟨⟨Y, y1, y2, y3⟩, -⟩ := ih A s (by omega)
          obtain ⟨z1, z2⟩ := hput Y 0
          refine ⟨fun i => if i = K.n - 1 - j then 0 else Y i, ⟨fun t ht hz => ?_, fun b hb => ?_⟩, ?_, ?_⟩
          · by_cases e : t = j
            · rw [e] at hz; exact absurd z1 hz
            · rw [z2 t (by omega)] at hz ⊢
              exact y1.1 t (by omega) hz
          · have : Yct K (fun i => if i = K.n - 1 - j then 0 else Y i) b (j + 1) = Yct K Y b j := by
              unfold Yct
              rw [sm, z1, sm_congr j (fun t ht => by rw [z2 t ht])]
              simp
            rw [this]; exact y1.2 b hb
          · rw [f3, ← y2]
            unfold Ysz
            rw [sm, z1, sm_congr j (fun t ht => by rw [z2 t ht])]
            simp
          · rw [f3, ← y3]
            unfold Yrn
            rw [sm, z1, sm_congr j (fun t ht => by rw [z2 t ht])]
            simp
        · simp only [Bool.and_eq_true, decide_eq_true_eq] at b3
          obtain ⟨⟨Y, y1, y2, y3⟩, -⟩ := ih A (dcs s b) (by omega)
          obtain ⟨z1, z2⟩ := hput Y (b + 1)
          refine ⟨fun i => if i = K.n - 1 - j then b + 1 else Y i, ⟨fun t ht hz => ?_, fun b' hb => ?_⟩, ?_, ?_⟩
          · by_cases e : t = j
            · rw [e, z1]
              exact ⟨hA, by omega, by rw [Nat.add_sub_cancel]; exact b3.1⟩
            · rw [z2 t (by omega)] at hz ⊢
              exact y1.1 t (by omega) hz
          · have h1 : Yct K (fun i => if i = K.n - 1 - j then b + 1 else Y i) b' (j + 1) = Yct K Y b' j + (b + 1 == b' + 1).toNat := by
              unfold Yct
              rw [sm, z1, sm_congr j (fun t ht => by rw [z2 t ht])]
            have h2 := y1.2 b' hb
            rw [h1]
            unfold dcs at h2
            by_cases e : b' = b
            · subst e
              rw [if_pos rfl] at h2
              simp
              omega
            · rw [if_neg e] at h2
              rw [beq_eq_false_iff_ne.mpr (show b + 1 ≠ b' + 1 by omega)]
              exact h2
          · rw [b4, ← y2]
            unfold Ysz
            rw [sm, z1, sm_congr j (fun t ht => by rw [z2 t ht])]
            simp
            omega
          · rw [b4, ← y3]
            unfold Yrn
            rw [sm, z1, sm_congr j (fun t ht => by rw [z2 t ht])]
            simp
            omega
      · intro Y hY
        have hs : Ysz K Y (j + 1) = Ysz K Y j + (!(Y (K.n - 1 - j) == 0)).toNat := rfl
        have hr : Yrn K Y (j + 1) = Yrn K Y j + if Y (K.n - 1 - j) = 0 then 0 else K.rt (Y (K.n - 1 - j) - 1) := rfl
        have hc : ∀ b, Yct K Y b (j + 1) = Yct K Y b j + (Y (K.n - 1 - j) == b + 1).toNat := fun b => rfl
        by_cases e : Y (K.n - 1 - j) = 0
        · have h1 : fea K A s Y j := ⟨fun t ht => hY.1 t (by omega), fun b hb => by have := hY.2 b hb; rw [hc] at this; omega⟩
          have h2 := (ih A s (by omega)).2 Y h1
          rw [hs, hr, e, if_pos rfl]
          exact ge2_trans f1 h2
        · obtain ⟨-, g1, g2⟩ := hY.1 j (by omega) e
          generalize hb : Y (K.n - 1 - j) - 1 = b at g1 g2
          have hyb : Y (K.n - 1 - j) = b + 1 := by omega
          have hsb : 0 < s b := by
            have := hY.2 b g1
            rw [hc, hyb] at this
            simp at this
            omega
          have h1 : fea K A (dcs s b) Y j := by
            refine ⟨fun t ht => hY.1 t (by omega), fun b' hb' => ?_⟩
            have := hY.2 b' hb'
            rw [hc, hyb] at this
            unfold dcs
            by_cases e2 : b' = b
            · subst e2
              rw [if_pos rfl]
              simp at this
              omega
            · rw [if_neg e2]
              omega
          have h2 := (ih A (dcs s b) (by omega)).2 Y h1
          have h3 := f2 b (Nat.zero_le _) (by omega) (by simp [g2, hsb])
          rw [hs, hr, hyb, if_neg (by omega), Nat.add_sub_cancel]
          refine ge2_trans h3 ⟨?_, fun z => ?_⟩
          · have := h2.1
            simp at this ⊢
            omega
          · have h4 := h2.2
            simp at z h4 ⊢
            have := h4 (by omega)
            omega
    · rw [if_neg hA]
      have hA2 : A (K.n - 1 - j) = false := by simpa using hA
      obtain ⟨⟨Y, y1, y2, y3⟩, y4⟩ := ih A s (by omega)
      obtain ⟨z1, z2⟩ := hput Y 0
      refine ⟨⟨fun i => if i = K.n - 1 - j then 0 else Y i, ⟨fun t ht hz => ?_, fun b hb => ?_⟩, ?_, ?_⟩, fun Y hY => ?_⟩
      · by_cases e : t = j
        · rw [e] at hz; exact absurd z1 hz
        · rw [z2 t (by omega)] at hz ⊢
          exact y1.1 t (by omega) hz
      · have : Yct K (fun i => if i = K.n - 1 - j then 0 else Y i) b (j + 1) = Yct K Y b j := by
          unfold Yct
          rw [sm, z1, sm_congr j (fun t ht => by rw [z2 t ht])]
          simp
        rw [this]; exact y1.2 b hb
      · rw [← y2]
        unfold Ysz
        rw [sm, z1, sm_congr j (fun t ht => by rw [z2 t ht])]
        simp
      · rw [← y3]
        unfold Yrn
        rw [sm, z1, sm_congr j (fun t ht => by rw [z2 t ht])]
        simp
      · have e : Y (K.n - 1 - j) = 0 := by
          apply Classical.byContradiction
          intro hz
          have := (hY.1 j (by omega) hz).1
          rw [hA2] at this
          cases this
        have h1 : fea K A s Y j := ⟨fun t ht => hY.1 t (by omega), fun b hb => by
          have := hY.2 b hb
          rw [show Yct K Y b (j + 1) = Yct K Y b j + (Y (K.n - 1 - j) == b + 1).toNat from rfl] at this
          omega⟩
        have h2 := y4 Y h1
        rw [show Ysz K Y (j + 1) = Ysz K Y j + (!(Y (K.n - 1 - j) == 0)).toNat from rfl, show Yrn K Y (j + 1) = Yrn K Y j + (if Y (K.n - 1 - j) = 0 then 0 else K.rt (Y (K.n - 1 - j) - 1)) from rfl, e, if_pos rfl]
        exact h2
