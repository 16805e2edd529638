/-! ===== strings, statics, switches, arraycopy; the words that the methods' functions are written with (own work) ===== -/
def blet {α β : Type} (a : α) (k : α → β) : β := k a
theorem blet_e {α β : Type} {a : α} {k : α → β} {r : β} (h : blet a k = r) : ∃ v, v = a ∧ k v = r := ⟨a, rfl, h⟩
theorem bif_n {c : Prop} [Decidable c] {α : Type} {x : Option α} {r : α} (h : (if c then none else x) = some r) : ¬ c ∧ x = some r := by
  by_cases hc : c
  · rw [if_pos hc] at h; cases h
  · rw [if_neg hc] at h; exact ⟨hc, h⟩
theorem bif_y {c : Prop} [Decidable c] {α : Type} {x : Option α} {r : α} (h : (if c then x else none) = some r) : c ∧ x = some r := by
  by_cases hc : c
  · rw [if_pos hc] at h; exact ⟨hc, h⟩
  · rw [if_neg hc] at h; cases h
def bbv {β : Type} (x : Option bSto) (k : bSto → Option β) : Option β := match x with
  | some s => k s
  | none => none
theorem bbv_e {β : Type} {x : Option bSto} {k : bSto → Option β} {r : β} (h : bbv x k = some r) : ∃ s, x = some s ∧ k s = some r := by
  cases x with
  | none => cases h
  | some s => exact ⟨s, rfl, h⟩
def bbd {α β : Type} (x : Option (α × bSto)) (k : α → bSto → Option β) : Option β := match x with
  | some (a, s) => k a s
  | none => none
theorem bbd_e {α β : Type} {x : Option (α × bSto)} {k : α → bSto → Option β} {r : β} (h : bbd x k = some r) : ∃ a s, x = some (a, s) ∧ k a s = some r := by
  match x, h with
  | some (a, s), h => exact ⟨a, s, rfl, h⟩
def bl0 {β : Type} (x : Option (bSto)) (k : bSto → Option β) : Option β := match x with
  | some s => k s
  | none => none
theorem bl0_e {β : Type} {x : Option (bSto)} {k : bSto → Option β} {r : β} (h : bl0 x k = some r) : ∃ s, x = some s ∧ k s = some r := by
  match x, h with
  | some s, h => exact ⟨s, rfl, h⟩
def br0 {R β : Type} (x : Option ((R × bSto) ⊕ (bSto))) (kr : R → bSto → Option β) (k : bSto → Option β) : Option β := match x with
  | some (.inr s) => k s
  | some (.inl (v, s)) => kr v s
  | none => none
theorem br0_e {R β : Type} {x : Option ((R × bSto) ⊕ (bSto))} {kr : R → bSto → Option β} {k : bSto → Option β} {r : β} (h : br0 x kr k = some r) : (∃ v s, x = some (.inl (v, s)) ∧ kr v s = some r) ∨ ∃ s, x = some (.inr s) ∧ k s = some r := by
  match x, h with
  | some (.inr s), h => exact Or.inr ⟨s, rfl, h⟩
  | some (.inl (v, s)), h => exact Or.inl ⟨v, s, rfl, h⟩
def bl1 {A1 β : Type} (x : Option (A1 × bSto)) (k : A1 → bSto → Option β) : Option β := match x with
  | some (a1, s) => k a1 s
  | none => none
theorem bl1_e {A1 β : Type} {x : Option (A1 × bSto)} {k : A1 → bSto → Option β} {r : β} (h : bl1 x k = some r) : ∃ a1 s, x = some (a1, s) ∧ k a1 s = some r := by
  match x, h with
  | some (a1, s), h => exact ⟨a1, s, rfl, h⟩
def br1 {R A1 β : Type} (x : Option ((R × bSto) ⊕ (A1 × bSto))) (kr : R → bSto → Option β) (k : A1 → bSto → Option β) : Option β := match x with
  | some (.inr (a1, s)) => k a1 s
  | some (.inl (v, s)) => kr v s
  | none => none
theorem br1_e {R A1 β : Type} {x : Option ((R × bSto) ⊕ (A1 × bSto))} {kr : R → bSto → Option β} {k : A1 → bSto → Option β} {r : β} (h : br1 x kr k = some r) : (∃ v s, x = some (.inl (v, s)) ∧ kr v s = some r) ∨ ∃ a1 s, x = some (.inr (a1, s)) ∧ k a1 s = some r := by
  match x, h with
  | some (.inr (a1, s)), h => exact Or.inr ⟨a1, s, rfl, h⟩
  | some (.inl (v, s)), h => exact Or.inl ⟨v, s, rfl, h⟩
def bl2 {A1 A2 β : Type} (x : Option (A1 × A2 × bSto)) (k : A1 → A2 → bSto → Option β) : Option β := match x with
  | some (a1, a2, s) => k a1 a2 s
  | none => none
theorem bl2_e {A1 A2 β : Type} {x : Option (A1 × A2 × bSto)} {k : A1 → A2 → bSto → Option β} {r : β} (h : bl2 x k = some r) : ∃ a1 a2 s, x = some (a1, a2, s) ∧ k a1 a2 s = some r := by
  match x, h with
  | some (a1, a2, s), h => exact ⟨a1, a2, s, rfl, h⟩
def br2 {R A1 A2 β : Type} (x : Option ((R × bSto) ⊕ (A1 × A2 × bSto))) (kr : R → bSto → Option β) (k : A1 → A2 → bSto → Option β) : Option β := match x with
  | some (.inr (a1, a2, s)) => k a1 a2 s
  | some (.inl (v, s)) => kr v s
  | none => none
theorem br2_e {R A1 A2 β : Type} {x : Option ((R × bSto) ⊕ (A1 × A2 × bSto))} {kr : R → bSto → Option β} {k : A1 → A2 → bSto → Option β} {r : β} (h : br2 x kr k = some r) : (∃ v s, x = some (.inl (v, s)) ∧ kr v s = some r) ∨ ∃ a1 a2 s, x = some (.inr (a1, a2, s)) ∧ k a1 a2 s = some r := by
  match x, h with
  | some (.inr (a1, a2, s)), h => exact Or.inr ⟨a1, a2, s, rfl, h⟩
  | some (.inl (v, s)), h => exact Or.inl ⟨v, s, rfl, h⟩
def bl3 {A1 A2 A3 β : Type} (x : Option (A1 × A2 × A3 × bSto)) (k : A1 → A2 → A3 → bSto → Option β) : Option β := match x with
  | some (a1, a2, a3, s) => k a1 a2 a3 s
  | none => none
theorem bl3_e {A1 A2 A3 β : Type} {x : Option (A1 × A2 × A3 × bSto)} {k : A1 → A2 → A3 → bSto → Option β} {r : β} (h : bl3 x k = some r) : ∃ a1 a2 a3 s, x = some (a1, a2, a3, s) ∧ k a1 a2 a3 s = some r := by
  match x, h with
  | some (a1, a2, a3, s), h => exact ⟨a1, a2, a3, s, rfl, h⟩
def br3 {R A1 A2 A3 β : Type} (x : Option ((R × bSto) ⊕ (A1 × A2 × A3 × bSto))) (kr : R → bSto → Option β) (k : A1 → A2 → A3 → bSto → Option β) : Option β := match x with
  | some (.inr (a1, a2, a3, s)) => k a1 a2 a3 s
  | some (.inl (v, s)) => kr v s
  | none => none
theorem br3_e {R A1 A2 A3 β : Type} {x : Option ((R × bSto) ⊕ (A1 × A2 × A3 × bSto))} {kr : R → bSto → Option β} {k : A1 → A2 → A3 → bSto → Option β} {r : β} (h : br3 x kr k = some r) : (∃ v s, x = some (.inl (v, s)) ∧ kr v s = some r) ∨ ∃ a1 a2 a3 s, x = some (.inr (a1, a2, a3, s)) ∧ k a1 a2 a3 s = some r := by
  match x, h with
  | some (.inr (a1, a2, a3, s)), h => exact Or.inr ⟨a1, a2, a3, s, rfl, h⟩
  | some (.inl (v, s)), h => exact Or.inl ⟨v, s, rfl, h⟩
def bl4 {A1 A2 A3 A4 β : Type} (x : Option (A1 × A2 × A3 × A4 × bSto)) (k : A1 → A2 → A3 → A4 → bSto → Option β) : Option β := match x with
  | some (a1, a2, a3, a4, s) => k a1 a2 a3 a4 s
  | none => none
theorem bl4_e {A1 A2 A3 A4 β : Type} {x : Option (A1 × A2 × A3 × A4 × bSto)} {k : A1 → A2 → A3 → A4 → bSto → Option β} {r : β} (h : bl4 x k = some r) : ∃ a1 a2 a3 a4 s, x = some (a1, a2, a3, a4, s) ∧ k a1 a2 a3 a4 s = some r := by
  match x, h with
  | some (a1, a2, a3, a4, s), h => exact ⟨a1, a2, a3, a4, s, rfl, h⟩
def br4 {R A1 A2 A3 A4 β : Type} (x : Option ((R × bSto) ⊕ (A1 × A2 × A3 × A4 × bSto))) (kr : R → bSto → Option β) (k : A1 → A2 → A3 → A4 → bSto → Option β) : Option β := match x with
  | some (.inr (a1, a2, a3, a4, s)) => k a1 a2 a3 a4 s
  | some (.inl (v, s)) => kr v s
  | none => none
theorem br4_e {R A1 A2 A3 A4 β : Type} {x : Option ((R × bSto) ⊕ (A1 × A2 × A3 × A4 × bSto))} {kr : R → bSto → Option β} {k : A1 → A2 → A3 → A4 → bSto → Option β} {r : β} (h : br4 x kr k = some r) : (∃ v s, x = some (.inl (v, s)) ∧ kr v s = some r) ∨ ∃ a1 a2 a3 a4 s, x = some (.inr (a1, a2, a3, a4, s)) ∧ k a1 a2 a3 a4 s = some r := by
  match x, h with
  | some (.inr (a1, a2, a3, a4, s)), h => exact Or.inr ⟨a1, a2, a3, a4, s, rfl, h⟩
  | some (.inl (v, s)), h => exact Or.inl ⟨v, s, rfl, h⟩
def bl5 {A1 A2 A3 A4 A5 β : Type} (x : Option (A1 × A2 × A3 × A4 × A5 × bSto)) (k : A1 → A2 → A3 → A4 → A5 → bSto → Option β) : Option β := match x with
  | some (a1, a2, a3, a4, a5, s) => k a1 a2 a3 a4 a5 s
  | none => none
theorem bl5_e {A1 A2 A3 A4 A5 β : Type} {x : Option (A1 × A2 × A3 × A4 × A5 × bSto)} {k : A1 → A2 → A3 → A4 → A5 → bSto → Option β} {r : β} (h : bl5 x k = some r) : ∃ a1 a2 a3 a4 a5 s, x = some (a1, a2, a3, a4, a5, s) ∧ k a1 a2 a3 a4 a5 s = some r := by
  match x, h with
  | some (a1, a2, a3, a4, a5, s), h => exact ⟨a1, a2, a3, a4, a5, s, rfl, h⟩
def br5 {R A1 A2 A3 A4 A5 β : Type} (x : Option ((R × bSto) ⊕ (A1 × A2 × A3 × A4 × A5 × bSto))) (kr : R → bSto → Option β) (k : A1 → A2 → A3 → A4 → A5 → bSto → Option β) : Option β := match x with
  | some (.inr (a1, a2, a3, a4, a5, s)) => k a1 a2 a3 a4 a5 s
  | some (.inl (v, s)) => kr v s
  | none => none
theorem br5_e {R A1 A2 A3 A4 A5 β : Type} {x : Option ((R × bSto) ⊕ (A1 × A2 × A3 × A4 × A5 × bSto))} {kr : R → bSto → Option β} {k : A1 → A2 → A3 → A4 → A5 → bSto → Option β} {r : β} (h : br5 x kr k = some r) : (∃ v s, x = some (.inl (v, s)) ∧ kr v s = some r) ∨ ∃ a1 a2 a3 a4 a5 s, x = some (.inr (a1, a2, a3, a4, a5, s)) ∧ k a1 a2 a3 a4 a5 s = some r := by
  match x, h with
  | some (.inr (a1, a2, a3, a4, a5, s)), h => exact Or.inr ⟨a1, a2, a3, a4, a5, s, rfl, h⟩
  | some (.inl (v, s)), h => exact Or.inl ⟨v, s, rfl, h⟩
def bl6 {A1 A2 A3 A4 A5 A6 β : Type} (x : Option (A1 × A2 × A3 × A4 × A5 × A6 × bSto)) (k : A1 → A2 → A3 → A4 → A5 → A6 → bSto → Option β) : Option β := match x with
  | some (a1, a2, a3, a4, a5, a6, s) => k a1 a2 a3 a4 a5 a6 s
  | none => none
theorem bl6_e {A1 A2 A3 A4 A5 A6 β : Type} {x : Option (A1 × A2 × A3 × A4 × A5 × A6 × bSto)} {k : A1 → A2 → A3 → A4 → A5 → A6 → bSto → Option β} {r : β} (h : bl6 x k = some r) : ∃ a1 a2 a3 a4 a5 a6 s, x = some (a1, a2, a3, a4, a5, a6, s) ∧ k a1 a2 a3 a4 a5 a6 s = some r := by
  match x, h with
  | some (a1, a2, a3, a4, a5, a6, s), h => exact ⟨a1, a2, a3, a4, a5, a6, s, rfl, h⟩
def br6 {R A1 A2 A3 A4 A5 A6 β : Type} (x : Option ((R × bSto) ⊕ (A1 × A2 × A3 × A4 × A5 × A6 × bSto))) (kr : R → bSto → Option β) (k : A1 → A2 → A3 → A4 → A5 → A6 → bSto → Option β) : Option β := match x with
  | some (.inr (a1, a2, a3, a4, a5, a6, s)) => k a1 a2 a3 a4 a5 a6 s
  | some (.inl (v, s)) => kr v s
  | none => none
theorem br6_e {R A1 A2 A3 A4 A5 A6 β : Type} {x : Option ((R × bSto) ⊕ (A1 × A2 × A3 × A4 × A5 × A6 × bSto))} {kr : R → bSto → Option β} {k : A1 → A2 → A3 → A4 → A5 → A6 → bSto → Option β} {r : β} (h : br6 x kr k = some r) : (∃ v s, x = some (.inl (v, s)) ∧ kr v s = some r) ∨ ∃ a1 a2 a3 a4 a5 a6 s, x = some (.inr (a1, a2, a3, a4, a5, a6, s)) ∧ k a1 a2 a3 a4 a5 a6 s = some r := by
  match x, h with
  | some (.inr (a1, a2, a3, a4, a5, a6, s)), h => exact Or.inr ⟨a1, a2, a3, a4, a5, a6, s, rfl, h⟩
  | some (.inl (v, s)), h => exact Or.inl ⟨v, s, rfl, h⟩
def bl7 {A1 A2 A3 A4 A5 A6 A7 β : Type} (x : Option (A1 × A2 × A3 × A4 × A5 × A6 × A7 × bSto)) (k : A1 → A2 → A3 → A4 → A5 → A6 → A7 → bSto → Option β) : Option β := match x with
  | some (a1, a2, a3, a4, a5, a6, a7, s) => k a1 a2 a3 a4 a5 a6 a7 s
  | none => none
theorem bl7_e {A1 A2 A3 A4 A5 A6 A7 β : Type} {x : Option (A1 × A2 × A3 × A4 × A5 × A6 × A7 × bSto)} {k : A1 → A2 → A3 → A4 → A5 → A6 → A7 → bSto → Option β} {r : β} (h : bl7 x k = some r) : ∃ a1 a2 a3 a4 a5 a6 a7 s, x = some (a1, a2, a3, a4, a5, a6, a7, s) ∧ k a1 a2 a3 a4 a5 a6 a7 s = some r := by
  match x, h with
  | some (a1, a2, a3, a4, a5, a6, a7, s), h => exact ⟨a1, a2, a3, a4, a5, a6, a7, s, rfl, h⟩
def br7 {R A1 A2 A3 A4 A5 A6 A7 β : Type} (x : Option ((R × bSto) ⊕ (A1 × A2 × A3 × A4 × A5 × A6 × A7 × bSto))) (kr : R → bSto → Option β) (k : A1 → A2 → A3 → A4 → A5 → A6 → A7 → bSto → Option β) : Option β := match x with
  | some (.inr (a1, a2, a3, a4, a5, a6, a7, s)) => k a1 a2 a3 a4 a5 a6 a7 s
  | some (.inl (v, s)) => kr v s
  | none => none
theorem br7_e {R A1 A2 A3 A4 A5 A6 A7 β : Type} {x : Option ((R × bSto) ⊕ (A1 × A2 × A3 × A4 × A5 × A6 × A7 × bSto))} {kr : R → bSto → Option β} {k : A1 → A2 → A3 → A4 → A5 → A6 → A7 → bSto → Option β} {r : β} (h : br7 x kr k = some r) : (∃ v s, x = some (.inl (v, s)) ∧ kr v s = some r) ∨ ∃ a1 a2 a3 a4 a5 a6 a7 s, x = some (.inr (a1, a2, a3, a4, a5, a6, a7, s)) ∧ k a1 a2 a3 a4 a5 a6 a7 s = some r := by
  match x, h with
  | some (.inr (a1, a2, a3, a4, a5, a6, a7, s)), h => exact Or.inr ⟨a1, a2, a3, a4, a5, a6, a7, s, rfl, h⟩
  | some (.inl (v, s)), h => exact Or.inl ⟨v, s, rfl, h⟩
def bl8 {A1 A2 A3 A4 A5 A6 A7 A8 β : Type} (x : Option (A1 × A2 × A3 × A4 × A5 × A6 × A7 × A8 × bSto)) (k : A1 → A2 → A3 → A4 → A5 → A6 → A7 → A8 → bSto → Option β) : Option β := match x with
  | some (a1, a2, a3, a4, a5, a6, a7, a8, s) => k a1 a2 a3 a4 a5 a6 a7 a8 s
  | none => none
theorem bl8_e {A1 A2 A3 A4 A5 A6 A7 A8 β : Type} {x : Option (A1 × A2 × A3 × A4 × A5 × A6 × A7 × A8 × bSto)} {k : A1 → A2 → A3 → A4 → A5 → A6 → A7 → A8 → bSto → Option β} {r : β} (h : bl8 x k = some r) : ∃ a1 a2 a3 a4 a5 a6 a7 a8 s, x = some (a1, a2, a3, a4, a5, a6, a7, a8, s) ∧ k a1 a2 a3 a4 a5 a6 a7 a8 s = some r := by
  match x, h with
  | some (a1, a2, a3, a4, a5, a6, a7, a8, s), h => exact ⟨a1, a2, a3, a4, a5, a6, a7, a8, s, rfl, h⟩
def br8 {R A1 A2 A3 A4 A5 A6 A7 A8 β : Type} (x : Option ((R × bSto) ⊕ (A1 × A2 × A3 × A4 × A5 × A6 × A7 × A8 × bSto))) (kr : R → bSto → Option β) (k : A1 → A2 → A3 → A4 → A5 → A6 → A7 → A8 → bSto → Option β) : Option β := match x with
  | some (.inr (a1, a2, a3, a4, a5, a6, a7, a8, s)) => k a1 a2 a3 a4 a5 a6 a7 a8 s
  | some (.inl (v, s)) => kr v s
  | none => none
theorem br8_e {R A1 A2 A3 A4 A5 A6 A7 A8 β : Type} {x : Option ((R × bSto) ⊕ (A1 × A2 × A3 × A4 × A5 × A6 × A7 × A8 × bSto))} {kr : R → bSto → Option β} {k : A1 → A2 → A3 → A4 → A5 → A6 → A7 → A8 → bSto → Option β} {r : β} (h : br8 x kr k = some r) : (∃ v s, x = some (.inl (v, s)) ∧ kr v s = some r) ∨ ∃ a1 a2 a3 a4 a5 a6 a7 a8 s, x = some (.inr (a1, a2, a3, a4, a5, a6, a7, a8, s)) ∧ k a1 a2 a3 a4 a5 a6 a7 a8 s = some r := by
  match x, h with
  | some (.inr (a1, a2, a3, a4, a5, a6, a7, a8, s)), h => exact Or.inr ⟨a1, a2, a3, a4, a5, a6, a7, a8, s, rfl, h⟩
  | some (.inl (v, s)), h => exact Or.inl ⟨v, s, rfl, h⟩
/-- the fuel of a loop -/
def bFU : Nat := 100000
theorem bz_n {x : Int32} (h : x = 0 ∨ x = 1) : narrow .boolean (.int x) = .int x := by rcases h with rfl | rfl <;> rfl
theorem bz_f {x : Int32} (h : x = 0 ∨ x = 1) : fits .boolean (.int x) = true := by rcases h with rfl | rfl <;> rfl
section MROWS
variable {X : bX} {cc : ByteArray} {own : String} {d pc : Nat} {L L' : List (Nat × Value)} {S : List Value} {σ : bSto}
theorem b_ialdK {o n k : Nat} {i : Int32} (C : bCX X cc own d) (hd : decode cc pc = .ok (.iaload, 1)) (hs : (bShOf X)[o]? = some (0, [n])) (hi : ¬ i < 0 ∧ i.toNatClampNeg = k) (hk : k < n) (kk : bAJ X (pc + 1) L (.int (σ.1 o k) :: S) σ) : bAJ X pc L (.int i :: .ref o :: S) σ := by
  obtain ⟨h1, rfl⟩ := hi
  exact b_iald C hd hs (fun z => z.elim h1 (fun z => by omega)) kk
theorem b_iastK {o n k : Nat} {i x : Int32} {σ' : bSto} (C : bCX X cc own d) (hd : decode cc pc = .ok (.iastore, 1)) (hs : (bShOf X)[o]? = some (0, [n])) (hi : ¬ i < 0 ∧ i.toNatClampNeg = k) (hk : k < n) (e : σ' = bI σ o k x) (kk : bAJ X (pc + 1) L S σ') : bAJ X pc L (.int x :: .int i :: .ref o :: S) σ := by
  obtain ⟨h1, rfl⟩ := hi
  exact b_iast C hd hs (fun z => z.elim h1 (fun z => by omega)) e kk
theorem b_ldcS {i k : Nat} (C : bCX X cc own d) (hd : decode cc pc = .ok (.ldc i, 2)) (tx : String) (q : Nat) (hq : bstr[q]? = some (own, i, tx, k)) (kk : bAJ X (pc + 2) L (.ref (1000 + k) :: S) σ) : bAJ X pc L S σ := by
  obtain ⟨p, l, e, R, s, m, args, below, meth, c, cells, slots, Q, G, SH, ρ, A, nL⟩ := X
  obtain ⟨hx, hb, hml, hown, hts, hWC, hR⟩ := C
  intro H locs ls hP hS hl
  exact va_ldcS hx hb hown (hWC.2.2.1 _ (List.mem_of_getElem? hq)) hd (kk H locs ls hP hS hl)
theorem b_ldcSw {i k : Nat} (C : bCX X cc own d) (hd : decode cc pc = .ok (.ldc_w i, 3)) (tx : String) (q : Nat) (hq : bstr[q]? = some (own, i, tx, k)) (kk : bAJ X (pc + 3) L (.ref (1000 + k) :: S) σ) : bAJ X pc L S σ := by
  obtain ⟨p, l, e, R, s, m, args, below, meth, c, cells, slots, Q, G, SH, ρ, A, nL⟩ := X
  obtain ⟨hx, hb, hml, hown, hts, hWC, hR⟩ := C
  intro H locs ls hP hS hl
  obtain ⟨hc, hev⟩ := hWC.2.2.1 _ (List.mem_of_getElem? hq)
  intro T hT Xs
  obtain ⟨t, a1, b1⟩ := kk H locs ls hP hS hl T hT Xs
  refine ⟨t, ?_, b1⟩
  obtain ⟨k0, cf, i0, a', hk, hcf, hcp, -, hr, hev'⟩ := Cond.stringRef_spec hown hc
  cases hev.symm.trans hev'
  obtain ⟨k', hk', he⟩ := Xs.warmed.alike.2.2 _ _ hk
  have hr' : k'.resolved[i]? = some (some (.string (ρ (1000 + k)))) := by
    rcases Xs.warmed.entry hk hk' i with h | ⟨h, -⟩
    · rw [h]; exact hr
    · rw [hr] at h; cases h
  jvm_step Xs.here [hx, hb, hd, ldc_w.wp_string (e := e) (s := T) (f := F0 m pc ls (S.map (bcv ρ))) Xs.here.top hk' (by rw [he]; exact hcf) hcp hr']
  exact a1
theorem b_gets {idx : Nat} {Cn n ds : String} {v : Value} (C : bCX X cc own d) (hd : decode cc pc = .ok (.getstatic idx, 3)) (hw : Cond.fieldLink own idx Cn n ds ∈ bTB) (hz : ∀ G SH ρ A s, bWC G SH ρ A s → va_Z Cn n ds (bcv ρ v) A s s.heap) (kk : bAJ X (pc + 3) L (v :: S) σ) : bAJ X pc L S σ := by
  obtain ⟨p, l, e, R, s, m, args, below, meth, c, cells, slots, Q, G, SH, ρ, A, nL⟩ := X
  obtain ⟨hx, hb, hml, hown, hts, hWC, hR⟩ := C
  intro H locs ls hP hS hl
  exact va_gets hx hb (hz G SH ρ A s hWC) hS hown (hts _ hw) (fun _ z => z) hd (kk H locs ls hP hS hl)
theorem b_gsorts (C : bCX X cc RX7 d) (hd : decode cc pc = .ok (.getstatic 53, 3)) (kk : bAJ X (pc + 3) L (.ref 3000 :: S) σ) : bAJ X pc L S σ := by
  obtain ⟨p, l, e, R, s, m, args, below, meth, c, cells, slots, Q, G, SH, ρ, A, nL⟩ := X
  obtain ⟨hx, hb, hml, hown, hts, hWC, hR⟩ := C
  intro H locs ls hP hS hl
  exact va_getsN hx hb hWC.2.2.2.2.1 hS hown ((hWC.2.2.2.2.2.2.2.2 _ (List.mem_of_getElem? (i := 0) rfl)).use rfl) (fun _ z => z) hd (kk H locs ls hP hS hl)
def bsorts (j : Nat) : Int32 := ([1, 3, 5, 7] : List Int32).getD j 0
theorem b_tald {i : Int32} (C : bCX X cc own d) (hd : decode cc pc = .ok (.iaload, 1)) (hi : ¬ (i < 0 ∨ 4 ≤ i.toNatClampNeg)) (kk : bAJ X (pc + 1) L (.int (bsorts i.toNatClampNeg) :: S) σ) : bAJ X pc L (.int i :: .ref 3000 :: S) σ := by
  obtain ⟨p, l, e, R, s, m, args, below, meth, c, cells, slots, Q, G, SH, ρ, A, nL⟩ := X
  obtain ⟨hx, hb, hml, hown, hts, hWC, hR⟩ := C
  intro H locs ls hP hS hl
  exact va_ti hx hb hWC.2.2.2.2.2.1 hS hi rfl hd (kk H locs ls hP hS hl)
theorem b_tlen (C : bCX X cc own d) (hd : decode cc pc = .ok (.arraylength, 1)) (kk : bAJ X (pc + 1) L (.int 4 :: S) σ) : bAJ X pc L (.ref 3000 :: S) σ := by
  obtain ⟨p, l, e, R, s, m, args, below, meth, c, cells, slots, Q, G, SH, ρ, A, nL⟩ := X
  obtain ⟨hx, hb, hml, hown, hts, hWC, hR⟩ := C
  intro H locs ls hP hS hl
  exact va_tlen hx hb hWC.2.2.2.2.2.1 hS rfl hd (kk H locs ls hP hS hl)
theorem b_copy {o o2 n0 n1 idx : Nat} {sp dp n : Int32} {σ' : bSto} (C : bCX X cc own d) (hd : decode cc pc = .ok (.invokestatic idx, 3)) (hw : Cond.methodLink own idx arraycopyName ∈ bTB) (hw2 : Cond.native arraycopyName ∈ bTB ∧ Cond.static arraycopyName ∈ bTB ∧ Cond.initialized "java/lang/System" ∈ bTB) (hs : (bShOf X)[o]? = some (0, [n0])) (hs2 : (bShOf X)[o2]? = some (0, [n1])) (hrm : (S.map fun v => v.category).sum ≤ 8)
    (hi : ¬ (sp < 0 ∨ dp < 0 ∨ n < 0 ∨ n0 < sp.toNatClampNeg + n.toNatClampNeg ∨ n1 < dp.toNatClampNeg + n.toNatClampNeg)) (e : σ' = bA σ o2 (va_cpy (σ.1 o) (σ.1 o2) sp.toNatClampNeg dp.toNatClampNeg n.toNatClampNeg)) (kk : bAJ X (pc + 3) L S σ') : bAJ X pc L (.int n :: .int dp :: .ref o2 :: .int sp :: .ref o :: S) σ := by
  subst e
  obtain ⟨p, l, e, R, s, m, args, below, meth, c, cells, slots, Q, G, SH, ρ, A, nL⟩ := X
  obtain ⟨hx, hb, hml, hown, hts, hWC, hR⟩ := C
  intro H locs ls hP hS hl
  obtain ⟨w2, w3, w4⟩ := hw2
  have hlo : ((S.map (bcv ρ)).map fun v => v.category).sum + (nativeFrameWords "java/lang/System" "arraycopy" 5 + 11) ≤ R.locals := by
    have h1 : nativeFrameWords "java/lang/System" "arraycopy" 5 + 11 ≤ 60 := by decide
    rw [bS_cat]
    omega
  refine va_copyi (ws := bws G SH ρ σ) (H0 := s.heap) hx hb (hml.trans hl.1.symm) hown (hts _ hw) (hts _ w2) (hts _ w3) (hts _ w4) hWC.1 hP (bAp_D hWC.2.1 σ) hS o o2 0 0 (f := σ.1 o) (g := σ.1 o2) (n0 := n0) (n1 := n1) (ty := .int) (bws_at hs) (bws_at hs2) rfl rfl rfl (fun z => hi (Or.inl z)) (fun z => hi (Or.inr (Or.inl z))) (fun z => hi (Or.inr (Or.inr (Or.inl z)))) (by omega) (by omega) (fun _ _ => rfl) (by omega) hlo hd (fun H1 locs1 hP1 _ hS1 => ?_)
  rw [bws_set (G := G) (SH := SH) (ρ := ρ) (σ := σ) (σ' := bA σ o2 (va_cpy (σ.1 o) (σ.1 o2) sp.toNatClampNeg dp.toNatClampNeg n.toNatClampNeg)) hs2 (by simp [bcel, bA]) bcel_A] at hP1
  exact kk H1 locs1 ls hP1 hS1 hl
theorem b_tabIn {x v : Int32} {dflt lo hi off kI : Int} {offs : Array Int} {len tgt : Nat} (C : bCX X cc own d) (hd : decode cc pc = .ok (.tableswitch dflt lo hi offs, len)) (hx0 : x = v) (hv : v.toInt = kI) (h1 : ¬ kI < lo) (h2 : ¬ hi < kI) (ho : offs[(kI - lo).toNat]? = some off) (ht : (pc : Int) + off = (tgt : Int)) (kk : bAJ X tgt L S σ) : bAJ X pc L (.int x :: S) σ := by
  obtain ⟨p, l, e, R, s, m, args, below, meth, c, cells, slots, Q, G, SH, ρ, A, nL⟩ := X
  obtain ⟨hx, hb, hml, hown, hts, hWC, hR⟩ := C
  intro H locs ls hP hS hl
  subst hx0
  subst hv
  exact lv_tableIn hx hb hd h1 h2 ho ht (kk H locs ls hP hS hl)
theorem b_tabOut {x : Int32} {dflt lo hi : Int} {offs : Array Int} {len tgt : Nat} (C : bCX X cc own d) (hd : decode cc pc = .ok (.tableswitch dflt lo hi offs, len)) (h : x.toInt < lo ∨ hi < x.toInt) (ht : (pc : Int) + dflt = (tgt : Int)) (kk : bAJ X tgt L S σ) : bAJ X pc L (.int x :: S) σ := by
  obtain ⟨p, l, e, R, s, m, args, below, meth, c, cells, slots, Q, G, SH, ρ, A, nL⟩ := X
  obtain ⟨hx, hb, hml, hown, hts, hWC, hR⟩ := C
  intro H locs ls hP hS hl
  exact lv_tableOut hx hb hd h ht (kk H locs ls hP hS hl)
/-- the fields of a String constant -/
theorem b_sval {k idx : Nat} (C : bCX X cc own d) (hd : decode cc pc = .ok (.getfield idx, 3)) (hw : Cond.fieldLink own idx "java/lang/String" "value" "[B" ∈ bTB) (hk : k < bnS) (kk : bAJ X (pc + 3) L (.ref (2000 + k) :: S) σ) : bAJ X pc L (.ref (1000 + k) :: S) σ := by
  obtain ⟨p, l, e, R, s, m, args, below, meth, c, cells, slots, Q, G, SH, ρ, A, nL⟩ := X
  obtain ⟨hx, hb, hml, hown, hts, hWC, hR⟩ := C
  intro H locs ls hP hS hl
  exact vk_getf hx hb (hWC.2.2.2.1 k hk).2.2.1 hS hown (hts _ hw) (fun _ z => z) hd (kk H locs ls hP hS hl)
theorem b_scod {k idx : Nat} (C : bCX X cc own d) (hd : decode cc pc = .ok (.getfield idx, 3)) (hw : Cond.fieldLink own idx "java/lang/String" "code\x72" "B" ∈ bTB) (hk : k < bnS) (kk : bAJ X (pc + 3) L (.int 0 :: S) σ) : bAJ X pc L (.ref (1000 + k) :: S) σ := by
  obtain ⟨p, l, e, R, s, m, args, below, meth, c, cells, slots, Q, G, SH, ρ, A, nL⟩ := X
  obtain ⟨hx, hb, hml, hown, hts, hWC, hR⟩ := C
  intro H locs ls hP hS hl
  exact vk_getf hx hb (hWC.2.2.2.1 k hk).2.1 hS hown (hts _ hw) (fun _ z => z) hd (kk H locs ls hP hS hl)
theorem b_slen {k : Nat} (C : bCX X cc own d) (hd : decode cc pc = .ok (.arraylength, 1)) (hk : k < bnS) (kk : bAJ X (pc + 1) L (.int (nI (blen k)) :: S) σ) : bAJ X pc L (.ref (2000 + k) :: S) σ := by
  obtain ⟨p, l, e, R, s, m, args, below, meth, c, cells, slots, Q, G, SH, ρ, A, nL⟩ := X
  obtain ⟨hx, hb, hml, hown, hts, hWC, hR⟩ := C
  intro H locs ls hP hS hl
  exact va_tlen hx hb (hWC.2.2.2.1 k hk).2.2.2 hS rfl hd (kk H locs ls hP hS hl)
theorem b_sald {k : Nat} {i : Int32} (C : bCX X cc own d) (hd : decode cc pc = .ok (.baload, 1)) (hk : k < bnS) (hi : ¬ (i < 0 ∨ blen k ≤ i.toNatClampNeg)) (kk : bAJ X (pc + 1) L (.int (bchr k i.toNatClampNeg) :: S) σ) : bAJ X pc L (.int i :: .ref (2000 + k) :: S) σ := by
  obtain ⟨p, l, e, R, s, m, args, below, meth, c, cells, slots, Q, G, SH, ρ, A, nL⟩ := X
  obtain ⟨hx, hb, hml, hown, hts, hWC, hR⟩ := C
  intro H locs ls hP hS hl
  exact va_tb hx hb (hWC.2.2.2.1 k hk).2.2.2 hS hi rfl hd (kk H locs ls hP hS hl)
theorem b_gcs {idx : Nat} (C : bCX X cc own d) (hd : decode cc pc = .ok (.getstatic idx, 3)) (hw : Cond.fieldLink own idx "java/lang/String" "COMPACT_STRINGS" "Z" ∈ bTB) (kk : bAJ X (pc + 3) L (.int 1 :: S) σ) : bAJ X pc L S σ := b_gets (v := .int 1) C hd hw (fun _ _ _ _ _ h => h.2.2.2.2.2.2.1) kk
theorem b_gfmt {idx : Nat} (C : bCX X cc own d) (hd : decode cc pc = .ok (.getstatic idx, 3)) (hw : Cond.fieldLink own idx "jdk/internal/util/Preconditions" "SIOOBE_FORMATTER" "Ljava/util/function/BiFunction;" ∈ bTB) (k1 : bAJ X (pc + 3) L (.null :: S) σ) (k2 : bAJ X (pc + 3) L (.ref 4000 :: S) σ) : bAJ X pc L S σ := by
  obtain ⟨p, l, e, R, s, m, args, below, meth, c, cells, slots, Q, G, SH, ρ, A, nL⟩ := X
  obtain ⟨hx, hb, hml, hown, hts, hWC, hR⟩ := C
  intro H locs ls hP hS hl
  rcases hWC.2.2.2.2.2.2.2.1 with z | z
  · exact va_gets (v := .null) hx hb z hS hown (hts _ hw) (fun _ z => z) hd (k1 H locs ls hP hS hl)
  · exact va_gets hx hb z hS hown (hts _ hw) (fun _ z => z) hd (k2 H locs ls hP hS hl)
/-- a call on a String constant -/
theorem b_callT {ks idx maxL n d' : Nat} {y : MethodName} {bytes : ByteArray} {ret : Option FieldType} {r : Option Value} {σ' : bSto} (As : List Value) (C : bCX X cc own d) (hd : decode cc pc = .ok (.invokevirtual idx, 3)) (hm : bMV own idx y bytes maxL ret n) (hk : ks < bnS) (hc : y.cls = "java/lang/String") (hn : As.length = n) (hrm : (S.map fun v => v.category).sum ≤ 8) (hdd : d' + 1 ≤ d) (hE : bEvX X y bytes maxL ret d' (.ref (1000 + ks) :: As) σ r σ') (k : bAJ X (pc + 3) L (r.toList ++ S) σ') : bAJ X pc L (As.reverse ++ .ref (1000 + ks) :: S) σ := by
  obtain ⟨p, l, e, R, s, m, args, below, meth, c, cells, slots, Q, G, SH, ρ, A, nL⟩ := X
  obtain ⟨hx, hb, hml, hown, hts, hWC, hR⟩ := C
  intro H locs ls hP hS hl
  obtain ⟨h1, h2, h3, h4, h5, h6, h7, h8, h9⟩ := hm
  obtain ⟨hR1, hR2, hR3, hR4⟩ := hR
  have hg : GoodIn bTB (bWS y bytes maxL ret) := bTB_good (fun w hw => (List.mem_cons.mp hw).elim (fun z => by rw [z]; exact h5) id)
  have hpre := b_pre (σ := σ) (as := .ref (1000 + ks) :: As) hWC hP hS
  have hrec : ∃ cell : Cell, H[ρ (1000 + ks)]? = some cell ∧ cell.vm.isStatics = false ∧ s.vm.findClass y.cls = some cell.cls := by
    obtain ⟨cell, g1, g2, g3, -⟩ := (hWC.2.2.2.1 ks hk).1.kept hS.2.1
    exact ⟨cell, g1, g2, by rw [hc]; exact g3⟩
  have hrun := va_runV (g := F0 m pc ls ((As.reverse ++ .ref (1000 + ks) :: S).map (bcv ρ))) (As := As.map (bcv ρ)) (rest := S.map (bcv ρ)) (b := ρ (1000 + ks)) (C := y.cls) (cells := cells) (slots := slots) (locs := locs) (l := l) (e := e) (below := below) (meth := meth) (R := R) (H := H) ⟨hx, hb, hml, hown, hts⟩ hE ⟨callB_of n hts hg rfl rfl rfl (hts _ h4) (hts _ h1) ⟨h7, h8, h9⟩ ⟨by show d' + 1 + 1 ≤ _; omega, by show 8 + (maxL + 11) + 96 * (d' + 1) ≤ _; omega⟩, hts _ h2, hts _ h3⟩ ⟨hpre.1, hrec, hpre.2⟩ rfl (by rw [List.length_map]; exact hn) hl.1 (by simp [bcv]) (by rw [bS_cat]; exact lv_room (m := m) (pc := pc) (ls := ls) (rest := []) hrm) hd ⟨hR3, hR4⟩
  exact b_back hrun hS hl k
end MROWS

theorem b_cV0i {X : bX} {cc : ByteArray} {own : String} {d pc : Nat} {L : List (Nat × Value)} {S : List Value} {σ : bSto} {v : Int32} {o ci idx maxL d' : Nat} {fds : List Nat} {y : MethodName} {bytes : ByteArray} {ret : Option FieldType} {σ' : bSto} {T : u_T} {N : Nat} (C : bCX X cc own d) (hd : decode cc pc = .ok (.invokevirtual idx, 3)) (hm : bMV own idx y bytes maxL ret 0) (hs : (bShOf X)[o]? = some (ci + 5, fds)) (hc : bcl[ci]? = some (y.cls, T, N)) (hrm : (S.map fun v => v.category).sum ≤ 8) (hdd : d' + 1 ≤ d) (hE : bEvX X y bytes maxL ret d' [.ref o] σ (some (.int v)) σ') (k : bAJ X (pc + 3) L (.int v :: S) σ') : bAJ X pc L (.ref o :: S) σ := b_callV [] C hd hm hs hc rfl hrm hdd hE k
theorem b_cS0i {X : bX} {cc : ByteArray} {own : String} {d pc : Nat} {L : List (Nat × Value)} {S : List Value} {σ : bSto} {v : Int32} {idx maxL d' : Nat} {y : MethodName} {bytes : ByteArray} {ret : Option FieldType} {σ' : bSto} (C : bCX X cc own d) (hd : decode cc pc = .ok (.invokestatic idx, 3)) (hm : bMS own idx y bytes maxL ret 0) (hrm : (S.map fun v => v.category).sum ≤ 8) (hdd : d' + 1 ≤ d) (hE : bEvX X y bytes maxL ret d' [] σ (some (.int v)) σ') (k : bAJ X (pc + 3) L (.int v :: S) σ') : bAJ X pc L (S) σ := b_callS [] C hd hm rfl hrm hdd hE k
theorem b_cT0i {X : bX} {cc : ByteArray} {own : String} {d pc : Nat} {L : List (Nat × Value)} {S : List Value} {σ : bSto} {v : Int32} {ks idx maxL d' : Nat} {y : MethodName} {bytes : ByteArray} {ret : Option FieldType} {σ' : bSto} (C : bCX X cc own d) (hd : decode cc pc = .ok (.invokevirtual idx, 3)) (hm : bMV own idx y bytes maxL ret 0) (hk : ks < bnS) (hc : y.cls = "java/lang/String") (hrm : (S.map fun v => v.category).sum ≤ 8) (hdd : d' + 1 ≤ d) (hE : bEvX X y bytes maxL ret d' [.ref (1000 + ks)] σ (some (.int v)) σ') (k : bAJ X (pc + 3) L (.int v :: S) σ') : bAJ X pc L (.ref (1000 + ks) :: S) σ := b_callT [] C hd hm hk hc rfl hrm hdd hE k
theorem b_cV0v {X : bX} {cc : ByteArray} {own : String} {d pc : Nat} {L : List (Nat × Value)} {S : List Value} {σ : bSto} {o ci idx maxL d' : Nat} {fds : List Nat} {y : MethodName} {bytes : ByteArray} {ret : Option FieldType} {σ' : bSto} {T : u_T} {N : Nat} (C : bCX X cc own d) (hd : decode cc pc = .ok (.invokevirtual idx, 3)) (hm : bMV own idx y bytes maxL ret 0) (hs : (bShOf X)[o]? = some (ci + 5, fds)) (hc : bcl[ci]? = some (y.cls, T, N)) (hrm : (S.map fun v => v.category).sum ≤ 8) (hdd : d' + 1 ≤ d) (hE : bEvX X y bytes maxL ret d' [.ref o] σ none σ') (k : bAJ X (pc + 3) L (S) σ') : bAJ X pc L (.ref o :: S) σ := b_callV [] C hd hm hs hc rfl hrm hdd hE k
theorem b_cS0v {X : bX} {cc : ByteArray} {own : String} {d pc : Nat} {L : List (Nat × Value)} {S : List Value} {σ : bSto} {idx maxL d' : Nat} {y : MethodName} {bytes : ByteArray} {ret : Option FieldType} {σ' : bSto} (C : bCX X cc own d) (hd : decode cc pc = .ok (.invokestatic idx, 3)) (hm : bMS own idx y bytes maxL ret 0) (hrm : (S.map fun v => v.category).sum ≤ 8) (hdd : d' + 1 ≤ d) (hE : bEvX X y bytes maxL ret d' [] σ none σ') (k : bAJ X (pc + 3) L (S) σ') : bAJ X pc L (S) σ := b_callS [] C hd hm rfl hrm hdd hE k
theorem b_cS0l {X : bX} {cc : ByteArray} {own : String} {d pc : Nat} {L : List (Nat × Value)} {S : List Value} {σ : bSto} {v : Int64} {idx maxL d' : Nat} {y : MethodName} {bytes : ByteArray} {ret : Option FieldType} {σ' : bSto} (C : bCX X cc own d) (hd : decode cc pc = .ok (.invokestatic idx, 3)) (hm : bMS own idx y bytes maxL ret 0) (hrm : (S.map fun v => v.category).sum ≤ 8) (hdd : d' + 1 ≤ d) (hE : bEvX X y bytes maxL ret d' [] σ (some (.long v)) σ') (k : bAJ X (pc + 3) L (.long v :: S) σ') : bAJ X pc L (S) σ := b_callS [] C hd hm rfl hrm hdd hE k
theorem b_cV1i {X : bX} {cc : ByteArray} {own : String} {d pc : Nat} {L : List (Nat × Value)} {S : List Value} {σ : bSto} {a1 : Value} {v : Int32} {o ci idx maxL d' : Nat} {fds : List Nat} {y : MethodName} {bytes : ByteArray} {ret : Option FieldType} {σ' : bSto} {T : u_T} {N : Nat} (C : bCX X cc own d) (hd : decode cc pc = .ok (.invokevirtual idx, 3)) (hm : bMV own idx y bytes maxL ret 1) (hs : (bShOf X)[o]? = some (ci + 5, fds)) (hc : bcl[ci]? = some (y.cls, T, N)) (hrm : (S.map fun v => v.category).sum ≤ 8) (hdd : d' + 1 ≤ d) (hE : bEvX X y bytes maxL ret d' [.ref o, a1] σ (some (.int v)) σ') (k : bAJ X (pc + 3) L (.int v :: S) σ') : bAJ X pc L (a1 :: .ref o :: S) σ := b_callV [a1] C hd hm hs hc rfl hrm hdd hE k
theorem b_cS1i {X : bX} {cc : ByteArray} {own : String} {d pc : Nat} {L : List (Nat × Value)} {S : List Value} {σ : bSto} {a1 : Value} {v : Int32} {idx maxL d' : Nat} {y : MethodName} {bytes : ByteArray} {ret : Option FieldType} {σ' : bSto} (C : bCX X cc own d) (hd : decode cc pc = .ok (.invokestatic idx, 3)) (hm : bMS own idx y bytes maxL ret 1) (hrm : (S.map fun v => v.category).sum ≤ 8) (hdd : d' + 1 ≤ d) (hE : bEvX X y bytes maxL ret d' [a1] σ (some (.int v)) σ') (k : bAJ X (pc + 3) L (.int v :: S) σ') : bAJ X pc L (a1 :: S) σ := b_callS [a1] C hd hm rfl hrm hdd hE k
theorem b_cT1i {X : bX} {cc : ByteArray} {own : String} {d pc : Nat} {L : List (Nat × Value)} {S : List Value} {σ : bSto} {a1 : Value} {v : Int32} {ks idx maxL d' : Nat} {y : MethodName} {bytes : ByteArray} {ret : Option FieldType} {σ' : bSto} (C : bCX X cc own d) (hd : decode cc pc = .ok (.invokevirtual idx, 3)) (hm : bMV own idx y bytes maxL ret 1) (hk : ks < bnS) (hc : y.cls = "java/lang/String") (hrm : (S.map fun v => v.category).sum ≤ 8) (hdd : d' + 1 ≤ d) (hE : bEvX X y bytes maxL ret d' [.ref (1000 + ks), a1] σ (some (.int v)) σ') (k : bAJ X (pc + 3) L (.int v :: S) σ') : bAJ X pc L (a1 :: .ref (1000 + ks) :: S) σ := b_callT [a1] C hd hm hk hc rfl hrm hdd hE k
theorem b_cV1v {X : bX} {cc : ByteArray} {own : String} {d pc : Nat} {L : List (Nat × Value)} {S : List Value} {σ : bSto} {a1 : Value} {o ci idx maxL d' : Nat} {fds : List Nat} {y : MethodName} {bytes : ByteArray} {ret : Option FieldType} {σ' : bSto} {T : u_T} {N : Nat} (C : bCX X cc own d) (hd : decode cc pc = .ok (.invokevirtual idx, 3)) (hm : bMV own idx y bytes maxL ret 1) (hs : (bShOf X)[o]? = some (ci + 5, fds)) (hc : bcl[ci]? = some (y.cls, T, N)) (hrm : (S.map fun v => v.category).sum ≤ 8) (hdd : d' + 1 ≤ d) (hE : bEvX X y bytes maxL ret d' [.ref o, a1] σ none σ') (k : bAJ X (pc + 3) L (S) σ') : bAJ X pc L (a1 :: .ref o :: S) σ := b_callV [a1] C hd hm hs hc rfl hrm hdd hE k
theorem b_cS1v {X : bX} {cc : ByteArray} {own : String} {d pc : Nat} {L : List (Nat × Value)} {S : List Value} {σ : bSto} {a1 : Value} {idx maxL d' : Nat} {y : MethodName} {bytes : ByteArray} {ret : Option FieldType} {σ' : bSto} (C : bCX X cc own d) (hd : decode cc pc = .ok (.invokestatic idx, 3)) (hm : bMS own idx y bytes maxL ret 1) (hrm : (S.map fun v => v.category).sum ≤ 8) (hdd : d' + 1 ≤ d) (hE : bEvX X y bytes maxL ret d' [a1] σ none σ') (k : bAJ X (pc + 3) L (S) σ') : bAJ X pc L (a1 :: S) σ := b_callS [a1] C hd hm rfl hrm hdd hE k
theorem b_cS1l {X : bX} {cc : ByteArray} {own : String} {d pc : Nat} {L : List (Nat × Value)} {S : List Value} {σ : bSto} {a1 : Value} {v : Int64} {idx maxL d' : Nat} {y : MethodName} {bytes : ByteArray} {ret : Option FieldType} {σ' : bSto} (C : bCX X cc own d) (hd : decode cc pc = .ok (.invokestatic idx, 3)) (hm : bMS own idx y bytes maxL ret 1) (hrm : (S.map fun v => v.category).sum ≤ 8) (hdd : d' + 1 ≤ d) (hE : bEvX X y bytes maxL ret d' [a1] σ (some (.long v)) σ') (k : bAJ X (pc + 3) L (.long v :: S) σ') : bAJ X pc L (a1 :: S) σ := b_callS [a1] C hd hm rfl hrm hdd hE k
theorem b_cV2i {X : bX} {cc : ByteArray} {own : String} {d pc : Nat} {L : List (Nat × Value)} {S : List Value} {σ : bSto} {a1 a2 : Value} {v : Int32} {o ci idx maxL d' : Nat} {fds : List Nat} {y : MethodName} {bytes : ByteArray} {ret : Option FieldType} {σ' : bSto} {T : u_T} {N : Nat} (C : bCX X cc own d) (hd : decode cc pc = .ok (.invokevirtual idx, 3)) (hm : bMV own idx y bytes maxL ret 2) (hs : (bShOf X)[o]? = some (ci + 5, fds)) (hc : bcl[ci]? = some (y.cls, T, N)) (hrm : (S.map fun v => v.category).sum ≤ 8) (hdd : d' + 1 ≤ d) (hE : bEvX X y bytes maxL ret d' [.ref o, a1, a2] σ (some (.int v)) σ') (k : bAJ X (pc + 3) L (.int v :: S) σ') : bAJ X pc L (a2 :: a1 :: .ref o :: S) σ := b_callV [a1, a2] C hd hm hs hc rfl hrm hdd hE k
theorem b_cS2i {X : bX} {cc : ByteArray} {own : String} {d pc : Nat} {L : List (Nat × Value)} {S : List Value} {σ : bSto} {a1 a2 : Value} {v : Int32} {idx maxL d' : Nat} {y : MethodName} {bytes : ByteArray} {ret : Option FieldType} {σ' : bSto} (C : bCX X cc own d) (hd : decode cc pc = .ok (.invokestatic idx, 3)) (hm : bMS own idx y bytes maxL ret 2) (hrm : (S.map fun v => v.category).sum ≤ 8) (hdd : d' + 1 ≤ d) (hE : bEvX X y bytes maxL ret d' [a1, a2] σ (some (.int v)) σ') (k : bAJ X (pc + 3) L (.int v :: S) σ') : bAJ X pc L (a2 :: a1 :: S) σ := b_callS [a1, a2] C hd hm rfl hrm hdd hE k
theorem b_cV2v {X : bX} {cc : ByteArray} {own : String} {d pc : Nat} {L : List (Nat × Value)} {S : List Value} {σ : bSto} {a1 a2 : Value} {o ci idx maxL d' : Nat} {fds : List Nat} {y : MethodName} {bytes : ByteArray} {ret : Option FieldType} {σ' : bSto} {T : u_T} {N : Nat} (C : bCX X cc own d) (hd : decode cc pc = .ok (.invokevirtual idx, 3)) (hm : bMV own idx y bytes maxL ret 2) (hs : (bShOf X)[o]? = some (ci + 5, fds)) (hc : bcl[ci]? = some (y.cls, T, N)) (hrm : (S.map fun v => v.category).sum ≤ 8) (hdd : d' + 1 ≤ d) (hE : bEvX X y bytes maxL ret d' [.ref o, a1, a2] σ none σ') (k : bAJ X (pc + 3) L (S) σ') : bAJ X pc L (a2 :: a1 :: .ref o :: S) σ := b_callV [a1, a2] C hd hm hs hc rfl hrm hdd hE k
theorem b_cS2v {X : bX} {cc : ByteArray} {own : String} {d pc : Nat} {L : List (Nat × Value)} {S : List Value} {σ : bSto} {a1 a2 : Value} {idx maxL d' : Nat} {y : MethodName} {bytes : ByteArray} {ret : Option FieldType} {σ' : bSto} (C : bCX X cc own d) (hd : decode cc pc = .ok (.invokestatic idx, 3)) (hm : bMS own idx y bytes maxL ret 2) (hrm : (S.map fun v => v.category).sum ≤ 8) (hdd : d' + 1 ≤ d) (hE : bEvX X y bytes maxL ret d' [a1, a2] σ none σ') (k : bAJ X (pc + 3) L (S) σ') : bAJ X pc L (a2 :: a1 :: S) σ := b_callS [a1, a2] C hd hm rfl hrm hdd hE k
theorem b_cS2l {X : bX} {cc : ByteArray} {own : String} {d pc : Nat} {L : List (Nat × Value)} {S : List Value} {σ : bSto} {a1 a2 : Value} {v : Int64} {idx maxL d' : Nat} {y : MethodName} {bytes : ByteArray} {ret : Option FieldType} {σ' : bSto} (C : bCX X cc own d) (hd : decode cc pc = .ok (.invokestatic idx, 3)) (hm : bMS own idx y bytes maxL ret 2) (hrm : (S.map fun v => v.category).sum ≤ 8) (hdd : d' + 1 ≤ d) (hE : bEvX X y bytes maxL ret d' [a1, a2] σ (some (.long v)) σ') (k : bAJ X (pc + 3) L (.long v :: S) σ') : bAJ X pc L (a2 :: a1 :: S) σ := b_callS [a1, a2] C hd hm rfl hrm hdd hE k
theorem b_cV3i {X : bX} {cc : ByteArray} {own : String} {d pc : Nat} {L : List (Nat × Value)} {S : List Value} {σ : bSto} {a1 a2 a3 : Value} {v : Int32} {o ci idx maxL d' : Nat} {fds : List Nat} {y : MethodName} {bytes : ByteArray} {ret : Option FieldType} {σ' : bSto} {T : u_T} {N : Nat} (C : bCX X cc own d) (hd : decode cc pc = .ok (.invokevirtual idx, 3)) (hm : bMV own idx y bytes maxL ret 3) (hs : (bShOf X)[o]? = some (ci + 5, fds)) (hc : bcl[ci]? = some (y.cls, T, N)) (hrm : (S.map fun v => v.category).sum ≤ 8) (hdd : d' + 1 ≤ d) (hE : bEvX X y bytes maxL ret d' [.ref o, a1, a2, a3] σ (some (.int v)) σ') (k : bAJ X (pc + 3) L (.int v :: S) σ') : bAJ X pc L (a3 :: a2 :: a1 :: .ref o :: S) σ := b_callV [a1, a2, a3] C hd hm hs hc rfl hrm hdd hE k
theorem b_cS3i {X : bX} {cc : ByteArray} {own : String} {d pc : Nat} {L : List (Nat × Value)} {S : List Value} {σ : bSto} {a1 a2 a3 : Value} {v : Int32} {idx maxL d' : Nat} {y : MethodName} {bytes : ByteArray} {ret : Option FieldType} {σ' : bSto} (C : bCX X cc own d) (hd : decode cc pc = .ok (.invokestatic idx, 3)) (hm : bMS own idx y bytes maxL ret 3) (hrm : (S.map fun v => v.category).sum ≤ 8) (hdd : d' + 1 ≤ d) (hE : bEvX X y bytes maxL ret d' [a1, a2, a3] σ (some (.int v)) σ') (k : bAJ X (pc + 3) L (.int v :: S) σ') : bAJ X pc L (a3 :: a2 :: a1 :: S) σ := b_callS [a1, a2, a3] C hd hm rfl hrm hdd hE k
theorem b_cV3v {X : bX} {cc : ByteArray} {own : String} {d pc : Nat} {L : List (Nat × Value)} {S : List Value} {σ : bSto} {a1 a2 a3 : Value} {o ci idx maxL d' : Nat} {fds : List Nat} {y : MethodName} {bytes : ByteArray} {ret : Option FieldType} {σ' : bSto} {T : u_T} {N : Nat} (C : bCX X cc own d) (hd : decode cc pc = .ok (.invokevirtual idx, 3)) (hm : bMV own idx y bytes maxL ret 3) (hs : (bShOf X)[o]? = some (ci + 5, fds)) (hc : bcl[ci]? = some (y.cls, T, N)) (hrm : (S.map fun v => v.category).sum ≤ 8) (hdd : d' + 1 ≤ d) (hE : bEvX X y bytes maxL ret d' [.ref o, a1, a2, a3] σ none σ') (k : bAJ X (pc + 3) L (S) σ') : bAJ X pc L (a3 :: a2 :: a1 :: .ref o :: S) σ := b_callV [a1, a2, a3] C hd hm hs hc rfl hrm hdd hE k
theorem b_cS3v {X : bX} {cc : ByteArray} {own : String} {d pc : Nat} {L : List (Nat × Value)} {S : List Value} {σ : bSto} {a1 a2 a3 : Value} {idx maxL d' : Nat} {y : MethodName} {bytes : ByteArray} {ret : Option FieldType} {σ' : bSto} (C : bCX X cc own d) (hd : decode cc pc = .ok (.invokestatic idx, 3)) (hm : bMS own idx y bytes maxL ret 3) (hrm : (S.map fun v => v.category).sum ≤ 8) (hdd : d' + 1 ≤ d) (hE : bEvX X y bytes maxL ret d' [a1, a2, a3] σ none σ') (k : bAJ X (pc + 3) L (S) σ') : bAJ X pc L (a3 :: a2 :: a1 :: S) σ := b_callS [a1, a2, a3] C hd hm rfl hrm hdd hE k
theorem b_cS3l {X : bX} {cc : ByteArray} {own : String} {d pc : Nat} {L : List (Nat × Value)} {S : List Value} {σ : bSto} {a1 a2 a3 : Value} {v : Int64} {idx maxL d' : Nat} {y : MethodName} {bytes : ByteArray} {ret : Option FieldType} {σ' : bSto} (C : bCX X cc own d) (hd : decode cc pc = .ok (.invokestatic idx, 3)) (hm : bMS own idx y bytes maxL ret 3) (hrm : (S.map fun v => v.category).sum ≤ 8) (hdd : d' + 1 ≤ d) (hE : bEvX X y bytes maxL ret d' [a1, a2, a3] σ (some (.long v)) σ') (k : bAJ X (pc + 3) L (.long v :: S) σ') : bAJ X pc L (a3 :: a2 :: a1 :: S) σ := b_callS [a1, a2, a3] C hd hm rfl hrm hdd hE k
theorem b_cV4i {X : bX} {cc : ByteArray} {own : String} {d pc : Nat} {L : List (Nat × Value)} {S : List Value} {σ : bSto} {a1 a2 a3 a4 : Value} {v : Int32} {o ci idx maxL d' : Nat} {fds : List Nat} {y : MethodName} {bytes : ByteArray} {ret : Option FieldType} {σ' : bSto} {T : u_T} {N : Nat} (C : bCX X cc own d) (hd : decode cc pc = .ok (.invokevirtual idx, 3)) (hm : bMV own idx y bytes maxL ret 4) (hs : (bShOf X)[o]? = some (ci + 5, fds)) (hc : bcl[ci]? = some (y.cls, T, N)) (hrm : (S.map fun v => v.category).sum ≤ 8) (hdd : d' + 1 ≤ d) (hE : bEvX X y bytes maxL ret d' [.ref o, a1, a2, a3, a4] σ (some (.int v)) σ') (k : bAJ X (pc + 3) L (.int v :: S) σ') : bAJ X pc L (a4 :: a3 :: a2 :: a1 :: .ref o :: S) σ := b_callV [a1, a2, a3, a4] C hd hm hs hc rfl hrm hdd hE k
theorem b_cS4i {X : bX} {cc : ByteArray} {own : String} {d pc : Nat} {L : List (Nat × Value)} {S : List Value} {σ : bSto} {a1 a2 a3 a4 : Value} {v : Int32} {idx maxL d' : Nat} {y : MethodName} {bytes : ByteArray} {ret : Option FieldType} {σ' : bSto} (C : bCX X cc own d) (hd : decode cc pc = .ok (.invokestatic idx, 3)) (hm : bMS own idx y bytes maxL ret 4) (hrm : (S.map fun v => v.category).sum ≤ 8) (hdd : d' + 1 ≤ d) (hE : bEvX X y bytes maxL ret d' [a1, a2, a3, a4] σ (some (.int v)) σ') (k : bAJ X (pc + 3) L (.int v :: S) σ') : bAJ X pc L (a4 :: a3 :: a2 :: a1 :: S) σ := b_callS [a1, a2, a3, a4] C hd hm rfl hrm hdd hE k
theorem b_cV4v {X : bX} {cc : ByteArray} {own : String} {d pc : Nat} {L : List (Nat × Value)} {S : List Value} {σ : bSto} {a1 a2 a3 a4 : Value} {o ci idx maxL d' : Nat} {fds : List Nat} {y : MethodName} {bytes : ByteArray} {ret : Option FieldType} {σ' : bSto} {T : u_T} {N : Nat} (C : bCX X cc own d) (hd : decode cc pc = .ok (.invokevirtual idx, 3)) (hm : bMV own idx y bytes maxL ret 4) (hs : (bShOf X)[o]? = some (ci + 5, fds)) (hc : bcl[ci]? = some (y.cls, T, N)) (hrm : (S.map fun v => v.category).sum ≤ 8) (hdd : d' + 1 ≤ d) (hE : bEvX X y bytes maxL ret d' [.ref o, a1, a2, a3, a4] σ none σ') (k : bAJ X (pc + 3) L (S) σ') : bAJ X pc L (a4 :: a3 :: a2 :: a1 :: .ref o :: S) σ := b_callV [a1, a2, a3, a4] C hd hm hs hc rfl hrm hdd hE k
theorem b_cS4v {X : bX} {cc : ByteArray} {own : String} {d pc : Nat} {L : List (Nat × Value)} {S : List Value} {σ : bSto} {a1 a2 a3 a4 : Value} {idx maxL d' : Nat} {y : MethodName} {bytes : ByteArray} {ret : Option FieldType} {σ' : bSto} (C : bCX X cc own d) (hd : decode cc pc = .ok (.invokestatic idx, 3)) (hm : bMS own idx y bytes maxL ret 4) (hrm : (S.map fun v => v.category).sum ≤ 8) (hdd : d' + 1 ≤ d) (hE : bEvX X y bytes maxL ret d' [a1, a2, a3, a4] σ none σ') (k : bAJ X (pc + 3) L (S) σ') : bAJ X pc L (a4 :: a3 :: a2 :: a1 :: S) σ := b_callS [a1, a2, a3, a4] C hd hm rfl hrm hdd hE k
theorem b_cS4l {X : bX} {cc : ByteArray} {own : String} {d pc : Nat} {L : List (Nat × Value)} {S : List Value} {σ : bSto} {a1 a2 a3 a4 : Value} {v : Int64} {idx maxL d' : Nat} {y : MethodName} {bytes : ByteArray} {ret : Option FieldType} {σ' : bSto} (C : bCX X cc own d) (hd : decode cc pc = .ok (.invokestatic idx, 3)) (hm : bMS own idx y bytes maxL ret 4) (hrm : (S.map fun v => v.category).sum ≤ 8) (hdd : d' + 1 ≤ d) (hE : bEvX X y bytes maxL ret d' [a1, a2, a3, a4] σ (some (.long v)) σ') (k : bAJ X (pc + 3) L (.long v :: S) σ') : bAJ X pc L (a4 :: a3 :: a2 :: a1 :: S) σ := b_callS [a1, a2, a3, a4] C hd hm rfl hrm hdd hE k
theorem b_cV5i {X : bX} {cc : ByteArray} {own : String} {d pc : Nat} {L : List (Nat × Value)} {S : List Value} {σ : bSto} {a1 a2 a3 a4 a5 : Value} {v : Int32} {o ci idx maxL d' : Nat} {fds : List Nat} {y : MethodName} {bytes : ByteArray} {ret : Option FieldType} {σ' : bSto} {T : u_T} {N : Nat} (C : bCX X cc own d) (hd : decode cc pc = .ok (.invokevirtual idx, 3)) (hm : bMV own idx y bytes maxL ret 5) (hs : (bShOf X)[o]? = some (ci + 5, fds)) (hc : bcl[ci]? = some (y.cls, T, N)) (hrm : (S.map fun v => v.category).sum ≤ 8) (hdd : d' + 1 ≤ d) (hE : bEvX X y bytes maxL ret d' [.ref o, a1, a2, a3, a4, a5] σ (some (.int v)) σ') (k : bAJ X (pc + 3) L (.int v :: S) σ') : bAJ X pc L (a5 :: a4 :: a3 :: a2 :: a1 :: .ref o :: S) σ := b_callV [a1, a2, a3, a4, a5] C hd hm hs hc rfl hrm hdd hE k
theorem b_cS5i {X : bX} {cc : ByteArray} {own : String} {d pc : Nat} {L : List (Nat × Value)} {S : List Value} {σ : bSto} {a1 a2 a3 a4 a5 : Value} {v : Int32} {idx maxL d' : Nat} {y : MethodName} {bytes : ByteArray} {ret : Option FieldType} {σ' : bSto} (C : bCX X cc own d) (hd : decode cc pc = .ok (.invokestatic idx, 3)) (hm : bMS own idx y bytes maxL ret 5) (hrm : (S.map fun v => v.category).sum ≤ 8) (hdd : d' + 1 ≤ d) (hE : bEvX X y bytes maxL ret d' [a1, a2, a3, a4, a5] σ (some (.int v)) σ') (k : bAJ X (pc + 3) L (.int v :: S) σ') : bAJ X pc L (a5 :: a4 :: a3 :: a2 :: a1 :: S) σ := b_callS [a1, a2, a3, a4, a5] C hd hm rfl hrm hdd hE k
theorem b_cV5v {X : bX} {cc : ByteArray} {own : String} {d pc : Nat} {L : List (Nat × Value)} {S : List Value} {σ : bSto} {a1 a2 a3 a4 a5 : Value} {o ci idx maxL d' : Nat} {fds : List Nat} {y : MethodName} {bytes : ByteArray} {ret : Option FieldType} {σ' : bSto} {T : u_T} {N : Nat} (C : bCX X cc own d) (hd : decode cc pc = .ok (.invokevirtual idx, 3)) (hm : bMV own idx y bytes maxL ret 5) (hs : (bShOf X)[o]? = some (ci + 5, fds)) (hc : bcl[ci]? = some (y.cls, T, N)) (hrm : (S.map fun v => v.category).sum ≤ 8) (hdd : d' + 1 ≤ d) (hE : bEvX X y bytes maxL ret d' [.ref o, a1, a2, a3, a4, a5] σ none σ') (k : bAJ X (pc + 3) L (S) σ') : bAJ X pc L (a5 :: a4 :: a3 :: a2 :: a1 :: .ref o :: S) σ := b_callV [a1, a2, a3, a4, a5] C hd hm hs hc rfl hrm hdd hE k
theorem b_cS5v {X : bX} {cc : ByteArray} {own : String} {d pc : Nat} {L : List (Nat × Value)} {S : List Value} {σ : bSto} {a1 a2 a3 a4 a5 : Value} {idx maxL d' : Nat} {y : MethodName} {bytes : ByteArray} {ret : Option FieldType} {σ' : bSto} (C : bCX X cc own d) (hd : decode cc pc = .ok (.invokestatic idx, 3)) (hm : bMS own idx y bytes maxL ret 5) (hrm : (S.map fun v => v.category).sum ≤ 8) (hdd : d' + 1 ≤ d) (hE : bEvX X y bytes maxL ret d' [a1, a2, a3, a4, a5] σ none σ') (k : bAJ X (pc + 3) L (S) σ') : bAJ X pc L (a5 :: a4 :: a3 :: a2 :: a1 :: S) σ := b_callS [a1, a2, a3, a4, a5] C hd hm rfl hrm hdd hE k
theorem b_cS5l {X : bX} {cc : ByteArray} {own : String} {d pc : Nat} {L : List (Nat × Value)} {S : List Value} {σ : bSto} {a1 a2 a3 a4 a5 : Value} {v : Int64} {idx maxL d' : Nat} {y : MethodName} {bytes : ByteArray} {ret : Option FieldType} {σ' : bSto} (C : bCX X cc own d) (hd : decode cc pc = .ok (.invokestatic idx, 3)) (hm : bMS own idx y bytes maxL ret 5) (hrm : (S.map fun v => v.category).sum ≤ 8) (hdd : d' + 1 ≤ d) (hE : bEvX X y bytes maxL ret d' [a1, a2, a3, a4, a5] σ (some (.long v)) σ') (k : bAJ X (pc + 3) L (.long v :: S) σ') : bAJ X pc L (a5 :: a4 :: a3 :: a2 :: a1 :: S) σ := b_callS [a1, a2, a3, a4, a5] C hd hm rfl hrm hdd hE k