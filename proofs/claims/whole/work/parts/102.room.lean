/-! ===== a room's hall and folk (own work) ===== -/
/-- the numbers of a room lie within their bounds -/
def WF (v : Nat → Nat) : Prop := (1 ≤ v 0 ∧ v 0 ≤ 9) ∧ (1 ≤ v 1 ∧ v 1 ≤ 9) ∧ (1 ≤ v 2 ∧ v 2 ≤ 60) ∧ (1 ≤ v 3 ∧ v 3 ≤ 6) ∧ v 4 ≤ 7 ∧ v 5 ≤ 6 ∧ v 6 ≤ 9 ∧ v 7 + v 8 ≤ 8 ∧ (v 9 % 10 ≤ 8 ∧ v 9 / 10 ≤ 8) ∧ v 10 ≤ 200 ∧
  (∀ b, b < v 3 → v (11 + 4 * b) ≤ 2 ∧ (v (12 + 4 * b) % 10 ≤ 8 ∧ v (12 + 4 * b) / 10 ≤ 8) ∧ (1 ≤ v (13 + 4 * b) ∧ v (13 + 4 * b) ≤ 3) ∧ v (14 + 4 * b) ≤ 30) ∧
  (∀ p, p < v 4 → v (35 + 4 * p) ≤ 3 ∧ v (36 + 4 * p) ≤ 60 ∧ v (37 + 4 * p) ≤ v 3) ∧ ∀ p, p < 7 → v (70 + p) < 128
/-- the reference's row of a room, but for the beliefs told -/
def MV (v : Nat → Nat) (σ : bSto) : Prop := ∀ k, k < 406 → ¬ (35 ≤ k ∧ k < 63 ∧ k % 4 = 2) → σ.1 95 k = nI (v k)
/-- the class's hall at room c -/
def CVh (c : Nat) (v : Nat → Nat) (σ : bSto) : Prop := σ.1 (c + 1) 5 = nI (v 3) ∧ σ.1 (c + 1) 6 = nI (v 0) ∧ σ.1 (c + 1) 7 = nI (v 1) ∧ σ.1 (c + 1) 8 = nI (v 9 % 10) ∧ σ.1 (c + 1) 9 = nI (v 9 / 10) ∧ σ.1 (c + 1) 10 = nI (v 2) ∧
  ∀ b, b < v 3 → σ.1 (c + 1 + 1) b = nI (v (11 + 4 * b)) ∧ σ.1 (c + 1 + 2) b = nI (v (12 + 4 * b) % 10) ∧ σ.1 (c + 1 + 3) b = nI (v (12 + 4 * b) / 10) ∧ σ.1 (c + 1 + 4) b = nI (v (13 + 4 * b)) ∧ σ.1 (c + 1 + 5) b = nI (v (14 + 4 * b))
/-- the class's folk at room c -/
def CVf (c : Nat) (v : Nat → Nat) (σ : bSto) : Prop := σ.1 (c + 7) 7 = nI (v 4) ∧ σ.1 (c + 7) 8 = nI (v 5) ∧ σ.1 (c + 7) 9 = nI (v 6) ∧ ∀ p, p < v 4 → σ.1 (c + 7 + 1) p = nI (v (35 + 4 * p)) ∧ σ.1 (c + 7 + 3) p = nI (v (36 + 4 * p)) ∧ σ.1 (c + 7 + 4) p = nI (v (70 + p))
theorem MV.at {v : Nat → Nat} {σ : bSto} (h : MV v σ) (k : Nat) (hk : k < 406) (h2 : k < 35 ∨ 63 ≤ k ∨ k % 4 ≠ 2) : σ.1 95 k = nI (v k) := h k hk (by omega)
def ad (a b : Nat) : Nat := (a - b) + (b - a)
theorem abs_all : ∀ a b : Fin 10, (if 0 ≤ nI a.val - nI b.val then nI a.val - nI b.val else -(nI a.val - nI b.val)) = nI (ad a.val b.val) := by decide +kernel
theorem s_abs {a b : Nat} (ha : a < 10) (hb : b < 10) (σ : bSto) : f_J9_abs_0f7a4 (nI a - nI b) σ = some (nI (ad a b), σ) := by
  rw [← abs_all ⟨a, ha⟩ ⟨b, hb⟩, f_J9_abs_0f7a4]
  split <;> rfl
theorem max_all : ∀ H : Fin 61, ∀ x : Fin 20, (if 0 < nI H.val - nI (4 * x.val) then nI H.val - nI (4 * x.val) else 0) = nI (H.val - 4 * x.val) ∧ (if 0 ≤ nI H.val - nI (4 * x.val) then nI H.val - nI (4 * x.val) else 0) = nI (H.val - 4 * x.val) := by decide +kernel
theorem s_max (x y : Int32) (σ : bSto) : f_J9_max_7cf53 x y σ = some ((if x < y then y else x), σ) := by rw [f_J9_max_7cf53]; split <;> rfl
theorem s_min (x y : Int32) (σ : bSto) : f_J9_min_7cf53 x y σ = some ((if y < x then y else x), σ) := by rw [f_J9_min_7cf53]; split <;> rfl
theorem if_some {c : Prop} [Decidable c] {α β : Type} {a b : α} {σ : β} : (if c then some (a, σ) else some (b, σ)) = some ((if c then a else b), σ) := by split <;> rfl
/-- how warm bench b is by the stove's heat H alone -/
def htv (v : Nat → Nat) (b H : Nat) : Nat := H - 4 * (ad (v (12 + 4 * b) % 10) (v 9 % 10) + ad (v (12 + 4 * b) / 10) (v 9 / 10))
theorem htv_lt {v : Nat → Nat} {b H : Nat} (hH : H ≤ 60) : htv v b H ≤ 60 := by unfold htv; omega
theorem s_heatAlone {c : Nat} {v : Nat → Nat} {σ : bSto} (w : WF v) (h : CVh c v σ) {b H : Nat} (hb : b < v 3) (hH : H ≤ 60) : f_X3_heatAlone (c + 1) (nI b) (nI H) σ = some (nI (htv v b H), σ) := by
  obtain ⟨-, -, -, h8, h9, -, hh⟩ := h
  obtain ⟨-, h1, h2, -, -⟩ := hh b hb
  obtain ⟨-, -, -, ⟨-, hb6⟩, -, -, -, -, ⟨hs1, hs2⟩, -, hbb, -, -⟩ := w
  obtain ⟨-, ⟨hx, hy⟩, -, -⟩ := hbb b hb
  have e1 : ad (v (12 + 4 * b) % 10) (v 9 % 10) < 10 := by unfold ad; omega
  have e2 : ad (v (12 + 4 * b) / 10) (v 9 / 10) < 10 := by unfold ad; omega
  rw [f_X3_heatAlone]
  simp (disch := omega) only [q_lit, q_lt0, q_ge0, q_le, q_lt, q_eq, q_cl, q_add, q_mul, q_div, q_rem, if_false, false_or, h1, h2, h8, h9]
  rw [if_neg (by omega), s_abs (by omega) (by omega)]
  simp only [bbd]
  rw [if_neg (by omega), h2, h9, s_abs (by omega) (by omega)]
  simp only [bbd, blet, q_add, q_lit, q_mul, s_max]
  have hm := (max_all ⟨H, by omega⟩ ⟨ad (v (12 + 4 * b) % 10) (v 9 % 10) + ad (v (12 + 4 * b) / 10) (v 9 / 10), by omega⟩).1
  exact congrArg (fun z => some (z, σ)) hm
theorem s_apart {a b : Nat} (ha : a < 100) (hb : b < 100) (σ : bSto) : f_X12_apart (nI a) (nI b) σ = some (nI (ad a b), σ) := by
  rw [f_X12_apart]
  simp (disch := omega) only [q_lit, q_lt0, q_ge0, q_le, q_lt, q_eq, q_cl, q_add, q_mul, q_div, q_rem]
  by_cases h : a ≤ b
  · have e : b - a = ad a b := by unfold ad; omega
    rw [if_pos h, q_sub h, e]
  · have e : a - b = ad a b := by unfold ad; omega
    rw [if_neg h, q_sub (by omega), e]
theorem s_heatBy {v : Nat → Nat} {σ : bSto} (w : WF v) (h : MV v σ) {b H : Nat} (hb : b < v 3) (hH : H ≤ 60) : f_X12_heatBy (nI b) (nI H) σ = some (nI (htv v b H), σ) := by
  obtain ⟨-, -, -, ⟨-, hb6⟩, -, -, -, -, ⟨hs1, hs2⟩, -, hbb, -, -⟩ := w
  obtain ⟨-, ⟨hx, hy⟩, -, -⟩ := hbb b hb
  have e1 : ad (v (12 + 4 * b) % 10) (v 9 % 10) < 10 := by unfold ad; omega
  have e2 : ad (v (12 + 4 * b) / 10) (v 9 / 10) < 10 := by unfold ad; omega
  have hc : v (12 + 4 * b) < 100 := by omega
  have hs : v 9 < 100 := by omega
  rw [f_X12_heatBy]
  simp (disch := omega) only [q_lit, q_lt0, q_ge0, q_le, q_lt, q_eq, q_cl, q_add, q_mul, q_div, q_rem, if_false, false_or, blet]
  rw [if_neg (by omega), show 11 + 4 * b + 1 = 12 + 4 * b by omega, h.at (12 + 4 * b) (by omega) (by omega), h.at 9 (by omega) (by omega)]
  simp (disch := omega) only [q_lit, q_lt0, q_ge0, q_le, q_lt, q_eq, q_cl, q_add, q_mul, q_div, q_rem]
  rw [s_apart (by omega) (by omega)]
  simp only [bbd]
  rw [h.at 9 (by omega) (by omega)]
  simp (disch := omega) only [q_lit, q_lt0, q_ge0, q_le, q_lt, q_eq, q_cl, q_add, q_mul, q_div, q_rem]
  rw [s_apart (by omega) (by omega)]
  simp only [bbd, q_add, q_mul]
  have hm := (max_all ⟨H, by omega⟩ ⟨ad (v (12 + 4 * b) % 10) (v 9 % 10) + ad (v (12 + 4 * b) / 10) (v 9 / 10), by omega⟩).2
  rw [if_some]
  exact congrArg (fun z => some (z, σ)) hm
/-- may one of kind k sit on a bench of sort s -/
def mayK (k s : Nat) : Bool := s == 0 || k == 3 || (s == 1 && k == 1) || (s == 2 && k == 2)
theorem may_all : ∀ k : Fin 4, ∀ s : Fin 3, ((((bsorts k.val) >>> (nI s.val &&& 31)) &&& (1 : Int32)) = (1 : Int32)) = (mayK k.val s.val = true) := by decide +kernel
def b2 (b : Bool) : Int32 := if b then 1 else 0
theorem s_allows {c : Nat} {v : Nat → Nat} {σ : bSto} (w : WF v) (h : CVh c v σ) (hf : CVf c v σ) {p b : Nat} (hp : p < v 4) (hb : b < v 3) : f_X7_allows c (nI p) (nI b) σ = some (b2 (mayK (v (35 + 4 * p)) (v (11 + 4 * b))), σ) := by
  obtain ⟨-, -, -, -, -, -, hh⟩ := h
  obtain ⟨h1, -⟩ := hh b hb
  obtain ⟨-, -, -, hff⟩ := hf
  obtain ⟨h2, -⟩ := hff p hp
  obtain ⟨-, -, -, ⟨-, hb6⟩, hp7, -, -, -, -, -, hbb, hpp, -⟩ := w
  obtain ⟨hs, -⟩ := hbb b hb
  obtain ⟨hk, -⟩ := hpp p hp
  rw [f_X7_allows]
  simp (disch := omega) only [q_lit, q_lt0, q_ge0, q_le, q_lt, q_eq, q_cl, q_add, q_mul, q_div, q_rem, if_false, false_or, blet, h1, h2]
  repeat rw [if_neg (by omega)]
  have hm := may_all ⟨v (35 + 4 * p), by omega⟩ ⟨v (11 + 4 * b), by omega⟩
  simp only [q_lit] at hm
  rw [f_X7_allows_J47]
  simp only [hm, b2]
  split <;> rfl
theorem mayBe_all : ∀ k : Fin 4, ∀ s : Fin 3, (f_X12_mayBe (nI k.val) (nI s.val) bz0).map (fun q => q.1) = some (b2 (mayK k.val s.val)) := by decide +kernel
theorem mayBe_st (x y : Int32) (σ : bSto) : f_X12_mayBe x y σ = (f_X12_mayBe x y bz0).map (fun q => (q.1, σ)) := by
  simp only [f_X12_mayBe, f_X12_mayBe_J19, f_X12_mayBe_J33]
  (repeat' split) <;> rfl
theorem s_mayBe {k s : Nat} (hk : k < 4) (hs : s < 3) (σ : bSto) : f_X12_mayBe (nI k) (nI s) σ = some (b2 (mayK k s), σ) := by
  rw [mayBe_st]
  have h := mayBe_all ⟨k, hk⟩ ⟨s, hs⟩
  cases hf : f_X12_mayBe (nI k) (nI s) bz0 with
  | none => rw [hf] at h; cases h
  | some q =>
    rw [hf] at h
    have h2 : q.1 = b2 (mayK k s) := Option.some.inj h
    simp [h2]
theorem b2_z (b : Bool) : (b2 b = 0 ∨ b2 b = 1) = True := by cases b <;> simp [b2]
theorem b2_zn (b : Bool) : (b2 b = nI 0 ∨ b2 b = nI 1) = True := b2_z b
theorem b2_0n (b : Bool) : (b2 b = nI 0) = (b = false) := by cases b <;> decide
theorem b2_0 (b : Bool) : (b2 b = 0) = (b = false) := by cases b <;> decide
theorem s_kindOf {v : Nat → Nat} {σ : bSto} (h : MV v σ) {p : Nat} (hp : p < 7) : f_X12_kindOf (nI p) σ = some (nI (v (35 + 4 * p)), σ) := by
  rw [f_X12_kindOf]
  simp (disch := omega) only [q_lit, q_lt0, q_ge0, q_le, q_lt, q_eq, q_cl, q_add, q_mul, q_div, q_rem, if_false, false_or]
  rw [if_neg (by omega), h.at _ (by omega) (by omega)]
theorem s_coldOf {v : Nat → Nat} {σ : bSto} (h : MV v σ) {p : Nat} (hp : p < 7) : f_X12_coldOf (nI p) σ = some (nI (v (36 + 4 * p)), σ) := by
  rw [f_X12_coldOf]
  simp (disch := omega) only [q_lit, q_lt0, q_ge0, q_le, q_lt, q_eq, q_cl, q_add, q_mul, q_div, q_rem, if_false, false_or]
  rw [if_neg (by omega), h.at _ (by omega) (by omega), show 35 + 4 * p + 1 = 36 + 4 * p by omega]
theorem s_seatsOf {v : Nat → Nat} {σ : bSto} (h : MV v σ) {b : Nat} (hb : b < 6) : f_X12_seatsOf (nI b) σ = some (nI (v (13 + 4 * b)), σ) := by
  rw [f_X12_seatsOf]
  simp (disch := omega) only [q_lit, q_lt0, q_ge0, q_le, q_lt, q_eq, q_cl, q_add, q_mul, q_div, q_rem, if_false, false_or]
  rw [if_neg (by omega), h.at _ (by omega) (by omega), show 11 + 4 * b + 2 = 13 + 4 * b by omega]
theorem s_rentOf {v : Nat → Nat} {σ : bSto} (h : MV v σ) {b : Nat} (hb : b < 6) : f_X12_rentOf (nI b) σ = some (nI (v (14 + 4 * b)), σ) := by
  rw [f_X12_rentOf]
  simp (disch := omega) only [q_lit, q_lt0, q_ge0, q_le, q_lt, q_eq, q_cl, q_add, q_mul, q_div, q_rem, if_false, false_or]
  rw [if_neg (by omega), h.at _ (by omega) (by omega), show 11 + 4 * b + 3 = 14 + 4 * b by omega]
theorem s_mayOn {v : Nat → Nat} {σ : bSto} (w : WF v) (h : MV v σ) {p b : Nat} (hp : p < v 4) (hb : b < v 3) : f_X12_mayOn (nI p) (nI b) σ = some (b2 (mayK (v (35 + 4 * p)) (v (11 + 4 * b))), σ) := by
  obtain ⟨-, -, -, ⟨-, hb6⟩, hp7, -, -, -, -, -, hbb, hpp, -⟩ := w
  obtain ⟨hs, -⟩ := hbb b hb
  obtain ⟨hk, -⟩ := hpp p hp
  rw [f_X12_mayOn, s_kindOf h (by omega)]
  simp (disch := omega) only [q_lit, q_lt0, q_ge0, q_le, q_lt, q_eq, q_cl, q_add, q_mul, q_div, q_rem, if_false, false_or, bbd]
  rw [if_neg (by omega), h.at _ (by omega) (by omega), s_mayBe (by omega) (by omega)]
  simp only [b2_z, b2_zn, if_true]
