/-! ===== acts, undoing, images (own work) ===== -/
def nowRow (σ : bSto) : Nat → Int32 := fun k => if k < 7 then σ.1 31 k else if k < 14 then σ.1 32 (k - 7) else if k = 14 then σ.1 30 2 else σ.1 30 3
theorem s_writeTo {A : Nat} (hA : 37 < A) (hl : bln A = 16) (σ : bSto) : ∃ τ, f_X4_writeTo 30 A σ = some τ ∧ AO (fun a _ => a = A) σ τ ∧ ∀ k, k < 16 → τ.1 A k = nowRow σ k := by
  have h : f_X4_writeTo 30 A σ = some (bI (bI (bA (bA σ A (va_cpy (σ.1 (30 + 1)) (σ.1 A) 0 0 7)) A (va_cpy ((bA σ A (va_cpy (σ.1 (30 + 1)) (σ.1 A) 0 0 7)).1 (30 + 2)) ((bA σ A (va_cpy (σ.1 (30 + 1)) (σ.1 A) 0 0 7)).1 A) 0 7 7)) A 14 ((bA (bA σ A (va_cpy (σ.1 (30 + 1)) (σ.1 A) 0 0 7)) A (va_cpy ((bA σ A (va_cpy (σ.1 (30 + 1)) (σ.1 A) 0 0 7)).1 (30 + 2)) ((bA σ A (va_cpy (σ.1 (30 + 1)) (σ.1 A) 0 0 7)).1 A) 0 7 7)).1 30 2)) A 15 ((bI (bA (bA σ A (va_cpy (σ.1 (30 + 1)) (σ.1 A) 0 0 7)) A (va_cpy ((bA σ A (va_cpy (σ.1 (30 + 1)) (σ.1 A) 0 0 7)).1 (30 + 2)) ((bA σ A (va_cpy (σ.1 (30 + 1)) (σ.1 A) 0 0 7)).1 A) 0 7 7)) A 14 ((bA (bA σ A (va_cpy (σ.1 (30 + 1)) (σ.1 A) 0 0 7)) A (va_cpy ((bA σ A (va_cpy (σ.1 (30 + 1)) (σ.1 A) 0 0 7)).1 (30 + 2)) ((bA σ A (va_cpy (σ.1 (30 + 1)) (σ.1 A) 0 0 7)).1 A) 0 7 7)).1 30 2)).1 30 3)) := by
    rw [f_X4_writeTo, hl, if_pos (by decide), if_neg (by decide)]
    simp only [blet]
    rw [if_neg (by decide), if_neg (by decide), if_neg (by decide)]
    rfl
  have hAA : AO (fun a _ => a = A) σ σ := AO.refl _ _
  refine ⟨_, h, (((hAA.trans (AO.setA _ _ (fun k => Or.inr rfl))).trans (AO.setA _ _ (fun k => Or.inr rfl))).trans (AO.set _ _ rfl)).trans (AO.set _ _ rfl), fun k hk => ?_⟩
  unfold nowRow
  by_cases c1 : k < 7
  · rw [if_pos c1, bI_ne (Or.inr (by omega)), bI_ne (Or.inr (by omega)), bA_eq, va_cpy, if_neg (by omega), bA_eq, va_cpy, if_pos (by omega), show 0 + (k - 0) = k by omega] <;> rfl
  · rw [if_neg c1]
    by_cases c2 : k < 14
    · rw [if_pos c2, bI_ne (Or.inr (by omega)), bI_ne (Or.inr (by omega)), bA_eq, va_cpy, if_pos (by omega), bA_ne (a := 30 + 2) (by omega), show 0 + (k - 7) = k - 7 by omega] <;> rfl
    · rw [if_neg c2]
      by_cases c3 : k = 14
      · rw [if_pos c3, bI_ne (Or.inr (by omega)), c3, bI_eq, bA_ne (by omega), bA_ne (by omega)]
      · rw [if_neg c3, show k = 15 by omega, bI_eq, bI_ne (Or.inl (by omega)), bA_ne (by omega), bA_ne (by omega)]
def Bn : Nat → Nat → Prop := fun a k => a = 31 ∨ a = 32 ∨ (a = 30 ∧ (k = 2 ∨ k = 3))
theorem s_readFrom {A : Nat} (hA : 37 < A) (hl : bln A = 16) (σ : bSto) : ∃ τ, f_X4_readFrom 30 A σ = some τ ∧ AO Bn σ τ ∧ ∀ k, k < 16 → nowRow τ k = σ.1 A k := by
  have h : f_X4_readFrom 30 A σ = some (bI (bI (bA (bA σ (30 + 1) (va_cpy (σ.1 A) (σ.1 (30 + 1)) 0 0 7)) (30 + 2) (va_cpy ((bA σ (30 + 1) (va_cpy (σ.1 A) (σ.1 (30 + 1)) 0 0 7)).1 A) ((bA σ (30 + 1) (va_cpy (σ.1 A) (σ.1 (30 + 1)) 0 0 7)).1 (30 + 2)) 7 0 7)) 30 2 ((bA (bA σ (30 + 1) (va_cpy (σ.1 A) (σ.1 (30 + 1)) 0 0 7)) (30 + 2) (va_cpy ((bA σ (30 + 1) (va_cpy (σ.1 A) (σ.1 (30 + 1)) 0 0 7)).1 A) ((bA σ (30 + 1) (va_cpy (σ.1 A) (σ.1 (30 + 1)) 0 0 7)).1 (30 + 2)) 7 0 7)).1 A 14)) 30 3 ((bI (bA (bA σ (30 + 1) (va_cpy (σ.1 A) (σ.1 (30 + 1)) 0 0 7)) (30 + 2) (va_cpy ((bA σ (30 + 1) (va_cpy (σ.1 A) (σ.1 (30 + 1)) 0 0 7)).1 A) ((bA σ (30 + 1) (va_cpy (σ.1 A) (σ.1 (30 + 1)) 0 0 7)).1 (30 + 2)) 7 0 7)) 30 2 ((bA (bA σ (30 + 1) (va_cpy (σ.1 A) (σ.1 (30 + 1)) 0 0 7)) (30 + 2) (va_cpy ((bA σ (30 + 1) (va_cpy (σ.1 A) (σ.1 (30 + 1)) 0 0 7)).1 A) ((bA σ (30 + 1) (va_cpy (σ.1 A) (σ.1 (30 + 1)) 0 0 7)).1 (30 + 2)) 7 0 7)).1 A 14)).1 A 15)) := by
    rw [f_X4_readFrom, hl, if_pos (by decide), if_neg (by decide)]
    simp only [blet]
    rw [if_neg (by decide), if_neg (by decide), if_neg (by decide)]
    rfl
  have hAA : AO Bn σ σ := AO.refl _ _
  refine ⟨_, h, (((hAA.trans (AO.setA _ _ (fun k => Or.inr (Or.inl rfl)))).trans (AO.setA _ _ (fun k => Or.inr (Or.inr (Or.inl rfl))))).trans (AO.set _ _ (Or.inr (Or.inr ⟨rfl, Or.inl rfl⟩)))).trans (AO.set _ _ (Or.inr (Or.inr ⟨rfl, Or.inr rfl⟩))), fun k hk => ?_⟩
  unfold nowRow
  by_cases c1 : k < 7
  · rw [if_pos c1, bI_ne (Or.inl (by decide)), bI_ne (Or.inl (by decide)), bA_ne (by decide), bA_eq, va_cpy, if_pos (by omega), show 0 + (k - 0) = k by omega]
  · rw [if_neg c1]
    by_cases c2 : k < 14
    · rw [if_pos c2, bI_ne (Or.inl (by decide)), bI_ne (Or.inl (by decide)), bA_eq, va_cpy, if_pos (by omega), bA_ne (by omega), show 7 + (k - 7 - 0) = k by omega]
    · rw [if_neg c2]
      by_cases c3 : k = 14
      · rw [if_pos c3, bI_ne (Or.inr (by decide)), bI_eq, bA_ne (by omega), bA_ne (by omega), c3]
      · rw [if_neg c3, show k = 15 by omega, bI_eq, bI_ne (Or.inl (by omega)), bA_ne (by omega), bA_ne (by omega)]
/-- a row of the class and one of the reference tell the same, and lie within their bounds -/
def RW (v : Nat → Nat) (cs ms : Nat → Int32) : Prop := ∃ (s : Nat → Nat) (S D : Nat), (∀ p, s p ≤ v 3) ∧ (∀ p, v 4 ≤ p → s p = 0) ∧ (∀ p, p < 7 → cs p = sv (s p) ∧ ms p = nI (s p) ∧ cs (7 + p) = ms (7 + p)) ∧ (cs 14 = nI S ∧ ms 14 = nI S ∧ S ≤ 200) ∧ cs 15 = nI D ∧ ms 15 = nI D ∧ D ≤ 99
theorem RW.congr {v : Nat → Nat} {cs ms ct mt : Nat → Int32} (h : RW v cs ms) (h1 : ∀ k, k < 16 → ct k = cs k) (h2 : ∀ k, k < 16 → mt k = ms k) : RW v ct mt := by
  obtain ⟨s, S, D, a1, a2, a3, ⟨a4, a5, a6⟩, a7, a8, a9⟩ := h
  refine ⟨s, S, D, a1, a2, fun p hp => ?_, ⟨?_, ?_, a6⟩, ?_, ?_, a9⟩
  · rw [h1 p (by omega), h2 p (by omega), h1 (7 + p) (by omega), h2 (7 + p) (by omega)]
    exact a3 p hp
  · rw [h1 14 (by omega), a4]
  · rw [h2 14 (by omega), a5]
  · rw [h1 15 (by omega), a7]
  · rw [h2 15 (by omega), a8]
/-- acts and images -/
def PV (v : Nat → Nat) (n x m : Nat) (σ : bSto) : Prop := (n ≤ 16 ∧ x < 16 ∧ m ≤ 3) ∧ (σ.1 36 2 = nI x ∧ σ.1 36 3 = nI n ∧ σ.1 36 4 = nI m) ∧ (σ.1 92 20 = nI n ∧ σ.1 92 21 = nI m) ∧ (∀ j, j < n → RW v (σ.1 (38 + (x + 16 - n + j) % 16)) (fun k => σ.1 98 (16 * j + k))) ∧ ∀ j, j < m → RW v (σ.1 (55 + j)) (fun k => σ.1 99 (16 * j + k))
theorem PV.ao {B : Nat → Nat → Prop} {v : Nat → Nat} {n x m : Nat} {σ τ : bSto} (h : PV v n x m σ) (ha : AO B σ τ) (hB : ∀ a k, B a k → (a ≠ 36 ∧ ¬ (38 ≤ a ∧ a < 58) ∧ a ≠ 98 ∧ a ≠ 99) ∧ (a = 92 → k ≠ 20 ∧ k ≠ 21)) : PV v n x m τ := by
  obtain ⟨h1, ⟨h2, h3, h4⟩, ⟨h5, h6⟩, h7, h8⟩ := h
  refine ⟨h1, ⟨?_, ?_, ?_⟩, ⟨?_, ?_⟩, fun j hj => ?_, fun j hj => ?_⟩
  · rw [ha.1 _ _ (fun z => by have := (hB _ _ z).1; omega), h2]
  · rw [ha.1 _ _ (fun z => by have := (hB _ _ z).1; omega), h3]
  · rw [ha.1 _ _ (fun z => by have := (hB _ _ z).1; omega), h4]
  · rw [ha.1 _ _ (fun z => by have := (hB _ _ z).2 rfl; omega), h5]
  · rw [ha.1 _ _ (fun z => by have := (hB _ _ z).2 rfl; omega), h6]
  · exact (h7 j hj).congr (fun k hk => ha.1 _ _ (fun z => by have := (hB _ _ z).1; omega)) (fun k hk => ha.1 _ _ (fun z => by have := (hB _ _ z).1; omega))
  · exact (h8 j hj).congr (fun k hk => ha.1 _ _ (fun z => by have := (hB _ _ z).1; omega)) (fun k hk => ha.1 _ _ (fun z => by have := (hB _ _ z).1; omega))
theorem bln38 {x : Nat} (h : x < 16) : bln (38 + x) = 16 := (by decide +kernel : ∀ x : Fin 16, bln (38 + x.val) = 16) ⟨x, h⟩
theorem bln55 {x : Nat} (h : x < 3) : bln (55 + x) = 16 := (by decide +kernel : ∀ x : Fin 3, bln (55 + x.val) = 16) ⟨x, h⟩
def Bk2 (x : Nat) : Nat → Nat → Prop := fun a k => a = 38 + x ∨ (a = 36 ∧ (k = 2 ∨ k = 3))
theorem s_keepAct {n x : Nat} {σ : bSto} (hx : x < 16) (hn : n ≤ 16) (h2 : σ.1 36 2 = nI x) (h3 : σ.1 36 3 = nI n) : ∃ τ, f_X6_keepAct 30 σ = some τ ∧ AO (Bk2 x) σ τ ∧ (∀ k, k < 16 → τ.1 (38 + x) k = nowRow σ k) ∧ τ.1 36 2 = nI ((x + 1) % 16) ∧ τ.1 36 3 = nI (min (n + 1) 16) := by
  obtain ⟨τ1, a1, a2, a3⟩ := s_writeTo (A := 38 + x) (by omega) (bln38 hx) σ
  have b2' : τ1.1 36 2 = nI x := by rw [a2.1 36 2 (by show ¬ 36 = 38 + x; omega), h2]
  have b3' : τ1.1 36 3 = nI n := by rw [a2.1 36 3 (by show ¬ 36 = 38 + x; omega), h3]
  have hAA : AO (Bk2 x) σ τ1 := a2.mono (fun a k h => Or.inl h)
  have g1 : ¬ 16 ≤ x := by omega
  have hm : (if nI 16 < nI (n + 1) then nI 16 else nI (n + 1)) = nI (min (n + 1) 16) := by
    simp (disch := omega) only [q_lit, q_lt0, q_ge0, q_le, q_lt, q_eq, q_cl, q_add, q_mul, q_div, q_rem]
    by_cases e : 16 < n + 1
    · rw [if_pos e, Nat.min_eq_right (by omega)]
    · rw [if_neg e, Nat.min_eq_left (by omega)]
  refine ⟨bI (bI τ1 36 2 (nI ((x + 1) % 16))) 36 3 (nI (min (n + 1) 16)), ?_, (hAA.trans (AO.set _ _ (Or.inr ⟨rfl, Or.inl rfl⟩))).trans (AO.set _ _ (Or.inr ⟨rfl, Or.inr rfl⟩)), fun k hk => ?_, ?_, ?_⟩
  · rw [f_X6_keepAct, h2]
    simp (disch := omega) only [q_lit, q_lt0, q_ge0, q_le, q_lt, q_eq, q_cl, q_add, q_mul, q_div, q_rem, if_false, false_or, or_false, or_self, Nat.not_lt_zero, g1]
    rw [a1]
    simp only [bbv, b2', blet]
    simp (disch := omega) only [q_lit, q_lt0, q_ge0, q_le, q_lt, q_eq, q_cl, q_add, q_mul, q_div, q_rem]
    rw [bI_ne (Or.inr (by decide)), b3', q_add, s_min, hm]
    rfl
  · rw [bI_ne (Or.inl (by omega)), bI_ne (Or.inl (by omega)), a3 k hk]
  · rw [bI_ne (Or.inr (by decide)), bI_eq]
  · rw [bI_eq]
theorem s_noteL (old : Nat → Int32) : ∀ k i n σ, i + k = 240 → k < n → (∀ q, σ.1 98 q = if q < i then old (q + 16) else old q) → ∃ τ, f_X12_note_L11 n (nI i) σ = some τ ∧ AO (fun a _ => a = 98) σ τ ∧ ∀ q, τ.1 98 q = if q < 240 then old (q + 16) else old q := by
  intro k
  induction k with
  | zero =>
    intro i n σ hi hn hq
    obtain ⟨n, rfl⟩ : ∃ n', n = n' + 1 := ⟨n - 1, by omega⟩
    obtain rfl : i = 240 := by omega
    refine ⟨σ, ?_, AO.refl _ _, hq⟩
    rw [f_X12_note_L11, if_pos (by decide)]
  | succ k ih =>
    intro i n σ hi hn hq
    obtain ⟨n, rfl⟩ : ∃ n', n = n' + 1 := ⟨n - 1, by omega⟩
    have hA : AO (fun a _ => a = 98) σ (bI σ 98 i (old (i + 16))) := AO.set σ _ rfl
    obtain ⟨τ, h1, h2, h3⟩ := ih (i + 1) n (bI σ 98 i (old (i + 16))) (by omega) (by omega) (fun q => by
      rw [bI_at]
      by_cases e : q = i
      · rw [if_pos ⟨rfl, e⟩, e, if_pos (by omega)]
      · rw [if_neg (by simp [e]), hq q]
        by_cases e3 : q < i
        · rw [if_pos e3, if_pos (by omega)]
        · rw [if_neg e3, if_neg (by omega)])
    refine ⟨τ, ?_, hA.trans h2, h3⟩
    have g1 : ¬ 240 ≤ i := by omega
    have g2 : ¬ 256 ≤ i + 16 := by omega
    have g3 : ¬ 256 ≤ i := by omega
    have hqi := hq (i + 16)
    rw [if_neg (by omega)] at hqi
    rw [← h1, f_X12_note_L11]
    simp (disch := omega) only [q_lit, q_lt0, q_ge0, q_le, q_lt, q_eq, q_cl, q_add, q_mul, q_div, q_rem, blet, g1, g2, g3, hqi, if_false, false_or, or_false, or_self, Nat.not_lt_zero]
def B98 : Nat → Nat → Prop := fun a k => a = 98 ∨ (a = 92 ∧ k = 20)
theorem s_noteJ {n : Nat} {σ : bSto} (hn : n < 16) (h20 : σ.1 92 20 = nI n) : ∃ τ, f_X12_note_J49 σ = some τ ∧ AO B98 σ τ ∧ τ.1 92 20 = nI (n + 1) ∧ ∀ q, τ.1 98 q = if 16 * n ≤ q ∧ q < 16 * n + 16 then σ.1 97 (q - 16 * n) else σ.1 98 q := by
  have hc := s_copy (a := 97) (b := 98) (i := 0) (j := 16 * n) (m := 16) (by decide) (by decide) (by show 16 * n + 16 ≤ 256; omega) (by decide) (by decide) σ
  refine ⟨bI (bA σ 98 (fun k => if 16 * n ≤ k ∧ k < 16 * n + 16 then σ.1 97 (0 + (k - 16 * n)) else σ.1 98 k)) 92 20 (nI (n + 1)), ?_, AO.trans (B := B98) (AO.setA _ _ (fun k => Or.inr (Or.inl rfl))) (AO.set _ _ (Or.inr ⟨rfl, rfl⟩)), ?_, fun q => ?_⟩
  · rw [f_X12_note_J49, h20, show ((16 : Int32) * nI n) = nI (16 * n) from q_mul 16 n, show f_X12_copy 97 (0 : Int32) 98 (nI (16 * n)) (16 : Int32) σ = f_X12_copy 97 (nI 0) 98 (nI (16 * n)) (nI 16) σ from rfl, hc]
    simp only [bbv, blet]
    rw [bA_ne (by decide), h20, show nI n + (1 : Int32) = nI (n + 1) from q_add n 1]
  · rw [bI_eq]
  · rw [bI_ne (Or.inl (by decide)), bA_eq]
    simp only [Nat.zero_add]
theorem s_note {n : Nat} {σ : bSto} (hn : n ≤ 16) (h20 : σ.1 92 20 = nI n) : ∃ τ, f_X12_note σ = some τ ∧ AO B98 σ τ ∧ τ.1 92 20 = nI (min (n + 1) 16) ∧ ∀ j k, k < 16 → j < min (n + 1) 16 → τ.1 98 (16 * j + k) = if j + 1 = min (n + 1) 16 then σ.1 97 k else σ.1 98 (16 * (if n = 16 then j + 1 else j) + k) := by
  have e16 : (nI n = (16 : Int32)) = (n = 16) := q_eq (a := n) (b := 16) (by omega) (by omega)
  by_cases e : n = 16
  · obtain ⟨τ1, a1, a2, a3⟩ := s_noteL (σ.1 98) 240 0 bFU σ (by omega) (by show _ < 100000; omega) (fun q => by rw [if_neg (Nat.not_lt_zero q)])
    have hA1 : AO B98 σ (bI τ1 92 20 (nI 15)) := AO.trans (B := B98) (a2.mono (fun a k h => Or.inl h)) (AO.set _ _ (Or.inr ⟨rfl, rfl⟩))
    obtain ⟨τ, b1, b3, b4, b5⟩ := s_noteJ (n := 15) (σ := bI τ1 92 20 (nI 15)) (by decide) (by rw [bI_eq])
    refine ⟨τ, ?_, hA1.trans b3, by rw [b4, e]; rfl, fun j k hk hj => ?_⟩
    · rw [f_X12_note, h20]
      simp only [e16]
      rw [if_pos e, show (0 : Int32) = nI 0 from rfl, a1]
      simp only [bl0, blet]
      rw [a2.1 92 20 (by decide), h20, e, show nI 16 - (1 : Int32) = nI 15 from by decide]
      exact b1
    · rw [b5]
      have hj16 : j < 16 := by omega
      by_cases ej : j = 15
      · rw [if_pos (by omega), if_pos (by omega), hA1.1 97 _ (by rintro (h | h) <;> omega), show 16 * j + k - 16 * 15 = k by omega]
      · rw [if_neg (by omega), if_neg (by omega), bI_ne (Or.inl (by decide)), a3, if_pos (by omega), if_pos e, show 16 * j + k + 16 = 16 * (j + 1) + k by omega]
  · obtain ⟨τ, b1, b3, b4, b5⟩ := s_noteJ (n := n) (σ := σ) (by omega) h20
    refine ⟨τ, ?_, b3, by rw [b4, Nat.min_eq_left (by omega)], fun j k hk hj => ?_⟩
    · rw [f_X12_note, h20]
      simp only [e16]
      rw [if_neg e, b1]
    · rw [b5, Nat.min_eq_left (by omega)]
      rw [Nat.min_eq_left (by omega)] at hj
      by_cases ej : j = n
      · rw [if_pos (by omega), if_pos (by omega), ej, show 16 * n + k - 16 * n = k by omega]
      · rw [if_neg (by omega), if_neg (by omega), if_neg e]
theorem PV.note {v : Nat → Nat} {n x m : Nat} {σ τ : bSto} (hP : PV v n x m σ) (hN : RW v (nowRow σ) (fun k => σ.1 97 k)) (hx : ∀ k, k < 16 → τ.1 (38 + x) k = nowRow σ k) (ho : ∀ A k, 38 ≤ A → A < 58 → A ≠ 38 + x → τ.1 A k = σ.1 A k) (h2 : τ.1 36 2 = nI ((x + 1) % 16)) (h3 : τ.1 36 3 = nI (min (n + 1) 16)) (h4 : τ.1 36 4 = σ.1 36 4) (h5 : τ.1 92 20 = nI (min (n + 1) 16)) (h6 : τ.1 92 21 = σ.1 92 21) (h98 : ∀ j k, k < 16 → j < min (n + 1) 16 → τ.1 98 (16 * j + k) = if j + 1 = min (n + 1) 16 then σ.1 97 k else σ.1 98 (16 * (if n = 16 then j + 1 else j) + k)) (h99 : ∀ k, τ.1 99 k = σ.1 99 k) : PV v (min (n + 1) 16) ((x + 1) % 16) m τ := by
  obtain ⟨⟨p1, p2, p3⟩, ⟨p4, p5, p6⟩, ⟨p7, p8⟩, p9, p10⟩ := hP
  refine ⟨⟨Nat.min_le_right _ _, Nat.mod_lt _ (by decide), p3⟩, ⟨h2, h3, by rw [h4, p6]⟩, ⟨h5, by rw [h6, p8]⟩, fun j hj => ?_, fun j hj => ?_⟩
  · by_cases e : n = 16
    · have hmin : min (n + 1) 16 = 16 := by omega
      rw [hmin] at hj h98 ⊢
      by_cases ej : j = 15
      · rw [show ((x + 1) % 16 + 16 - 16 + j) % 16 = x by omega]
        exact hN.congr hx (fun k hk => by rw [h98 j k hk hj, if_pos (by omega)])
      · have hr := p9 (j + 1) (by omega)
        rw [show (x + 16 - n + (j + 1)) % 16 = ((x + 1) % 16 + 16 - 16 + j) % 16 by omega] at hr
        exact hr.congr (fun k hk => ho _ _ (by omega) (by omega) (by omega)) (fun k hk => by rw [h98 j k hk hj, if_neg (by omega), if_pos e])
    · have hmin : min (n + 1) 16 = n + 1 := by omega
      rw [hmin] at hj h98 ⊢
      by_cases ej : j = n
      · rw [show ((x + 1) % 16 + 16 - (n + 1) + j) % 16 = x by omega]
        exact hN.congr hx (fun k hk => by rw [h98 j k hk hj, if_pos (by omega)])
      · have hr := p9 j (by omega)
        rw [show (x + 16 - n + j) % 16 = ((x + 1) % 16 + 16 - (n + 1) + j) % 16 by omega] at hr
        exact hr.congr (fun k hk => ho _ _ (by omega) (by omega) (by omega)) (fun k hk => by rw [h98 j k hk hj, if_neg (by omega), if_neg e])
  · exact (p10 j hj).congr (fun k hk => ho _ _ (by omega) (by omega) (by omega)) (fun k hk => h99 _)
