/-! ===== fill, copy; couples: the numbers (own work) ===== -/
theorem bA_at (σ : bSto) (o : Nat) (f : Nat → Int32) (a : Nat) : (bA σ o f).1 a = if a = o then f else σ.1 a := rfl
theorem bA_eq (σ : bSto) (o : Nat) (f : Nat → Int32) : (bA σ o f).1 o = f := if_pos rfl
theorem bA_ne {σ : bSto} {o : Nat} {f : Nat → Int32} {a : Nat} (h : a ≠ o) : (bA σ o f).1 a = σ.1 a := if_neg h
theorem AO.setA {B : Nat → Nat → Prop} (σ : bSto) {o : Nat} (f : Nat → Int32) (h : ∀ k, f k = σ.1 o k ∨ B o k) : AO B σ (bA σ o f) := by
  refine ⟨fun a k hb => ?_, rfl⟩
  rw [bA_at]
  by_cases e : a = o
  · subst e
    rw [if_pos rfl]
    rcases h k with h | h
    · exact h
    · exact absurd h hb
  · rw [if_neg e]
theorem sto_ext {σ τ : bSto} (h : ∀ a k, σ.1 a k = τ.1 a k) (h2 : σ.2 = τ.2) : σ = τ := by
  obtain ⟨s1, s2⟩ := σ
  obtain ⟨t1, t2⟩ := τ
  simp only at h h2
  rw [h2, show s1 = t1 from funext fun a => funext fun k => h a k]
theorem s_fill {a L : Nat} (hL : bln a = L) (hb : L < 90000) (x : Int32) (σ : bSto) : f_J7_fill_53178 a x σ = some (bA σ a (fun k => if k < L then x else σ.1 a k)) := by
  have h : f_J7_fill_53178_L5 bFU a x (nI 0) (nI L) σ = some (bA σ a (fun k => if k < L then x else σ.1 a k)) := by
    rw [show f_J7_fill_53178_L5 bFU a x (nI 0) (nI L) σ = f_J7_fill_53178_L5 bFU a x (nI 0) (nI L) (bA σ a (fun k => if k < 0 then x else σ.1 a k)) by
      congr 1
      apply sto_ext
      · intro b k
        rw [bA_at]
        by_cases e : b = a
        · rw [if_pos e, e]; simp
        · rw [if_neg e]
      · rfl]
    refine lp_form (fun n i => f_J7_fill_53178_L5 n a x (nI i) (nI L) (bA σ a (fun k => if k < i then x else σ.1 a k))) L hb _ ?_ ?_
    · intro n
      show f_J7_fill_53178_L5 (n + 1) a x (nI L) (nI L) _ = _
      rw [f_J7_fill_53178_L5, if_pos (Int32.le_refl _)]
    · intro n i hi
      show f_J7_fill_53178_L5 (n + 1) a x (nI i) (nI L) (bA σ a (fun k => if k < i then x else σ.1 a k)) = f_J7_fill_53178_L5 n a x (nI (i + 1)) (nI L) (bA σ a (fun k => if k < i + 1 then x else σ.1 a k))
      rw [f_J7_fill_53178_L5, hL]
      simp (disch := omega) only [q_lit, q_lt0, q_ge0, q_le, q_lt, q_eq, q_cl, q_add, q_mul, q_div, q_rem, blet, if_false, false_or]
      rw [if_neg (by omega), if_neg (by omega)]
      congr 1
      apply sto_ext
      · intro b k
        rw [bI_at, bA_at, bA_at]
        by_cases e : b = a
        · simp only [e, true_and, if_true]
          by_cases ek : k = i
          · rw [if_pos ek, if_pos (by omega)]
          · by_cases ek2 : k < i
            · rw [if_neg ek, if_pos ek2, if_pos (by omega)]
            · rw [if_neg ek, if_neg ek2, if_neg (by omega)]
        · simp only [e, false_and, if_false]
      · rfl
  show bl0 (f_J7_fill_53178_L5 bFU a x (0 : Int32) (Int32.ofNat (bln a)) σ) _ = _
  rw [hL, show (0 : Int32) = nI 0 from rfl, show Int32.ofNat L = nI L from rfl, h]
  rfl
theorem s_copy {a b i j m : Nat} (hab : a ≠ b) (ha : i + m ≤ bln a) (hb : j + m ≤ bln b) (hl : bln a < 90000) (hl2 : bln b < 90000) (σ : bSto) : f_X12_copy a (nI i) b (nI j) (nI m) σ = some (bA σ b (fun k => if j ≤ k ∧ k < j + m then σ.1 a (i + (k - j)) else σ.1 b k)) := by
  have h : f_X12_copy_L3 bFU a (nI i) b (nI j) (nI m) (nI 0) σ = some (bA σ b (fun k => if j ≤ k ∧ k < j + m then σ.1 a (i + (k - j)) else σ.1 b k)) := by
    rw [show f_X12_copy_L3 bFU a (nI i) b (nI j) (nI m) (nI 0) σ = f_X12_copy_L3 bFU a (nI i) b (nI j) (nI m) (nI 0) (bA σ b (fun k => if j ≤ k ∧ k < j + 0 then σ.1 a (i + (k - j)) else σ.1 b k)) by
      congr 1
      apply sto_ext
      · intro c k
        rw [bA_at]
        by_cases e : c = b
        · rw [if_pos e, e, if_neg (by omega)]
        · rw [if_neg e]
      · rfl]
    refine lp_form (fun n t => f_X12_copy_L3 n a (nI i) b (nI j) (nI m) (nI t) (bA σ b (fun k => if j ≤ k ∧ k < j + t then σ.1 a (i + (k - j)) else σ.1 b k))) m (by omega) _ ?_ ?_
    · intro n
      show f_X12_copy_L3 (n + 1) a (nI i) b (nI j) (nI m) (nI m) _ = _
      rw [f_X12_copy_L3, if_pos (Int32.le_refl _)]
    · intro n t ht
      show f_X12_copy_L3 (n + 1) a (nI i) b (nI j) (nI m) (nI t) (bA σ b (fun k => if j ≤ k ∧ k < j + t then σ.1 a (i + (k - j)) else σ.1 b k)) = f_X12_copy_L3 n a (nI i) b (nI j) (nI m) (nI (t + 1)) (bA σ b (fun k => if j ≤ k ∧ k < j + (t + 1) then σ.1 a (i + (k - j)) else σ.1 b k))
      rw [f_X12_copy_L3]
      simp (disch := omega) only [q_lit, q_lt0, q_ge0, q_le, q_lt, q_eq, q_cl, q_add, q_mul, q_div, q_rem, blet, if_false, false_or, bA_ne hab]
      rw [if_neg (by omega), if_neg (by omega), if_neg (by omega)]
      congr 1
      apply sto_ext
      · intro c k
        rw [bI_at, bA_at, bA_at]
        by_cases e : c = b
        · simp only [e, true_and, if_true]
          by_cases ek : k = j + t
          · rw [if_pos ek, if_pos (by omega), ek, show j + t - j = t by omega]
          · by_cases ek2 : j ≤ k ∧ k < j + t
            · rw [if_neg ek, if_pos ek2, if_pos (by omega)]
            · rw [if_neg ek, if_neg ek2, if_neg (by omega)]
        · simp only [e, false_and, if_false]
      · rfl
  show bl0 (f_X12_copy_L3 bFU a (nI i) b (nI j) (nI m) (0 : Int32) σ) _ = _
  rw [show (0 : Int32) = nI 0 from rfl, h]
  rfl
/-- a set without one -/
def del (A : Nat → Bool) (q : Nat) : Nat → Bool := fun i => A i && !(i == q)
/-- the most couples among those of A from place n - j on -/
def cpl (can : Nat → Nat → Bool) (n : Nat) : Nat → (Nat → Bool) → Nat
  | 0, _ => 0
  | j + 1, A => if A (n - (j + 1)) then itr (fun q acc => if A q && can (n - (j + 1)) q then max acc (1 + cpl can n j (del A q)) else acc) j (n - j) (cpl can n j A) else cpl can n j A
theorem itr_congr {β : Type} {f g : Nat → β → β} : ∀ k i (s : β), (∀ q s, i ≤ q → q < i + k → f q s = g q s) → itr f k i s = itr g k i s
  | 0, _, _, _ => rfl
  | k + 1, i, s, h => by
    rw [itr, itr, h i s (Nat.le_refl _) (by omega)]
    exact itr_congr k (i + 1) _ (fun q s h1 h2 => h q s (by omega) (by omega))
theorem cpl_congr (can : Nat → Nat → Bool) (n : Nat) : ∀ j (A E : Nat → Bool), j ≤ n → (∀ i, n - j ≤ i → i < n → A i = E i) → cpl can n j A = cpl can n j E := by
  intro j
  induction j with
  | zero => intro A E _ _; rfl
  | succ j ih =>
    intro A E hj h
    rw [cpl, cpl, h (n - (j + 1)) (Nat.le_refl _) (by omega), ih A E (by omega) (fun i h1 h2 => h i (by omega) h2)]
    split
    · apply itr_congr
      intro q s h1 h2
      rw [h q (by omega) (by omega), ih (del A q) (del E q) (by omega) (fun i h1 h2 => by unfold del; rw [h i (by omega) h2])]
    · rfl
/-- places at which nobody is are passed over -/
theorem cpl_skip (can : Nat → Nat → Bool) (n : Nat) (A : Nat → Bool) (j : Nat) : ∀ d, j + d ≤ n → (∀ i, n - (j + d) ≤ i → i < n - j → A i = false) → cpl can n (j + d) A = cpl can n j A
  | 0, _, _ => rfl
  | d + 1, hd, h => by
    rw [← Nat.add_assoc, cpl, h (n - (j + d + 1)) (by omega) (by omega), if_neg (by decide), cpl_skip can n A j d (by omega) (fun i h1 h2 => h i (by omega) h2)]
theorem max_fold (P : Nat → Bool) (f : Nat → Nat) : ∀ k i a b, itr (fun q acc => if P q then max acc (f q) else acc) k i (max a b) = max a (itr (fun q acc => if P q then max acc (f q) else acc) k i b)
  | 0, _, _, _ => rfl
  | k + 1, i, a, b => by
    rw [itr, itr]
    by_cases h : P i = true
    · rw [if_pos h, if_pos h, Nat.max_assoc, max_fold P f k (i + 1) a (max b (f i))]
    · rw [if_neg h, if_neg h, max_fold P f k (i + 1) a b]
theorem max_fold_ge (P : Nat → Bool) (f : Nat → Nat) : ∀ k i a, a ≤ itr (fun q acc => if P q then max acc (f q) else acc) k i a
  | 0, _, _ => Nat.le_refl _
  | k + 1, i, a => by
    rw [itr]
    by_cases h : P i = true
    · rw [if_pos h]
      exact Nat.le_trans (Nat.le_max_left _ _) (max_fold_ge P f k (i + 1) _)
    · rw [if_neg h]
      exact max_fold_ge P f k (i + 1) a
theorem max_fold_le (P : Nat → Bool) (f : Nat → Nat) (m : Nat) (hf : ∀ q, P q = true → f q ≤ m) : ∀ k i a, a ≤ m → itr (fun q acc => if P q then max acc (f q) else acc) k i a ≤ m
  | 0, _, _, h => h
  | k + 1, i, a, ha => by
    rw [itr]
    by_cases h : P i = true
    · rw [if_pos h]
      exact max_fold_le P f m hf k (i + 1) _ (Nat.max_le.mpr ⟨ha, hf i h⟩)
    · rw [if_neg h]
      exact max_fold_le P f m hf k (i + 1) a ha
theorem cpl_le (can : Nat → Nat → Bool) (n : Nat) : ∀ j A, cpl can n j A ≤ j
  | 0, _ => Nat.le_refl _
  | j + 1, A => by
    rw [cpl]
    split
    · exact max_fold_le (fun q => A q && can (n - (j + 1)) q) (fun q => 1 + cpl can n j (del A q)) (j + 1) (fun q _ => by have := cpl_le can n j (del A q); show 1 + _ ≤ _; omega) j (n - j) _ (by have := cpl_le can n j A; omega)
    · have := cpl_le can n j A
      omega
/-- the best so far (0: none yet) with what was noted then; an answer that is met -/
def ub (s : Nat × (Nat → Int32)) (val : Nat) (arr : Nat → Int32) : Nat × (Nat → Int32) := if s.1 ≤ val then (val + 1, arr) else s
theorem ub_fold (P : Nat → Bool) (f : Nat → Nat) (g : Nat → Nat → Int32) (v0 : Nat) (a0 : Nat → Int32) : ∀ k i s, ub (itr (fun q s => if P q then ub s (f q) (g q) else s) k i s) v0 a0 = ub s (itr (fun q acc => if P q then max acc (f q) else acc) k i v0) (if fst1 (fun q => P q && (f q == itr (fun q acc => if P q then max acc (f q) else acc) k i v0)) k i < i + k then g (fst1 (fun q => P q && (f q == itr (fun q acc => if P q then max acc (f q) else acc) k i v0)) k i) else a0) := by
  intro k
  induction k with
  | zero => intro i s; simp [itr, fst1]
  | succ k ih =>
    intro i s
    rw [itr, itr]
    by_cases h : P i = true
    · simp only [if_pos h]
      rw [ih (i + 1) (ub s (f i) (g i)), Nat.max_comm v0 (f i), max_fold P f k (i + 1) (f i) v0]
      generalize itr (fun q acc => if P q then max acc (f q) else acc) k (i + 1) v0 = W
      rw [fst1]
      by_cases hw : W ≤ f i
      · rw [Nat.max_eq_left hw]
        have hb : (P i && (f i == f i)) = true := by simp [h]
        rw [if_pos hb, if_pos (show i < i + (k + 1) by omega)]
        unfold ub
        by_cases h1 : s.1 ≤ f i
        · simp only [if_pos h1]
          rw [if_neg (show ¬ f i + 1 ≤ W by omega)]
        · simp only [if_neg h1]
          rw [if_neg (show ¬ s.1 ≤ W by omega)]
      · rw [Nat.max_eq_right (by omega)]
        have hb : ¬ (P i && (f i == W)) = true := by simp [show ¬ f i = W by omega]
        rw [if_neg hb, show i + (k + 1) = i + 1 + k by omega]
        unfold ub
        by_cases h1 : s.1 ≤ f i
        · simp only [if_pos h1]
          rw [if_pos (show f i + 1 ≤ W by omega), if_pos (show s.1 ≤ W by omega)]
        · simp only [if_neg h1]
    · simp only [if_neg h]
      rw [ih (i + 1) s, fst1]
      have hb : ∀ z, ¬ (P i && z) = true := by simp [h]
      rw [if_neg (hb _), show i + (k + 1) = i + 1 + k by omega]
/-- the first row of couples (0: nobody; q + 1: with q) -/
def cps (c : Nat → Nat) (p q : Nat) : Nat → Nat := fun i => if i = q then p + 1 else if i = p then q + 1 else c i
def cpf (can : Nat → Nat → Bool) (n : Nat) : Nat → (Nat → Bool) → (Nat → Nat) → Nat → Nat
  | 0, _, c => c
  | j + 1, A, c => if A (n - (j + 1)) then (if fst1 (fun q => (A q && can (n - (j + 1)) q) && (1 + cpl can n j (del A q) == cpl can n (j + 1) A)) j (n - j) < n then cpf can n j (del A (fst1 (fun q => (A q && can (n - (j + 1)) q) && (1 + cpl can n j (del A q) == cpl can n (j + 1) A)) j (n - j))) (cps c (n - (j + 1)) (fst1 (fun q => (A q && can (n - (j + 1)) q) && (1 + cpl can n j (del A q) == cpl can n (j + 1) A)) j (n - j))) else cpf can n j A c) else cpf can n j A c
theorem fst1_congr {c e : Nat → Bool} : ∀ k i, (∀ q, i ≤ q → q < i + k → c q = e q) → fst1 c k i = fst1 e k i
  | 0, _, _ => rfl
  | k + 1, i, h => by rw [fst1, fst1, h i (Nat.le_refl _) (by omega), fst1_congr k (i + 1) (fun q h1 h2 => h q (by omega) (by omega))]
theorem fst1_ge (c : Nat → Bool) : ∀ k i, i ≤ fst1 c k i ∧ fst1 c k i ≤ i + k
  | 0, i => ⟨Nat.le_refl _, Nat.le_refl _⟩
  | k + 1, i => by
    rw [fst1]
    split
    · omega
    · have := fst1_ge c k (i + 1)
      omega
theorem cpf_congr (can : Nat → Nat → Bool) (n : Nat) : ∀ j (A E : Nat → Bool) c, j ≤ n → (∀ i, n - j ≤ i → i < n → A i = E i) → cpf can n j A c = cpf can n j E c := by
  intro j
  induction j with
  | zero => intro A E c _ _; rfl
  | succ j ih =>
    intro A E c hj h
    have hc : cpl can n (j + 1) A = cpl can n (j + 1) E := cpl_congr can n _ A E hj h
    have hd : ∀ q, cpl can n j (del A q) = cpl can n j (del E q) := fun q => cpl_congr can n j _ _ (by omega) (fun i h1 h2 => by unfold del; rw [h i (by omega) h2])
    have hf : fst1 (fun q => (A q && can (n - (j + 1)) q) && (1 + cpl can n j (del A q) == cpl can n (j + 1) A)) j (n - j) = fst1 (fun q => (E q && can (n - (j + 1)) q) && (1 + cpl can n j (del E q) == cpl can n (j + 1) E)) j (n - j) := by
      apply fst1_congr
      intro q h1 h2
      rw [h q (by omega) (by omega), hc, hd q]
    rw [cpf, cpf, hf, h (n - (j + 1)) (Nat.le_refl _) (by omega), ih A E c (by omega) (fun i h1 h2 => h i (by omega) h2)]
    generalize fst1 (fun q => (E q && can (n - (j + 1)) q) && (1 + cpl can n j (del E q) == cpl can n (j + 1) E)) j (n - j) = Q
    rw [ih (del A Q) (del E Q) _ (by omega) (fun i h1 h2 => by unfold del; rw [h i (by omega) h2])]
