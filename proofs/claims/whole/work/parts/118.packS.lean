/-! ===== packing: the first row; the reference's search (own work) ===== -/
def T3 : Type := Nat × (Nat → Int32) × Nat
def t1 (x : T3) : Nat := Prod.fst (α := Nat) (β := (Nat → Int32) × Nat) x
def t2 (x : T3) : Nat → Int32 := (Prod.snd (α := Nat) (β := (Nat → Int32) × Nat) x).1
def t3 (x : T3) : Nat := (Prod.snd (α := Nat) (β := (Nat → Int32) × Nat) x).2
def mk3 (a : Nat) (f : Nat → Int32) (r : Nat) : T3 := (a, f, r)
def cb3 (x y : T3) : T3 := if t1 x < t1 y then y else if t1 y = t1 x then mk3 (t1 x) (t2 x) (min (t3 x) (t3 y)) else x
theorem cb3_l {x y : T3} (h : t1 x < t1 y) : cb3 x y = y := by rw [cb3, if_pos h]
theorem cb3_e {x y : T3} (h : t1 x = t1 y) : cb3 x y = mk3 (t1 x) (t2 x) (min (t3 x) (t3 y)) := by rw [cb3, if_neg (by omega), if_pos h.symm]
theorem cb3_g {x y : T3} (h : t1 y < t1 x) : cb3 x y = x := by rw [cb3, if_neg (by omega), if_neg (by omega)]
theorem m1 (a : Nat) (f : Nat → Int32) (r : Nat) : t1 (mk3 a f r) = a := rfl
theorem m2 (a : Nat) (f : Nat → Int32) (r : Nat) : t2 (mk3 a f r) = f := rfl
theorem m3 (a : Nat) (f : Nat → Int32) (r : Nat) : t3 (mk3 a f r) = r := rfl
theorem cb3_assoc (x y z : T3) : cb3 (cb3 x y) z = cb3 x (cb3 y z) := by
  rcases Nat.lt_trichotomy (t1 x) (t1 y) with h | h | h
  · rw [cb3_l h]
    rcases Nat.lt_trichotomy (t1 y) (t1 z) with g | g | g
    · rw [cb3_l g, cb3_l (show t1 x < t1 z by omega)]
    · rw [cb3_e g, cb3_l (by rw [m1]; exact h)]
    · rw [cb3_g g, cb3_l h]
  · rw [cb3_e h]
    rcases Nat.lt_trichotomy (t1 y) (t1 z) with g | g | g
    · rw [cb3_l g, cb3_l (show t1 x < t1 z by omega), cb3_l (by rw [m1]; omega)]
    · rw [cb3_e g, cb3_e (by rw [m1]; omega), cb3_e (by rw [m1]; exact h), m1, m2, m3, m3, Nat.min_assoc]
    · rw [cb3_g g, cb3_g (by rw [m1]; omega), cb3_e h]
  · rw [cb3_g h]
    rcases Nat.lt_trichotomy (t1 y) (t1 z) with g | g | g
    · rw [cb3_l g]
    · rw [cb3_e g, cb3_g (show t1 z < t1 x by omega), cb3_g (by rw [m1]; exact h)]
    · rw [cb3_g g, cb3_g (show t1 z < t1 x by omega), cb3_g h]
def Dr (K : PK) : Nat → (Nat → Bool) → (Nat → Nat) → Nat → (Nat → Nat) → Nat → T3
  | 0, _, _, m, cur, r => mk3 (m + 1) (fun i => nI (cur i)) r
  | j + 1, A, s, m, cur, r => if A (K.n - (j + 1)) then fo cb3 (fun b => K.ok (K.n - (j + 1)) b && decide (0 < s b)) (fun b => Dr K j A (dcs s b) (m + 1) (put cur (K.n - (j + 1)) (b + 1)) (r + K.rt b)) (Dr K j A s m (put cur (K.n - (j + 1)) 0) r) K.nb 0 else Dr K j A s m (put cur (K.n - (j + 1)) 0) r
theorem fo_rel (P : Nat → Bool) (x : Nat → T3) (y : Nat → Nat × Nat) (lx : T3) (ly : Nat × Nat) (m r : Nat) (h : ∀ b, P b = true → t1 (x b) = m + (y b).1 + 1 ∧ t3 (x b) = r + (y b).2) (hl : t1 lx = m + ly.1 + 1 ∧ t3 lx = r + ly.2) : ∀ k i, t1 (fo cb3 P x lx k i) = m + (fo cb P y ly k i).1 + 1 ∧ t3 (fo cb3 P x lx k i) = r + (fo cb P y ly k i).2
  | 0, _ => hl
  | k + 1, i => by
    rw [fo, fo]
    obtain ⟨h1, h2⟩ := fo_rel P x y lx ly m r h hl k (i + 1)
    by_cases hp : P i = true
    · obtain ⟨g1, g2⟩ := h i hp
      rw [if_pos hp, if_pos hp, cb3, cb]
      by_cases e1 : (y i).1 < (fo cb P y ly k (i + 1)).1
      · rw [if_pos (by omega), if_pos e1]; exact ⟨h1, h2⟩
      · rw [if_neg (by omega), if_neg e1]
        by_cases e2 : (fo cb P y ly k (i + 1)).1 = (y i).1
        · rw [if_pos (by omega), if_pos e2]
          refine ⟨g1, ?_⟩
          show min (t3 (x i)) (t3 (fo cb3 P x lx k (i + 1))) = _
          rw [g2, h2]
          show _ = r + min (y i).2 (fo cb P y ly k (i + 1)).2
          omega
        · rw [if_neg (by omega), if_neg e2]; exact ⟨g1, g2⟩
    · rw [if_neg hp, if_neg hp]; exact ⟨h1, h2⟩
theorem Dr_val (K : PK) : ∀ j A s m cur r, t1 (Dr K j A s m cur r) = m + (pk K j A s).1 + 1 ∧ t3 (Dr K j A s m cur r) = r + (pk K j A s).2 := by
  intro j
  induction j with
  | zero => intro A s m cur r; exact ⟨rfl, rfl⟩
  | succ j ih =>
    intro A s m cur r
    rw [Dr, pk]
    split
    · apply fo_rel
      · intro b _
        obtain ⟨h1, h2⟩ := ih A (dcs s b) (m + 1) (put cur (K.n - (j + 1)) (b + 1)) (r + K.rt b)
        rw [h1, h2]
        exact ⟨by show m + 1 + _ + 1 = m + (1 + _) + 1; omega, by show r + K.rt b + _ = r + (K.rt b + _); omega⟩
      · exact ih A s m _ r
    · exact ih A s m _ r
theorem fo3_first (P : Nat → Bool) (x : Nat → T3) (lx : T3) : ∀ k i, t2 (fo cb3 P x lx k i) = if fst1 (fun b => P b && (t1 (x b) == t1 (fo cb3 P x lx k i))) k i < i + k then t2 (x (fst1 (fun b => P b && (t1 (x b) == t1 (fo cb3 P x lx k i))) k i)) else t2 lx
  | 0, i => by simp [fo, fst1]
  | k + 1, i => by
    have ih := fo3_first P x lx k (i + 1)
    rw [fo, fst1]
    by_cases hp : P i = true
    · rw [if_pos hp]
      generalize hF : fo cb3 P x lx k (i + 1) = F at ih ⊢
      have hc : t1 (cb3 (x i) F) = max (t1 (x i)) (t1 F) := by
        rw [cb3]
        by_cases e1 : t1 (x i) < t1 F
        · rw [if_pos e1, Nat.max_eq_right (by omega)]
        · rw [if_neg e1]
          by_cases e2 : t1 F = t1 (x i)
          · rw [if_pos e2]; show t1 (x i) = _; rw [Nat.max_eq_left (by omega)]
          · rw [if_neg e2, Nat.max_eq_left (by omega)]
      by_cases e1 : t1 (x i) < t1 F
      · have hn : ¬ (P i && (t1 (x i) == t1 (cb3 (x i) F))) = true := by
          rw [hc, Nat.max_eq_right (by omega), beq_eq_false_iff_ne.mpr (by omega)]
          simp
        have hcb : cb3 (x i) F = F := by rw [cb3, if_pos e1]
        rw [if_neg hn, hcb, show i + (k + 1) = i + 1 + k by omega]
        exact ih
      · have hy : (P i && (t1 (x i) == t1 (cb3 (x i) F))) = true := by
          rw [hc, Nat.max_eq_left (by omega), hp]
          simp
        rw [if_pos hy, if_pos (show i < i + (k + 1) by omega), cb3, if_neg e1]
        split <;> rfl
    · have hn : ∀ z, ¬ (P i && z) = true := by simp [hp]
      rw [if_neg hp, if_neg (hn _), show i + (k + 1) = i + 1 + k by omega]
      exact ih
/-- the first row: of person p the first bench by which the most stay possible -/
def fb (K : PK) (j : Nat) (A : Nat → Bool) (s : Nat → Nat) : Nat := fst1 (fun b => (K.ok (K.n - (j + 1)) b && decide (0 < s b)) && (1 + (pk K j A (dcs s b)).1 == (pk K (j + 1) A s).1)) K.nb 0
def pkf (K : PK) : Nat → (Nat → Bool) → (Nat → Nat) → (Nat → Nat) → Nat → Nat
  | 0, _, _, cur => cur
  | j + 1, A, s, cur => if A (K.n - (j + 1)) then (if fb K j A s < K.nb then pkf K j A (dcs s (fb K j A s)) (put cur (K.n - (j + 1)) (fb K j A s + 1)) else pkf K j A s (put cur (K.n - (j + 1)) 0)) else pkf K j A s (put cur (K.n - (j + 1)) 0)
theorem Dr_row (K : PK) : ∀ j A s m cur r, t2 (Dr K j A s m cur r) = fun i => nI (pkf K j A s cur i) := by
  intro j
  induction j with
  | zero => intro A s m cur r; rfl
  | succ j ih =>
    intro A s m cur r
    have hv := Dr_val K (j + 1) A s m cur r
    rw [Dr] at hv ⊢
    rw [pkf]
    by_cases hA : A (K.n - (j + 1)) = true
    · rw [if_pos hA] at hv ⊢
      rw [if_pos hA, fo3_first, hv.1, Nat.zero_add]
      have hfb : fst1 (fun b => (K.ok (K.n - (j + 1)) b && decide (0 < s b)) && (t1 (Dr K j A (dcs s b) (m + 1) (put cur (K.n - (j + 1)) (b + 1)) (r + K.rt b)) == m + (pk K (j + 1) A s).1 + 1)) K.nb 0 = fb K j A s := by
        apply fst1_congr
        intro b _ _
        rw [(Dr_val K j A (dcs s b) (m + 1) _ _).1]
        congr 1
        rw [Bool.eq_iff_iff, beq_iff_eq, beq_iff_eq]
        omega
      rw [hfb]
      split
      · exact ih _ _ _ _ _
      · exact ih _ _ _ _ _
    · rw [if_neg hA, if_neg hA]
      exact ih _ _ _ _ _
theorem pkm_le (K : PK) (j : Nat) (A : Nat → Bool) (s : Nat → Nat) (hj : j ≤ K.n) : (pk K j A s).1 ≤ j := by
  obtain ⟨⟨Y, -, h2, -⟩, -⟩ := pk_opt K j A s hj
  rw [← h2]
  exact sm_le _ (fun i => by cases (Y (K.n - 1 - i) == 0) <;> decide) j
def okv (v : Nat → Nat) (p b : Nat) : Bool := mayK (v (35 + 4 * p)) (v (11 + 4 * b)) && decide (v (36 + 4 * p) ≤ htv v b (v 2))
def Kv (v : Nat → Nat) : PK := mkPK (v 4) (v 3) (okv v) (fun b => v (14 + 4 * b))
def BS : Nat → Nat → Prop := fun a k => a = 100 ∨ a = 101 ∨ a = 102 ∨ (a = 92 ∧ (k = 25 ∨ k = 26))
def SS (v : Nat → Nat) (p : Nat) (s cur : Nat → Nat) (st : T3) (σ : bSto) : Prop := (∀ b, b < v 3 → σ.1 102 b = nI (s b)) ∧ (∀ i, i < p → σ.1 100 i = nI (cur i)) ∧ σ.1 92 25 = bv (t1 st) ∧ σ.1 92 26 = nI (t3 st) ∧ ∀ i, i < v 4 → σ.1 101 i = t2 st i
theorem bv_le_all : ∀ k m : Fin 24, (bv k.val ≤ nI m.val) = (k.val ≤ m.val + 1) := by decide +kernel
theorem bv_le {k m : Nat} (hk : k < 24) (hm : m < 24) : (bv k ≤ nI m) = (k ≤ m + 1) := bv_le_all ⟨k, hk⟩ ⟨m, hm⟩
theorem le_bv_all : ∀ k m : Fin 24, (nI m.val ≤ bv k.val) = (m.val + 1 ≤ k.val) := by decide +kernel
theorem le_bv {k m : Nat} (hk : k < 24) (hm : m < 24) : (nI m ≤ bv k) = (m + 1 ≤ k) := le_bv_all ⟨k, hk⟩ ⟨m, hm⟩
theorem cb3_t1 (x y : T3) : t1 (cb3 x y) = max (t1 x) (t1 y) := by
  rw [cb3]
  by_cases e1 : t1 x < t1 y
  · rw [if_pos e1, Nat.max_eq_right (by omega)]
  · rw [if_neg e1]
    by_cases e2 : t1 y = t1 x
    · rw [if_pos e2]; show t1 x = _; rw [Nat.max_eq_left (by omega)]
    · rw [if_neg e2, Nat.max_eq_left (by omega)]
theorem cb3_t3 (x y : T3) {m : Nat} (h1 : t3 x ≤ m) (h2 : t3 y ≤ m) : t3 (cb3 x y) ≤ m := by
  rw [cb3]
  split
  · exact h2
  · split
    · show min (t3 x) (t3 y) ≤ m; omega
    · exact h1
