/-! ===== packing: when it is the best; how it grows (own work) ===== -/
theorem sm_head (f : Nat → Nat) : ∀ n, sm f (n + 1) = f 0 + sm (fun i => f (i + 1)) n
  | 0 => by simp [sm]
  | n + 1 => by rw [sm, sm_head f n, sm]; omega
theorem sm_rev (f : Nat → Nat) : ∀ n, sm (fun t => f (n - 1 - t)) n = sm f n
  | 0 => rfl
  | n + 1 => by
    rw [sm_head, sm, ← sm_rev f n, sm_congr n (g := fun t => f (n - 1 - t)) (fun i hi => by show f (n + 1 - 1 - (i + 1)) = f (n - 1 - i); congr 1; omega)]
    show f (n + 1 - 1 - 0) + _ = _
    rw [show n + 1 - 1 - 0 = n by omega]
    omega
def Xsz (K : PK) (X : Nat → Nat) : Nat := sm (fun p => (!(X p == 0)).toNat) K.n
def Xct (K : PK) (X : Nat → Nat) (b : Nat) : Nat := sm (fun p => (X p == b + 1).toNat) K.n
def Xrn (K : PK) (X : Nat → Nat) : Nat := sm (fun p => if X p = 0 then 0 else K.rt (X p - 1)) K.n
def FE (K : PK) (A : Nat → Bool) (s X : Nat → Nat) : Prop := (∀ p, p < K.n → X p ≠ 0 → A p = true ∧ X p - 1 < K.nb ∧ K.ok p (X p - 1) = true) ∧ ∀ b, b < K.nb → Xct K X b ≤ s b
theorem fea_FE (K : PK) (A : Nat → Bool) (s Y : Nat → Nat) : fea K A s Y K.n ↔ FE K A s Y := by
  have hc : ∀ b, Yct K Y b K.n = Xct K Y b := fun b => sm_rev (fun p => (Y p == b + 1).toNat) K.n
  constructor
  · rintro ⟨h1, h2⟩
    refine ⟨fun p hp hz => ?_, fun b hb => by rw [← hc]; exact h2 b hb⟩
    have := h1 (K.n - 1 - p) (by omega)
    rw [show K.n - 1 - (K.n - 1 - p) = p by omega] at this
    exact this hz
  · rintro ⟨h1, h2⟩
    exact ⟨fun t ht hz => h1 (K.n - 1 - t) (by omega) hz, fun b hb => by rw [hc]; exact h2 b hb⟩
/-- the most, all people -/
def PM (K : PK) (A : Nat → Bool) (s : Nat → Nat) : Nat := (pk K K.n A s).1
theorem pm_ex (K : PK) (A : Nat → Bool) (s : Nat → Nat) : ∃ Y, FE K A s Y ∧ Xsz K Y = PM K A s ∧ Xrn K Y = (pk K K.n A s).2 := by
  obtain ⟨⟨Y, h1, h2, h3⟩, -⟩ := pk_opt K K.n A s (Nat.le_refl _)
  exact ⟨Y, (fea_FE K A s Y).mp h1, by rw [PM, ← h2]; exact (sm_rev (fun p => (!(Y p == 0)).toNat) K.n).symm, by rw [← h3]; exact (sm_rev (fun p => if Y p = 0 then 0 else K.rt (Y p - 1)) K.n).symm⟩
theorem pm_ge (K : PK) (A : Nat → Bool) (s : Nat → Nat) {Y : Nat → Nat} (h : FE K A s Y) : Xsz K Y ≤ PM K A s ∧ (Xsz K Y = PM K A s → (pk K K.n A s).2 ≤ Xrn K Y) := by
  have h2 := (pk_opt K K.n A s (Nat.le_refl _)).2 Y ((fea_FE K A s Y).mpr h)
  rw [show Ysz K Y K.n = Xsz K Y from sm_rev (fun p => (!(Y p == 0)).toNat) K.n, show Yrn K Y K.n = Xrn K Y from sm_rev (fun p => if Y p = 0 then 0 else K.rt (Y p - 1)) K.n] at h2
  exact ⟨h2.1, h2.2⟩
/-- people on benches of T, benches of T -/
theorem sm_swapT (K : PK) (X : Nat → Nat) (T : Nat → Bool) (hX : ∀ p, p < K.n → X p ≠ 0 → X p - 1 < K.nb) : sm (fun p => (!(X p == 0) && T (X p - 1)).toNat) K.n = sm (fun b => (T b).toNat * Xct K X b) K.nb := by
  have h1 : ∀ b, b < K.nb → (T b).toNat * Xct K X b = sm (fun p => (T b).toNat * (X p == b + 1).toNat) K.n := fun b _ => (sm_mul _ _ _).symm
  rw [sm_congr _ h1, sm_swap (fun b p => (T b).toNat * (X p == b + 1).toNat) K.n K.nb]
  apply sm_congr
  intro p hp
  rw [sm_pick (fun b => (T b).toNat) (X p) K.nb]
  by_cases e : X p = 0
  · rw [if_pos (Or.inl e), e]; rfl
  · have := hX p hp e
    rw [if_neg (by omega), beq_eq_false_iff_ne.mpr e]; rfl
/-- nobody can do better -/
theorem dual (K : PK) (A : Nat → Bool) (s X : Nat → Nat) (hX : FE K A s X) (T : Nat → Bool) (hfull : ∀ b, b < K.nb → T b = true → Xct K X b = s b) (hcl : ∀ p, p < K.n → X p ≠ 0 → T (X p - 1) = true → ∀ b, b < K.nb → K.ok p b = true → T b = true) (hun : ∀ p, p < K.n → A p = true → X p = 0 → ∀ b, b < K.nb → K.ok p b = true → T b = true) : Xsz K X = PM K A s := by
  obtain ⟨Y, hY, h2, -⟩ := pm_ex K A s
  have h3 := (pm_ge K A s hX).1
  have hsp : ∀ Z, Xsz K Z = sm (fun p => (!(Z p == 0) && T (Z p - 1)).toNat) K.n + sm (fun p => (!(Z p == 0) && !T (Z p - 1)).toNat) K.n := by
    intro Z
    rw [Xsz, ← sm_add]
    apply sm_congr
    intro p _
    cases (Z p == 0) <;> cases T (Z p - 1) <;> rfl
  have h4 : sm (fun p => (!(Y p == 0) && T (Y p - 1)).toNat) K.n ≤ sm (fun p => (!(X p == 0) && T (X p - 1)).toNat) K.n := by
    rw [sm_swapT K Y T (fun p hp hz => (hY.1 p hp hz).2.1), sm_swapT K X T (fun p hp hz => (hX.1 p hp hz).2.1)]
    apply sm_mono
    intro b hb
    cases ht : T b with
    | false => simp
    | true =>
      rw [hfull b hb ht]
      have := hY.2 b hb
      simp
      exact this
  have h5 : sm (fun p => (!(Y p == 0) && !T (Y p - 1)).toNat) K.n ≤ sm (fun p => (!(X p == 0) && !T (X p - 1)).toNat) K.n := by
    apply sm_mono
    intro p hp
    apply bn_le
    intro h
    simp only [Bool.and_eq_true, Bool.not_eq_true', beq_eq_false_iff_ne] at h ⊢
    obtain ⟨a1, a2, a3⟩ := hY.1 p hp h.1
    refine ⟨fun z => ?_, ?_⟩
    · have := hun p hp a1 z _ a2 a3
      rw [h.2] at this
      cases this
    · by_cases z : X p = 0
      · have := hun p hp a1 z _ a2 a3
        rw [h.2] at this
        cases this
      · cases ht : T (X p - 1) with
        | false => rfl
        | true =>
          have := hcl p hp z ht _ a2 a3
          rw [h.2] at this
          cases this
  have := hsp X
  have := hsp Y
  omega
def put (X : Nat → Nat) (p x : Nat) : Nat → Nat := fun i => if i = p then x else X i
theorem sm_put {f g : Nat → Nat} {p : Nat} : ∀ n, p < n → (∀ i, i < n → i ≠ p → f i = g i) → sm g n + f p = sm f n + g p
  | 0, h, _ => by omega
  | n + 1, h, hfg => by
    rw [sm, sm]
    by_cases e : p = n
    · subst e
      rw [sm_congr p (fun i hi => hfg i (by omega) (by omega))]
      omega
    · have := sm_put n (by omega) (fun i hi he => hfg i (by omega) he)
      rw [hfg n (by omega) (fun z => e z.symm)]
      omega
theorem Xct_put (K : PK) (X : Nat → Nat) {p : Nat} (x c : Nat) (hp : p < K.n) : Xct K (put X p x) c + (X p == c + 1).toNat = Xct K X c + (x == c + 1).toNat := by
  have := sm_put (f := fun i => (X i == c + 1).toNat) (g := fun i => (put X p x i == c + 1).toNat) K.n hp (fun i _ he => by show (X i == c + 1).toNat = (put X p x i == c + 1).toNat; rw [put, if_neg he])
  rw [show (put X p x p == c + 1) = (x == c + 1) by rw [put, if_pos rfl]] at this
  exact this
theorem Xsz_put (K : PK) (X : Nat → Nat) {p : Nat} (x : Nat) (hp : p < K.n) : Xsz K (put X p x) + (!(X p == 0)).toNat = Xsz K X + (!(x == 0)).toNat := by
  have := sm_put (f := fun i => (!(X i == 0)).toNat) (g := fun i => (!(put X p x i == 0)).toNat) K.n hp (fun i _ he => by show (!(X i == 0)).toNat = (!(put X p x i == 0)).toNat; rw [put, if_neg he])
  rw [show (put X p x p == 0) = (x == 0) by rw [put, if_pos rfl]] at this
  exact this
/-- benches that can be freed for one who stands, in k moves -/
def rch (K : PK) (A : Nat → Bool) (X : Nat → Nat) : Nat → Nat → Prop
  | 0, b => ∃ p, p < K.n ∧ A p = true ∧ X p = 0 ∧ K.ok p b = true
  | k + 1, b => ∃ p c, p < K.n ∧ c < K.nb ∧ X p = c + 1 ∧ rch K A X k c ∧ K.ok p b = true
theorem bq (x y : Nat) : (x == y).toNat = if x = y then 1 else 0 := by
  by_cases e : x = y
  · rw [if_pos e, e]; simp
  · rw [if_neg e, beq_eq_false_iff_ne.mpr e]; rfl
theorem augk (K : PK) (A : Nat → Bool) (s : Nat → Nat) : ∀ N k X b, k < N → FE K A s X → b < K.nb → Xct K X b < s b → rch K A X k b → ∃ X', FE K A s X' ∧ Xsz K X' = Xsz K X + 1 ∧ ∀ c, Xct K X' c = Xct K X c + (if c = b then 1 else 0) := by
  intro N
  induction N with
  | zero => intro k X b h; omega
  | succ N ih =>
    intro k X b hk hX hb hfr hr
    cases k with
    | zero =>
      obtain ⟨p, hp, hA, h0, hok⟩ := hr
      have hct : ∀ c, Xct K (put X p (b + 1)) c = Xct K X c + (if c = b then 1 else 0) := by
        intro c
        have := Xct_put K X (b + 1) c hp
        rw [h0, bq, bq, if_neg (by omega)] at this
        by_cases e : c = b
        · rw [if_pos e]; rw [if_pos (by omega)] at this; omega
        · rw [if_neg e]; rw [if_neg (by omega)] at this; omega
      refine ⟨put X p (b + 1), ⟨fun q hq hz => ?_, fun c hc => ?_⟩, ?_, hct⟩
      · by_cases e : q = p
        · subst e
          rw [put, if_pos rfl]
          exact ⟨hA, by omega, by rw [Nat.add_sub_cancel]; exact hok⟩
        · rw [put, if_neg e] at hz ⊢
          exact hX.1 q hq hz
      · have := hX.2 c hc
        rw [hct]
        by_cases e : c = b
        · subst e; rw [if_pos rfl]; omega
        · rw [if_neg e]; omega
      · have := Xsz_put K X (b + 1) hp
        rw [h0] at this
        simp at this
        omega
    | succ k =>
      obtain ⟨p, c, hp, hc, hpc, hrc, hok⟩ := hr
      by_cases hmin : ∃ i, i < k ∧ rch K A X i c
      · obtain ⟨i, hi, hic⟩ := hmin
        exact ih (i + 1) X b (by omega) hX hb hfr ⟨p, c, hp, hc, hpc, hic, hok⟩
      · by_cases ebc : b = c
        · subst ebc
          exact ih k X b (by omega) hX hb hfr hrc
        · have hct : ∀ d, Xct K (put X p (b + 1)) d + (if d = c then 1 else 0) = Xct K X d + (if d = b then 1 else 0) := by
            intro d
            have := Xct_put K X (b + 1) d hp
            rw [hpc, bq, bq] at this
            by_cases e1 : d = c
            · rw [if_pos e1]; rw [if_pos (by omega)] at this
              rw [if_neg (by omega)]; rw [if_neg (by omega)] at this; omega
            · rw [if_neg e1]; rw [if_neg (by omega)] at this
              by_cases e2 : d = b
              · rw [if_pos e2]; rw [if_pos (by omega)] at this; omega
              · rw [if_neg e2]; rw [if_neg (by omega)] at this; omega
          have hFE : FE K A s (put X p (b + 1)) := by
            refine ⟨fun q hq hz => ?_, fun d hd => ?_⟩
            · by_cases e : q = p
              · subst e
                rw [put, if_pos rfl]
                exact ⟨(hX.1 q hq (by omega)).1, by omega, by rw [Nat.add_sub_cancel]; exact hok⟩
              · rw [put, if_neg e] at hz ⊢
                exact hX.1 q hq hz
            · have h1 := hX.2 d hd
              have h2 := hct d
              by_cases e2 : d = b
              · subst e2; rw [if_pos rfl, if_neg (by omega)] at h2; omega
              · rw [if_neg e2] at h2; omega
          have hrch : ∀ i d, i ≤ k → rch K A X i d → rch K A (put X p (b + 1)) i d := by
            intro i
            induction i with
            | zero =>
              rintro d - ⟨q, hq, hA, h0, hokq⟩
              refine ⟨q, hq, hA, ?_, hokq⟩
              rw [put, if_neg (fun z => by rw [z, hpc] at h0; omega)]
              exact h0
            | succ i ihi =>
              rintro d hi ⟨q, e, hq, he, hqe, hre, hokq⟩
              refine ⟨q, e, hq, he, ?_, ihi e (by omega) hre, hokq⟩
              rw [put, if_neg]
              · exact hqe
              · intro z
                rw [z, hpc] at hqe
                have : e = c := by omega
                rw [this] at hre
                exact hmin ⟨i, by omega, hre⟩
          obtain ⟨X', h1, h2, h3⟩ := ih k (put X p (b + 1)) c (by omega) hFE hc (by
            have h1 := hX.2 c hc
            have h2 := hct c
            rw [if_pos rfl, if_neg (fun z => ebc z.symm)] at h2
            omega) (hrch k c (Nat.le_refl _) hrc)
          refine ⟨X', h1, ?_, fun d => ?_⟩
          · have := Xsz_put K X (b + 1) hp
            rw [hpc] at this
            simp at this
            omega
          · rw [h3 d]
            have := hct d
            omega
theorem aug (K : PK) (A : Nat → Bool) (s X : Nat → Nat) (hX : FE K A s X) (hlt : Xsz K X < PM K A s) : ∃ X', FE K A s X' ∧ Xsz K X' = Xsz K X + 1 ∧ ∀ c, Xct K X c ≤ Xct K X' c := by
  apply Classical.byContradiction
  intro hno
  have hfull : ∀ k b, b < K.nb → rch K A X k b → Xct K X b = s b := by
    intro k b hb hr
    have h1 := hX.2 b hb
    by_cases e : Xct K X b < s b
    · exfalso
      obtain ⟨X', a1, a2, a3⟩ := augk K A s (k + 1) k X b (by omega) hX hb e hr
      exact hno ⟨X', a1, a2, fun c => by rw [a3 c]; omega⟩
    · omega
  have hdec : ∀ b, Decidable (∃ k, rch K A X k b) := fun b => Classical.propDecidable _
  have := dual K A s X hX (fun b => decide (∃ k, rch K A X k b)) (fun b hb ht => by
    have := of_decide_eq_true ht
    obtain ⟨k, hk⟩ := this
    exact hfull k b hb hk) (fun p hp hz ht b hb hok => by
    have := of_decide_eq_true ht
    obtain ⟨k, hk⟩ := this
    exact decide_eq_true ⟨k + 1, p, X p - 1, hp, (hX.1 p hp hz).2.1, by omega, hk, hok⟩) (fun p hp hA h0 b hb hok => decide_eq_true ⟨0, p, hp, hA, h0, hok⟩)
  omega
theorem aug_max (K : PK) (A : Nat → Bool) (s : Nat → Nat) : ∀ d X, FE K A s X → Xsz K X + d = PM K A s → ∃ X', FE K A s X' ∧ Xsz K X' = PM K A s ∧ ∀ c, Xct K X c ≤ Xct K X' c := by
  intro d
  induction d with
  | zero => intro X hX h; exact ⟨X, hX, by omega, fun c => Nat.le_refl _⟩
  | succ d ih =>
    intro X hX h
    obtain ⟨X1, h1, h2, h3⟩ := aug K A s X hX (by omega)
    obtain ⟨X2, g1, g2, g3⟩ := ih X1 h1 (by omega)
    exact ⟨X2, g1, g2, fun c => Nat.le_trans (h3 c) (g3 c)⟩
/-- a seat more on b: one more at most -/
theorem pm_more (K : PK) (A : Nat → Bool) (s : Nat → Nat) (b : Nat) : PM K A s ≤ PM K A (fun i => if i = b then s i + 1 else s i) ∧ PM K A (fun i => if i = b then s i + 1 else s i) ≤ PM K A s + 1 := by
  constructor
  · obtain ⟨Y, h1, h2, -⟩ := pm_ex K A s
    rw [← h2]
    exact (pm_ge K A _ ⟨h1.1, fun c hc => by have := h1.2 c hc; split <;> omega⟩).1
  · obtain ⟨Y, h1, h2, -⟩ := pm_ex K A (fun i => if i = b then s i + 1 else s i)
    rw [← h2]
    by_cases e : b < K.nb ∧ s b < Xct K Y b
    · obtain ⟨hb, e⟩ := e
      have hex : ∃ p, p < K.n ∧ Y p = b + 1 := by
        apply Classical.byContradiction
        intro hno
        have : Xct K Y b = 0 := by
          rw [Xct, sm_congr (g := fun _ => 0) _ (fun p hp => by rw [beq_eq_false_iff_ne.mpr (fun z => hno ⟨p, hp, z⟩)]; rfl), sm_zero]
        omega
      obtain ⟨p, hp, hY⟩ := hex
      have hct : ∀ c, Xct K (put Y p 0) c + (if c = b then 1 else 0) = Xct K Y c := by
        intro c
        have := Xct_put K Y 0 c hp
        rw [hY, bq, bq, if_neg (show ¬ 0 = c + 1 by omega)] at this
        by_cases e : c = b
        · rw [if_pos e]; rw [if_pos (by omega)] at this; omega
        · rw [if_neg e]; rw [if_neg (by omega)] at this; omega
      have hsz := Xsz_put K Y 0 hp
      rw [hY] at hsz
      simp at hsz
      have := (pm_ge K A s (Y := put Y p 0) ⟨fun q hq hz => by
        by_cases e : q = p
        · subst e; rw [put, if_pos rfl] at hz; exact absurd rfl hz
        · rw [put, if_neg e] at hz ⊢; exact h1.1 q hq hz, fun c hc => by
        have g1 := h1.2 c hc
        have g2 := hct c
        by_cases e : c = b
        · subst e; simp only [if_true] at g1 g2; omega
        · simp only [if_neg e] at g1 g2; omega⟩).1
      omega
    · have := (pm_ge K A s (Y := Y) ⟨h1.1, fun c hc => by
        have g1 := h1.2 c hc
        by_cases e2 : c = b
        · subst e2; omega
        · simp only [if_neg e2] at g1; exact g1⟩).1
      omega
