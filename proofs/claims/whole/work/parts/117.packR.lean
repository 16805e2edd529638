/-! ===== packing: the cheapest by rents (own work) ===== -/
/-- the seats of rents below t -/
def opn (K : PK) (s : Nat → Nat) (t : Nat) : Nat → Nat := fun b => if K.rt b < t then s b else 0
def Nu (K : PK) (X : Nat → Nat) (t : Nat) : Nat := sm (fun p => (!(X p == 0) && decide (K.rt (X p - 1) < t)).toNat) K.n
theorem Nu_ct (K : PK) (X : Nat → Nat) (t : Nat) (hX : ∀ p, p < K.n → X p ≠ 0 → X p - 1 < K.nb) : Nu K X t = sm (fun b => (decide (K.rt b < t)).toNat * Xct K X b) K.nb := sm_swapT K X (fun b => decide (K.rt b < t)) hX
theorem Nu_le (K : PK) (A : Nat → Bool) (s X : Nat → Nat) (hX : FE K A s X) (t : Nat) : Nu K X t ≤ PM K A (opn K s t) := by
  have hR : ∀ p, (fun p => if X p ≠ 0 ∧ K.rt (X p - 1) < t then X p else 0) p ≠ 0 → (fun p => if X p ≠ 0 ∧ K.rt (X p - 1) < t then X p else 0) p = X p ∧ X p ≠ 0 ∧ K.rt (X p - 1) < t := by
    intro p h
    by_cases e : X p ≠ 0 ∧ K.rt (X p - 1) < t
    · exact ⟨if_pos e, e⟩
    · simp only [if_neg e] at h; exact absurd rfl h
  have h1 : FE K A (opn K s t) (fun p => if X p ≠ 0 ∧ K.rt (X p - 1) < t then X p else 0) := by
    refine ⟨fun p hp hz => ?_, fun b hb => ?_⟩
    · obtain ⟨e1, e2, e3⟩ := hR p hz
      rw [e1]
      exact hX.1 p hp e2
    · unfold opn
      by_cases e : K.rt b < t
      · rw [if_pos e]
        refine Nat.le_trans (sm_mono _ (fun p hp => bn_le (fun h => ?_))) (hX.2 b hb)
        simp only [beq_iff_eq] at h ⊢
        have := hR p (by show (if X p ≠ 0 ∧ K.rt (X p - 1) < t then X p else 0) ≠ 0; omega)
        rw [← this.1]
        exact h
      · rw [if_neg e]
        have : Xct K (fun p => if X p ≠ 0 ∧ K.rt (X p - 1) < t then X p else 0) b = 0 := by
          rw [Xct, sm_congr (g := fun _ => 0) _ (fun p hp => ?_), sm_zero]
          rw [beq_eq_false_iff_ne.mpr]
          · rfl
          · intro z
            have := hR p (by show (if X p ≠ 0 ∧ K.rt (X p - 1) < t then X p else 0) ≠ 0; omega)
            have h1 : X p = b + 1 := this.1.symm.trans z
            have h2 := this.2.2
            rw [h1, Nat.add_sub_cancel] at h2
            exact e h2
        omega
  have h2 := (pm_ge K A _ h1).1
  refine Nat.le_trans (sm_mono _ (fun p hp => bn_le (fun h => ?_))) h2
  simp only [Bool.and_eq_true, Bool.not_eq_true', beq_eq_false_iff_ne, decide_eq_true_eq] at h ⊢
  rw [if_pos h]
  exact h.1
theorem chain (K : PK) (A : Nat → Bool) (s : Nat → Nat) : ∀ t, ∃ X, FE K A (opn K s t) X ∧ ∀ u, u ≤ t → Nu K X u = PM K A (opn K s u) := by
  intro t
  induction t with
  | zero =>
    refine ⟨fun _ => 0, ⟨fun p _ h => absurd rfl h, fun b _ => ?_⟩, fun u hu => ?_⟩
    · have : Xct K (fun _ => 0) b = 0 := by
        rw [Xct, sm_congr (g := fun _ => 0) _ (fun p _ => by simp), sm_zero]
      omega
    · obtain rfl : u = 0 := by omega
      have h1 : Nu K (fun _ => 0) 0 = 0 := by
        rw [Nu, sm_congr (g := fun _ => 0) _ (fun p _ => by simp), sm_zero]
      obtain ⟨Y, y1, y2, -⟩ := pm_ex K A (opn K s 0)
      rw [h1, ← y2]
      symm
      rw [Xsz, sm_congr (g := fun _ => 0) _ (fun p hp => ?_), sm_zero]
      by_cases e : Y p = 0
      · rw [e]; rfl
      · exfalso
        have a := (y1.1 p hp e).2.1
        have b := y1.2 (Y p - 1) a
        have c : opn K s 0 (Y p - 1) = 0 := by unfold opn; rw [if_neg (by omega)]
        have d : (Y p == Y p - 1 + 1).toNat ≤ Xct K Y (Y p - 1) := by
          rw [Xct]
          have hh : ∀ n, p < n → (Y p == Y p - 1 + 1).toNat ≤ sm (fun q => (Y q == Y p - 1 + 1).toNat) n := by
            intro n
            induction n with
            | zero => intro h; omega
            | succ n ih =>
              intro h
              rw [sm]
              by_cases e2 : p = n
              · subst e2; omega
              · have := ih (by omega); omega
          exact hh K.n hp
        rw [show Y p - 1 + 1 = Y p by omega] at d
        simp at d
        omega
  | succ t ih =>
    obtain ⟨X, h1, h2⟩ := ih
    have hX : FE K A (opn K s (t + 1)) X := ⟨h1.1, fun b hb => by
      have := h1.2 b hb
      unfold opn at this ⊢
      by_cases e : K.rt b < t
      · rw [if_pos e] at this; rw [if_pos (by omega)]; exact this
      · rw [if_neg e] at this; omega⟩
    have hsz := (pm_ge K A _ hX).1
    obtain ⟨X', g1, g2, g3⟩ := aug_max K A (opn K s (t + 1)) (PM K A (opn K s (t + 1)) - Xsz K X) X hX (by omega)
    refine ⟨X', g1, fun u hu => ?_⟩
    by_cases e : u = t + 1
    · subst e
      rw [← g2]
      apply sm_congr
      intro p hp
      by_cases e2 : X' p = 0
      · rw [e2]; rfl
      · have a := (g1.1 p hp e2).2.1
        have b := g1.2 (X' p - 1) a
        have d : (X' p == X' p - 1 + 1).toNat ≤ Xct K X' (X' p - 1) := by
          rw [Xct]
          have hh : ∀ n, p < n → (X' p == X' p - 1 + 1).toNat ≤ sm (fun q => (X' q == X' p - 1 + 1).toNat) n := by
            intro n
            induction n with
            | zero => intro h; omega
            | succ n ih =>
              intro h
              rw [sm]
              by_cases e2 : p = n
              · subst e2; omega
              · have := ih (by omega); omega
          exact hh K.n hp
        rw [show X' p - 1 + 1 = X' p by omega] at d
        simp at d
        have c : K.rt (X' p - 1) < t + 1 := by
          apply Classical.byContradiction
          intro hn
          unfold opn at b
          rw [if_neg hn] at b
          omega
        rw [decide_eq_true c, Bool.and_true]
    · have hu2 : u ≤ t := by omega
      have h3 := h2 u hu2
      have h4 : Nu K X u ≤ Nu K X' u := by
        rw [Nu_ct K X u (fun p hp hz => (h1.1 p hp hz).2.1), Nu_ct K X' u (fun p hp hz => (g1.1 p hp hz).2.1)]
        exact sm_mono _ (fun b _ => Nat.mul_le_mul_left _ (g3 b))
      have h5 := Nu_le K A (opn K s (t + 1)) X' g1 u
      have h6 : PM K A (opn K (opn K s (t + 1)) u) = PM K A (opn K s u) := by
        unfold PM
        rw [pk_congrS K _ A _ (opn K s u)]
        intro b _
        unfold opn
        by_cases e : K.rt b < u
        · rw [if_pos e, if_pos e, if_pos (by omega)]
        · rw [if_neg e, if_neg e]
      rw [h6] at h5
      omega
/-- the rent of a packing, by how many sit below each rent -/
theorem rn_sum (K : PK) (X : Nat → Nat) (m : Nat) (hX : ∀ p, p < K.n → X p ≠ 0 → K.rt (X p - 1) ≤ m) : Xrn K X + sm (fun u => Nu K X (u + 1)) m = m * Xsz K X := by
  have h1 : sm (fun u => Nu K X (u + 1)) m = sm (fun p => sm (fun u => (!(X p == 0) && decide (K.rt (X p - 1) < u + 1)).toNat) m) K.n := (sm_swap (fun p u => (!(X p == 0) && decide (K.rt (X p - 1) < u + 1)).toNat) m K.n).symm
  rw [h1, Xrn, ← sm_add, Xsz, ← sm_mul]
  apply sm_congr
  intro p hp
  by_cases e : X p = 0
  · rw [if_pos e, e, sm_congr (g := fun _ => 0) _ (fun u _ => by simp), sm_zero]
    simp
  · have hr := hX p hp e
    rw [if_neg e, beq_eq_false_iff_ne.mpr e]
    have hh : ∀ m, sm (fun u => (!false && decide (K.rt (X p - 1) < u + 1)).toNat) m = m - K.rt (X p - 1) := by
      intro m
      induction m with
      | zero => simp [sm]
      | succ m ih =>
        rw [sm, ih]
        by_cases e2 : K.rt (X p - 1) < m + 1
        · rw [decide_eq_true e2]; simp; omega
        · rw [decide_eq_false e2]; simp; omega
    rw [hh m]
    simp
    omega
theorem pm_mono (K : PK) (A : Nat → Bool) {s z : Nat → Nat} (h : ∀ b, b < K.nb → s b ≤ z b) : PM K A s ≤ PM K A z := by
  obtain ⟨Y, h1, h2, -⟩ := pm_ex K A s
  rw [← h2]
  exact (pm_ge K A z ⟨h1.1, fun b hb => Nat.le_trans (h1.2 b hb) (h b hb)⟩).1
/-- the class's sum over the rents below t -/
def rsum (K : PK) (A : Nat → Bool) (s : Nat → Nat) (t : Nat) : Nat := sm (fun u => u * (PM K A (opn K s (u + 1)) - PM K A (opn K s u))) t
theorem opn_mono (K : PK) (A : Nat → Bool) (s : Nat → Nat) {t u : Nat} (h : t ≤ u) : PM K A (opn K s t) ≤ PM K A (opn K s u) := pm_mono K A (fun b _ => by
  unfold opn
  by_cases e : K.rt b < t
  · rw [if_pos e, if_pos (by omega)]; exact Nat.le_refl _
  · rw [if_neg e]; omega)
theorem rsum_eq (K : PK) (A : Nat → Bool) (s : Nat → Nat) : ∀ t, rsum K A s (t + 1) + sm (fun u => PM K A (opn K s (u + 1))) t = t * PM K A (opn K s (t + 1)) := by
  intro t
  induction t with
  | zero => simp [rsum, sm]
  | succ t ih =>
    have h1 : rsum K A s (t + 1 + 1) = rsum K A s (t + 1) + (t + 1) * (PM K A (opn K s (t + 1 + 1)) - PM K A (opn K s (t + 1))) := rfl
    have h2 := opn_mono K A s (show t + 1 ≤ t + 1 + 1 by omega)
    rw [h1, sm]
    generalize PM K A (opn K s (t + 1 + 1)) = a at h2 ⊢
    generalize PM K A (opn K s (t + 1)) = b at ih h2 ⊢
    obtain ⟨d, rfl⟩ : ∃ d, a = b + d := ⟨a - b, by omega⟩
    rw [Nat.add_sub_cancel_left]
    have h3 : (t + 1) * (b + d) = t * b + b + (t + 1) * d := by
      rw [Nat.mul_add, Nat.add_mul, Nat.one_mul]
    omega
/-- the greedy way is the cheapest -/
theorem greedy (K : PK) (A : Nat → Bool) (s : Nat → Nat) (m : Nat) (hr : ∀ b, b < K.nb → K.rt b ≤ m) : rsum K A s (m + 1) = (pk K K.n A s).2 := by
  have hop : PM K A (opn K s (m + 1)) = PM K A s := by
    unfold PM
    rw [pk_congrS K _ A _ s]
    intro b hb
    unfold opn
    rw [if_pos (by have := hr b hb; omega)]
  have hop2 : ∀ X, FE K A (opn K s (m + 1)) X → FE K A s X := fun X h => ⟨h.1, fun b hb => by
    have := h.2 b hb
    unfold opn at this
    rw [if_pos (by have := hr b hb; omega)] at this
    exact this⟩
  have hE := rsum_eq K A s m
  rw [hop] at hE
  obtain ⟨X, x1, x2⟩ := chain K A s (m + 1)
  have xs : Xsz K X = PM K A s := by
    rw [← hop, ← x2 (m + 1) (Nat.le_refl _)]
    apply sm_congr
    intro p hp
    by_cases e : X p = 0
    · rw [e]; rfl
    · have := hr _ (x1.1 p hp e).2.1
      rw [decide_eq_true (show K.rt (X p - 1) < m + 1 by omega), Bool.and_true]
  have hx := rn_sum K X m (fun p hp hz => hr _ (x1.1 p hp hz).2.1)
  rw [sm_congr m (fun u hu => x2 (u + 1) (by omega)), xs] at hx
  have h1 := (pm_ge K A s (hop2 X x1)).2 xs
  obtain ⟨Y, y1, y2, y3⟩ := pm_ex K A s
  have hy := rn_sum K Y m (fun p hp hz => hr _ (y1.1 p hp hz).2.1)
  rw [y2, y3] at hy
  have h2 : sm (fun u => Nu K Y (u + 1)) m ≤ sm (fun u => PM K A (opn K s (u + 1))) m := sm_mono _ (fun u _ => Nu_le K A s Y y1 (u + 1))
  omega
