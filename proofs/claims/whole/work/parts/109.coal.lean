/-! ===== stores alike but for some places; coal (own work) ===== -/
def AO (B : Nat → Nat → Prop) (σ τ : bSto) : Prop := (∀ a k, ¬ B a k → τ.1 a k = σ.1 a k) ∧ τ.2 = σ.2
theorem AO.refl (B : Nat → Nat → Prop) (σ : bSto) : AO B σ σ := ⟨fun _ _ _ => rfl, rfl⟩
theorem AO.trans {B : Nat → Nat → Prop} {σ τ υ : bSto} (h1 : AO B σ τ) (h2 : AO B τ υ) : AO B σ υ := ⟨fun a k h => (h2.1 a k h).trans (h1.1 a k h), h2.2.trans h1.2⟩
theorem AO.mono {B E : Nat → Nat → Prop} {σ τ : bSto} (h : AO B σ τ) (hB : ∀ a k, B a k → E a k) : AO E σ τ := ⟨fun a k he => h.1 a k (fun z => he (hB a k z)), h.2⟩
theorem bI_at (σ : bSto) (o k : Nat) (x : Int32) (a j : Nat) : (bI σ o k x).1 a j = if a = o ∧ j = k then x else σ.1 a j := by
  show (if a = o then upd (σ.1 a) k x else σ.1 a) j = _
  by_cases h1 : a = o
  · by_cases h2 : j = k
    · simp [h1, h2, upd]
    · simp [h1, h2, upd]
  · simp [h1]
theorem bI_eq (σ : bSto) (o k : Nat) (x : Int32) : (bI σ o k x).1 o k = x := by rw [bI_at, if_pos ⟨rfl, rfl⟩]
theorem bI_ne {σ : bSto} {o k : Nat} {x : Int32} {a j : Nat} (h : a ≠ o ∨ j ≠ k) : (bI σ o k x).1 a j = σ.1 a j := by rw [bI_at, if_neg (by rcases h with h | h <;> simp [h])]
theorem bI_2 (σ : bSto) (o k : Nat) (x : Int32) : (bI σ o k x).2 = σ.2 := rfl
theorem AO.set {B : Nat → Nat → Prop} (σ : bSto) {o k : Nat} (x : Int32) (h : B o k) : AO B σ (bI σ o k x) := by
  refine ⟨fun a j hb => bI_ne ?_, rfl⟩
  by_cases e1 : a = o
  · by_cases e2 : j = k
    · subst e1 e2; exact absurd h hb
    · exact Or.inr e2
  · exact Or.inl e1
theorem MV.ao {B : Nat → Nat → Prop} {v : Nat → Nat} {σ τ : bSto} (h : MV v σ) (ha : AO B σ τ) (hB : ∀ k, ¬ B 95 k) : MV v τ := fun k h1 h2 => (ha.1 95 k (hB k)).trans (h k h1 h2)
theorem MN.ao {B : Nat → Nat → Prop} {a : Nat} {seat : Nat → Nat} {σ τ : bSto} (h : MN a seat σ) (ha : AO B σ τ) (hB : ∀ k, ¬ B a k) : MN a seat τ := fun k h1 => (ha.1 a k (hB k)).trans (h k h1)
/-- a bench's weight -/
def wgt (v seat : Nat → Nat) (b : Nat) : Nat := htv v b (v 2) * pop 8 (smk seat b)
theorem pop_smk7 (seat : Nat → Nat) (b : Nat) : pop 8 (smk seat b) ≤ 7 := by
  rw [smk, pop_msk _ 7 (by decide)]
  exact sm_le _ (fun i => by cases (seat i == b + 1) <;> decide) 7
theorem wgt_lt {v : Nat → Nat} (w : WF v) (seat : Nat → Nat) (b : Nat) : wgt v seat b ≤ 420 := by
  have h1 := htv_lt (v := v) (b := b) w.2.2.1.2
  have h2 := pop_smk7 seat b
  exact Nat.mul_le_mul h1 h2
theorem s_coalWeight {c n : Nat} {v seat : Nat → Nat} {σ : bSto} (w : WF v) (hh : CVh c v σ) (hC : CN n seat σ) (hs : ∀ p, seat p ≤ v 3) {b : Nat} (hb : b < v 3) : f_X7_coalWeight c n (nI b) σ = some (nI (wgt v seat b), σ) := by
  have hb6 : v 3 ≤ 6 := w.2.2.2.1.2
  rw [f_X7_coalWeight, hh.2.2.2.2.2.1, s_heatAlone w hh hb w.2.2.1.2]
  simp only [bbd, s_sitters hC (seat7 w hs) (show b < 6 by omega), s_bitc (smk_lt _ _), q_mul]
  rfl
theorem s_weightOf {v seat : Nat → Nat} {σ : bSto} (w : WF v) (hv : MV v σ) (hC : MN 97 seat σ) (hs : ∀ p, seat p ≤ v 3) (h0 : ∀ p, v 4 ≤ p → seat p = 0) {b : Nat} (hb : b < v 3) : f_X12_weightOf (nI b) σ = some (nI (wgt v seat b), σ) := by
  have hb6 : v 3 ≤ 6 := w.2.2.2.1.2
  rw [f_X12_weightOf, f_X12_heatOf, hv.at 2 (by decide) (by decide), s_heatBy w hv hb w.2.2.1.2]
  simp only [bbd, s_onBench hC (by decide) (seat7 w hs) (hv.at 4 (by decide) (by decide)) w.2.2.2.2.1 h0 (show b < 6 by omega), s_ones (smk_lt _ _), q_mul]
  rfl
/-- i is served ahead of k -/
def bef (r : Nat → Nat) (i k : Nat) : Bool := decide (r k < r i ∨ (r k = r i ∧ i < k))
def abf (r : Nat → Nat) (n k : Nat) : Nat := sm (fun i => (bef r i k).toNat) n
theorem bef_asym (r : Nat → Nat) (i k : Nat) (h : bef r i k = true) : bef r k i = false := by
  simp only [bef, decide_eq_true_eq, decide_eq_false_iff_not] at h ⊢
  omega
theorem bef_tot (r : Nat → Nat) (i k : Nat) (h : i ≠ k) (h2 : bef r i k = false) : bef r k i = true := by
  simp only [bef, decide_eq_true_eq, decide_eq_false_iff_not] at h2 ⊢
  omega
theorem sm_lt {f g : Nat → Nat} {k : Nat} : ∀ n, (∀ i, i < n → f i ≤ g i) → k < n → f k < g k → sm f n < sm g n
  | 0, _, h, _ => by omega
  | n + 1, h, hk, hlt => by
    have hn := h n (by omega)
    rw [sm, sm]
    by_cases e : k = n
    · subst e
      have := sm_mono k (fun i hi => h i (by omega))
      omega
    · have := sm_lt n (fun i hi => h i (by omega)) (by omega) hlt
      omega
theorem bn_le {a b : Bool} (h : a = true → b = true) : a.toNat ≤ b.toNat := by
  cases a <;> cases b <;> simp_all
/-- those served, if they are the first -/
theorem abf_iff (r : Nat → Nat) (n : Nat) (G : Nat → Bool) (hG : ∀ i k, i < n → k < n → G i = true → G k = false → bef r i k = true) {k : Nat} (hk : k < n) : G k = decide (abf r n k < sm (fun i => (G i).toNat) n) := by
  cases hg : G k with
  | true =>
    symm
    apply decide_eq_true
    refine sm_lt n (fun i hi => bn_le (fun h => ?_)) hk ?_
    · cases hgi : G i with
      | true => rfl
      | false =>
        have := bef_asym r k i (hG k i hk hi hg hgi)
        rw [this] at h
        cases h
    · rw [hg, show bef r k k = false from by simp [bef]]
      decide
  | false =>
    symm
    apply decide_eq_false
    rw [Nat.not_lt]
    exact sm_mono n (fun i hi => bn_le (fun h => hG i k hi hk h hg))
def selS (G : Nat → Bool) (r : Nat → Nat) (i s : Nat) : Nat := if !G i && (s == 0 || decide (r (s - 1) < r i)) then i + 1 else s
def sel (G : Nat → Bool) (r : Nat → Nat) (n : Nat) : Nat := itr (selS G r) n 0 0
theorem sel_ok (G : Nat → Bool) (r : Nat → Nat) : ∀ n, (sel G r n = 0 ∧ ∀ j, j < n → G j = true) ∨ (sel G r n ≠ 0 ∧ sel G r n ≤ n ∧ G (sel G r n - 1) = false ∧ ∀ j, j < n → G j = false → j ≠ sel G r n - 1 → bef r (sel G r n - 1) j = true) := by
  intro n
  induction n with
  | zero => exact Or.inl ⟨rfl, fun j hj => by omega⟩
  | succ n ih =>
    have hst : sel G r (n + 1) = selS G r n (sel G r n) := by
      unfold sel
      rw [itr_last, Nat.zero_add]
    rw [hst, selS]
    cases hg : G n with
    | true =>
      rw [if_neg (by simp)]
      rcases ih with ⟨h1, h2⟩ | ⟨h1, h2, h3, h4⟩
      · refine Or.inl ⟨h1, fun j hj => ?_⟩
        by_cases e : j = n
        · rw [e]; exact hg
        · exact h2 j (by omega)
      · refine Or.inr ⟨h1, by omega, h3, fun j hj hgj hne => ?_⟩
        by_cases e : j = n
        · rw [e, hg] at hgj; cases hgj
        · exact h4 j (by omega) hgj hne
    | false =>
      rcases ih with ⟨h1, h2⟩ | ⟨h1, h2, h3, h4⟩
      · rw [if_pos (by simp [h1])]
        refine Or.inr ⟨by omega, Nat.le_refl _, by rw [Nat.add_sub_cancel]; exact hg, fun j hj hgj hne => ?_⟩
        rw [h2 j (by omega)] at hgj
        cases hgj
      · by_cases hr : r (sel G r n - 1) < r n
        · rw [if_pos (by simp [hr])]
          refine Or.inr ⟨by omega, Nat.le_refl _, by rw [Nat.add_sub_cancel]; exact hg, fun j hj hgj hne => ?_⟩
          rw [Nat.add_sub_cancel] at hne ⊢
          by_cases e : j = sel G r n - 1
          · rw [e]
            exact decide_eq_true (Or.inl hr)
          · have := h4 j (by omega) hgj e
            simp only [bef, decide_eq_true_eq] at this ⊢
            omega
        · rw [if_neg (by simp [hr, h1])]
          refine Or.inr ⟨h1, by omega, h3, fun j hj hgj hne => ?_⟩
          by_cases e : j = n
          · subst e
            exact decide_eq_true (by omega)
          · exact h4 j (by omega) hgj hne
/-- coal: all the weight; a bench's whole part; its remainder; what is then left -/
def wall (v seat : Nat → Nat) : Nat := sm (wgt v seat) (v 3)
def cq (v seat : Nat → Nat) (m b : Nat) : Nat := m * wgt v seat b / wall v seat
def cr (v seat : Nat → Nat) (m b : Nat) : Nat := m * wgt v seat b % wall v seat
def clf (v seat : Nat → Nat) (m : Nat) : Nat := m - sm (cq v seat m) (v 3)
def coa (v seat : Nat → Nat) (m b : Nat) : Nat := if wall v seat = 0 then 0 else cq v seat m b + (decide (abf (cr v seat m) (v 3) b < clf v seat m)).toNat
theorem wall_lt {v : Nat → Nat} (w : WF v) (seat : Nat → Nat) : ∀ k, k ≤ 6 → sm (wgt v seat) k ≤ 2520 := by
  have h : ∀ k, sm (wgt v seat) k ≤ 420 * k := by
    intro k
    induction k with
    | zero => exact Nat.le_refl _
    | succ k ih =>
      have := wgt_lt w seat k
      rw [sm]
      omega
  intro k hk
  have := h k
  omega
theorem cq_sum (v seat : Nat → Nat) (m : Nat) (h : 0 < wall v seat) : ∀ k, wall v seat * sm (cq v seat m) k + sm (cr v seat m) k = m * sm (wgt v seat) k := by
  intro k
  induction k with
  | zero => simp [sm]
  | succ k ih =>
    have hd := Nat.div_add_mod (m * wgt v seat k) (wall v seat)
    simp only [sm, Nat.mul_add]
    rw [← ih]
    show wall v seat * sm (cq v seat m) k + wall v seat * (m * wgt v seat k / wall v seat) + (sm (cr v seat m) k + m * wgt v seat k % wall v seat) = _
    omega
theorem sm_mono_n (f : Nat → Nat) {a : Nat} : ∀ b, a ≤ b → sm f a ≤ sm f b
  | 0, h => by rw [show a = 0 by omega]; exact Nat.le_refl _
  | b + 1, h => by
    by_cases e : a = b + 1
    · rw [e]; exact Nat.le_refl _
    · have := sm_mono_n f b (show a ≤ b by omega)
      rw [sm]
      omega
theorem cq_le (v seat : Nat → Nat) (m : Nat) (h : 0 < wall v seat) {k : Nat} (hk : k ≤ v 3) : sm (cq v seat m) k ≤ m := by
  have h1 := cq_sum v seat m h k
  have h2 : m * sm (wgt v seat) k ≤ m * wall v seat := Nat.mul_le_mul_left m (sm_mono_n _ _ hk)
  apply Nat.le_of_mul_le_mul_left _ h
  rw [Nat.mul_comm (wall v seat) m]
  omega
theorem clf_lt (v seat : Nat → Nat) (m : Nat) (h : 0 < wall v seat) (h3 : 0 < v 3) : clf v seat m < v 3 := by
  have h1 := cq_sum v seat m h (v 3)
  have h2 := cq_le v seat m h (Nat.le_refl (v 3))
  have hr : ∀ k, 0 < k → sm (cr v seat m) k < wall v seat * k := by
    intro k
    induction k with
    | zero => intro h; omega
    | succ k ih =>
      intro _
      have hm : cr v seat m k < wall v seat := Nat.mod_lt _ h
      rw [sm, Nat.mul_succ]
      by_cases e : k = 0
      · subst e; show sm (cr v seat m) 0 + _ < _; rw [show sm (cr v seat m) 0 = 0 from rfl]; omega
      · have := ih (by omega); omega
  have h4 := hr (v 3) h3
  have h5 : wall v seat * clf v seat m = sm (cr v seat m) (v 3) := by
    unfold clf
    rw [Nat.mul_sub, Nat.mul_comm (wall v seat) m]
    show m * wall v seat - _ = _
    have : m * wall v seat = m * sm (wgt v seat) (v 3) := rfl
    omega
  rw [← h5] at h4
  exact Nat.lt_of_mul_lt_mul_left h4
