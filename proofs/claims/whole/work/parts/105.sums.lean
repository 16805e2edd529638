/-! ===== the reference's warmest; rents; the least heat (own work) ===== -/
theorem sv_lt0_all : ∀ k : Fin 7, (sv k.val < nI 0) = (k.val = 0) := by decide +kernel
theorem sv_lt0 {k : Nat} (hk : k < 7) : (sv k < nI 0) = (k = 0) := sv_lt0_all ⟨k, hk⟩
theorem s_warmestM {v seat : Nat → Nat} {σ : bSto} (w : WF v) (hv : MV v σ) (hC : MN 97 seat σ) (hs : ∀ p, seat p ≤ v 3) (h0 : ∀ p, v 4 ≤ p → seat p = 0) {p : Nat} (hp : p < v 4) : f_X12_warmest_L23 bFU (nI p) (sv 0) (nI 0) σ = some (sv (wst v seat p), σ) := by
  have hb6 : v 3 ≤ 6 := w.2.2.2.1.2
  refine lp_allI (fun k i s => f_X12_warmest_L23 k (nI p) (sv s) (nI i) σ) (v 3) (by omega) (fun s => some (sv s, σ)) (wstS v seat p) (fun i s => s ≤ i) 0 ?_ ?_ (fun i s _ h => wstS_le h) (Nat.le_refl _)
  · intro k s _
    show f_X12_warmest_L23 (k + 1) (nI p) (sv s) (nI (v 3)) σ = _
    rw [f_X12_warmest_L23, hv.at 3 (by decide) (by decide), if_pos (Int32.le_refl _)]
  · intro k i s hi hsi
    show f_X12_warmest_L23 (k + 1) (nI p) (sv s) (nI i) σ = f_X12_warmest_L23 k (nI p) (sv (wstS v seat p i s)) (nI (i + 1)) σ
    rw [f_X12_warmest_L23, hv.at 3 (by decide) (by decide), s_mayOn w hv hp hi]
    simp only [bbd, blet, s_isFree w hv hC (by decide) hs h0 hi, s_warmthOf w hv hC hs h0 hi, f_X12_warmest_J71_23]
    simp (disch := omega) only [q_lit, q_lt0, q_ge0, q_le, q_lt, q_eq, q_cl, q_add, q_mul, q_div, q_rem, b2_0n, sv_lt0 (show s < 7 by omega)]
    rw [if_neg (by omega), wstS]
    cases h1 : mayK (v (35 + 4 * p)) (v (11 + 4 * i)) with
    | false => simp
    | true =>
      cases h2 : fre v seat i with
      | false => simp
      | true =>
        by_cases e : s = 0
        · simp [e, sv]
        · have hsv : sv s = nI (s - 1) := by rw [sv, if_neg e]
          have l1 := wrm_lt w seat i
          have l2 := wrm_lt w seat (s - 1)
          rw [hsv, s_warmthOf w hv hC hs h0 (show s - 1 < v 3 by omega)]
          simp only [q_le (show wrm v seat i < 2 ^ 31 by omega) (show wrm v seat (s - 1) < 2 ^ 31 by omega)]
          by_cases h3 : wrm v seat (s - 1) < wrm v seat i
          · simp [e, h3, show ¬ wrm v seat i ≤ wrm v seat (s - 1) by omega, sv]
          · simp [e, h3, show wrm v seat i ≤ wrm v seat (s - 1) by omega, sv]
/-- a sum of n numbers -/
def sm (f : Nat → Nat) : Nat → Nat
  | 0 => 0
  | n + 1 => sm f n + f n
theorem sm_congr {f g : Nat → Nat} : ∀ n, (∀ i, i < n → f i = g i) → sm f n = sm g n
  | 0, _ => rfl
  | n + 1, h => by rw [sm, sm, sm_congr n (fun i hi => h i (by omega)), h n (by omega)]
theorem sm_add (f g : Nat → Nat) : ∀ n, sm (fun i => f i + g i) n = sm f n + sm g n
  | 0 => rfl
  | n + 1 => by simp only [sm]; rw [sm_add f g n]; omega
theorem sm_zero : ∀ n, sm (fun _ => 0) n = 0
  | 0 => rfl
  | n + 1 => by rw [sm, sm_zero n]
theorem sm_swap (f : Nat → Nat → Nat) (m : Nat) : ∀ n, sm (fun i => sm (fun j => f i j) m) n = sm (fun j => sm (fun i => f i j) n) m
  | 0 => by rw [sm]; exact (sm_zero m).symm
  | n + 1 => by
    rw [sm, sm_swap f m n, ← sm_add]
    rfl
theorem sm_mul (k : Nat) (f : Nat → Nat) : ∀ n, sm (fun i => k * f i) n = k * sm f n
  | 0 => rfl
  | n + 1 => by rw [sm, sm_mul k f n, sm, Nat.mul_add]
theorem sm_mono {f g : Nat → Nat} : ∀ n, (∀ i, i < n → f i ≤ g i) → sm f n ≤ sm g n
  | 0, _ => Nat.le_refl _
  | n + 1, h => by
    have := sm_mono n (fun i hi => h i (by omega))
    have := h n (by omega)
    rw [sm, sm]
    omega
theorem itr_sm (f : Nat → Nat) : ∀ n i a, itr (fun j acc => acc + f j) n i a = a + sm (fun j => f (i + j)) n
  | 0, i, a => rfl
  | n + 1, i, a => by
    rw [itr_last, itr_sm f n i a, sm]
    omega
theorem pop_add_all : ∀ n : Fin 8, ∀ m : Fin (2 ^ n.val), pop 8 (m.val + 2 ^ n.val) = pop 8 m.val + 1 := by decide +kernel
theorem pop_msk (c : Nat → Bool) : ∀ n, n ≤ 8 → pop 8 (msk c n) = sm (fun p => (c p).toNat) n
  | 0, _ => by show pop 8 0 = 0; decide
  | n + 1, h => by
    rw [msk, sm, ← pop_msk c n (by omega)]
    cases hc : c n with
    | false => simp
    | true =>
      rw [if_pos rfl, pop_add_all ⟨n, by omega⟩ ⟨msk c n, msk_lt c n⟩]
      rfl
/-- one who sits on b sits there only: a sum over the benches -/
theorem sm_pick (g : Nat → Nat) (k : Nat) : ∀ n, sm (fun b => g b * (k == b + 1).toNat) n = if k = 0 ∨ n < k then 0 else g (k - 1)
  | 0 => by
    by_cases h : k = 0
    · simp [sm, h]
    · rw [if_pos (by omega)]; rfl
  | n + 1 => by
    rw [sm, sm_pick g k n]
    by_cases h : k = n + 1
    · subst h
      rw [if_pos (by omega), if_neg (by omega)]
      simp
    · rw [show (k == n + 1) = false from by simpa using h]
      by_cases h2 : k = 0 ∨ n < k
      · rw [if_pos h2, if_pos (by omega)]; rfl
      · rw [if_neg h2, if_neg (by omega)]; rfl
/-- the rents: over the people -/
def rnt (v seat : Nat → Nat) : Nat := sm (fun p => if seat p = 0 then 0 else v (14 + 4 * (seat p - 1))) 7
theorem rnt_b {v seat : Nat → Nat} (hs : ∀ p, seat p ≤ v 3) : sm (fun b => v (14 + 4 * b) * pop 8 (smk seat b)) (v 3) = rnt v seat := by
  have h1 : ∀ b, b < v 3 → v (14 + 4 * b) * pop 8 (smk seat b) = sm (fun p => v (14 + 4 * b) * (seat p == b + 1).toNat) 7 := by
    intro b _
    rw [smk, pop_msk _ 7 (by decide), sm_mul]
  rw [sm_congr _ h1, sm_swap (fun b p => v (14 + 4 * b) * (seat p == b + 1).toNat) 7 (v 3)]
  apply sm_congr
  intro p _
  rw [sm_pick (fun b => v (14 + 4 * b)) (seat p) (v 3)]
  have := hs p
  by_cases e : seat p = 0
  · rw [if_pos (Or.inl e), if_pos e]
  · rw [if_neg (by omega), if_neg e]
theorem s_rentNow {c n : Nat} {v seat : Nat → Nat} {σ : bSto} (w : WF v) (hh : CVh c v σ) (hC : CN n seat σ) (hs : ∀ p, seat p ≤ v 3) : f_X7_rentNow c n σ = some (nI (rnt v seat), σ) := by
  have hb6 : v 3 ≤ 6 := w.2.2.2.1.2
  have h : f_X7_rentNow_L4 bFU c n (nI 0) (nI 0) σ = some (nI (itr (fun b acc => acc + v (14 + 4 * b) * pop 8 (smk seat b)) (v 3) 0 0), σ) := by
    refine lp_all (fun k i s => f_X7_rentNow_L4 k c n (nI s) (nI i) σ) (v 3) (by omega) (fun s => some (nI s, σ)) _ 0 ?_ ?_
    · intro k s
      show f_X7_rentNow_L4 (k + 1) c n (nI s) (nI (v 3)) σ = _
      rw [f_X7_rentNow_L4, hh.1, if_pos (Int32.le_refl _)]
    · intro k i s hi
      show f_X7_rentNow_L4 (k + 1) c n (nI s) (nI i) σ = _
      rw [f_X7_rentNow_L4, hh.1, s_sitters hC (seat7 w hs) (by omega)]
      simp only [bbd, blet, s_bitc (smk_lt _ _)]
      simp (disch := omega) only [q_lit, q_lt0, q_ge0, q_le, q_lt, q_eq, q_cl, q_add, q_mul, q_div, q_rem, if_false, false_or, (hh.2.2.2.2.2.2 i hi).2.2.2.2]
      rw [if_neg (by omega), if_neg (by omega)]
  show bl1 (f_X7_rentNow_L4 bFU c n (nI 0) (nI 0) σ) _ = _
  rw [h, bl1, itr_sm]
  simp only [Nat.zero_add]
  rw [rnt_b hs]
theorem sm_ext {f : Nat → Nat} {n : Nat} : ∀ m, n ≤ m → (∀ i, n ≤ i → i < m → f i = 0) → sm f m = sm f n
  | 0, h, _ => by rw [show n = 0 by omega]
  | m + 1, h, hz => by
    by_cases e : n = m + 1
    · rw [e]
    · rw [sm, hz m (by omega) (by omega), sm_ext m (by omega) (fun i a b => hz i a (by omega))]
      rfl
theorem s_rentsM {v seat : Nat → Nat} {σ : bSto} (w : WF v) (hv : MV v σ) (hC : MN 97 seat σ) (hs : ∀ p, seat p ≤ v 3) (h0 : ∀ p, v 4 ≤ p → seat p = 0) : f_X12_rents_L21 bFU (nI 0) (nI 0) σ = some (nI (rnt v seat), σ) := by
  have hb6 : v 3 ≤ 6 := w.2.2.2.1.2
  have hp7 : v 4 ≤ 7 := w.2.2.2.2.1
  have h : f_X12_rents_L21 bFU (nI 0) (nI 0) σ = some (nI (itr (fun p acc => acc + if seat p = 0 then 0 else v (14 + 4 * (seat p - 1))) (v 4) 0 0), σ) := by
    refine lp_all (fun k i s => f_X12_rents_L21 k (nI s) (nI i) σ) (v 4) (by omega) (fun s => some (nI s, σ)) _ 0 ?_ ?_
    · intro k s
      show f_X12_rents_L21 (k + 1) (nI s) (nI (v 4)) σ = _
      rw [f_X12_rents_L21, hv.at 4 (by decide) (by decide), if_pos (Int32.le_refl _)]
    · intro k i s hi
      show f_X12_rents_L21 (k + 1) (nI s) (nI i) σ = _
      have hsi := hs i
      rw [f_X12_rents_L21, hv.at 4 (by decide) (by decide)]
      simp (disch := omega) only [q_lit, q_lt0, q_ge0, q_le, q_lt, q_eq, q_cl, q_add, q_mul, q_div, q_rem, if_false, false_or, hC i (by omega), blet, f_X12_rents_J57_21]
      rw [if_neg (by omega), if_neg (by omega)]
      by_cases e : seat i = 0
      · simp only [e, if_true, Nat.add_zero]
      · simp only [e, if_false]
        rw [if_neg (by omega), q_sub (by omega), s_rentOf hv (by omega)]
        simp only [bbd, q_add]
  rw [h, itr_sm]
  simp only [Nat.zero_add]
  rw [rnt, sm_ext 7 hp7 (fun p hp _ => by rw [if_pos (h0 p hp)])]
theorem htv_mono (v : Nat → Nat) (b : Nat) {H K : Nat} (h : H ≤ K) : htv v b H ≤ htv v b K := by unfold htv; omega
theorem cnt_mono (v seat : Nat → Nat) (p : Nat) {H K : Nat} (h : H ≤ K) (hc : cnt v seat p H = true) : cnt v seat p K = true := by
  rw [cnt, decide_eq_true_iff] at hc ⊢
  exact ⟨hc.1, Nat.le_trans hc.2.1 (htv_mono v _ h), hc.2.2⟩
/-- how many are content by the heat H -/
def cn (v seat : Nat → Nat) (H : Nat) : Nat := pop 8 (cmk v seat H)
theorem cn_mono {v : Nat → Nat} (w : WF v) (seat : Nat → Nat) {H K : Nat} (h : H ≤ K) : cn v seat H ≤ cn v seat K := by
  have hp7 : v 4 ≤ 7 := w.2.2.2.2.1
  rw [cn, cn, cmk, cmk, pop_msk _ _ (by omega), pop_msk _ _ (by omega)]
  apply sm_mono
  intro p _
  cases hc : cnt v seat p H with
  | false => simp
  | true => rw [cnt_mono v seat p h hc]; exact Nat.le_refl _
theorem cn_le (v seat : Nat → Nat) (H : Nat) : cn v seat H ≤ 8 := pop_le 8 _
/-- the first of h, h + 1 .. (k of them) by which c is so, else h + k -/
def fst1 (c : Nat → Bool) : Nat → Nat → Nat
  | 0, h => h
  | k + 1, h => if c h then h else fst1 c k (h + 1)
def lht (v seat : Nat → Nat) : Nat := fst1 (fun H => decide (cn v seat 60 ≤ cn v seat H)) 59 1
theorem s_leastHeat {c n : Nat} {v seat : Nat → Nat} {σ : bSto} (w : WF v) (hh : CVh c v σ) (hf : CVf c v σ) (hC : CN n seat σ) (hs : ∀ p, seat p ≤ v 3) : f_X7_leastHeat c n σ = some (nI (lht v seat), σ) := by
  have hl : ∀ k H m, H + k = 60 → k < m → (∃ x, f_X7_leastHeat_L13 m c n (nI (cn v seat 60)) (nI H) σ = some x ∧ ((x = .inr σ ∧ fst1 (fun H => decide (cn v seat 60 ≤ cn v seat H)) k H = 60) ∨ x = .inl (nI (fst1 (fun H => decide (cn v seat 60 ≤ cn v seat H)) k H), σ))) := by
    intro k
    induction k with
    | zero =>
      intro H m hH hm
      obtain ⟨m, rfl⟩ : ∃ m', m = m' + 1 := ⟨m - 1, by omega⟩
      obtain rfl : H = 60 := by omega
      refine ⟨.inr σ, ?_, Or.inl ⟨rfl, rfl⟩⟩
      rw [f_X7_leastHeat_L13, if_pos (by decide)]
    | succ k ih =>
      intro H m hH hm
      obtain ⟨m, rfl⟩ : ∃ m', m = m' + 1 := ⟨m - 1, by omega⟩
      have e1 := cn_le v seat H
      have e2 := cn_le v seat 60
      have e3 := cn_mono w seat (show H ≤ 60 by omega)
      rw [f_X7_leastHeat_L13, s_contentBits w hh hf hC hs (by omega)]
      simp only [bbd, blet, s_bitc (cmk_lt w _ _)]
      rw [show pop 8 (cmk v seat H) = cn v seat H from rfl]
      simp (disch := omega) only [q_lit, q_lt0, q_ge0, q_le, q_lt, q_eq, q_cl, q_add, q_mul, q_div, q_rem]
      rw [if_neg (by omega), fst1]
      by_cases h : cn v seat H = cn v seat 60
      · rw [if_pos h, decide_eq_true (by omega)]
        exact ⟨_, rfl, Or.inr rfl⟩
      · rw [if_neg h, decide_eq_false (by omega)]
        exact ih (H + 1) m (by omega) (by omega)
  rw [f_X7_leastHeat, show (60 : Int32) = nI 60 from rfl, s_contentBits w hh hf hC hs (by decide)]
  simp only [bbd, s_bitc (cmk_lt w _ _)]
  obtain ⟨x, hx, h⟩ := hl 59 1 bFU (by decide) (by decide)
  rw [show pop 8 (cmk v seat 60) = cn v seat 60 from rfl, show (1 : Int32) = nI 1 from rfl, hx]
  rcases h with ⟨rfl, h⟩ | rfl
  · rw [lht, h]; rfl
  · rfl
theorem s_heatForM {v seat : Nat → Nat} {σ : bSto} (w : WF v) (hv : MV v σ) (hC : MN 97 seat σ) (hs : ∀ p, seat p ≤ v 3) : f_X12_heatFor_L33 bFU (nI (cn v seat 60)) (nI 1) σ = some (nI (lht v seat), σ) := by
  have hl : ∀ k H m, H + k = 60 → k < m → f_X12_heatFor_L33 m (nI (cn v seat 60)) (nI H) σ = some (nI (fst1 (fun H => decide (cn v seat 60 ≤ cn v seat H)) k H), σ) := by
    intro k
    induction k with
    | zero =>
      intro H m hH hm
      obtain ⟨m, rfl⟩ : ∃ m', m = m' + 1 := ⟨m - 1, by omega⟩
      obtain rfl : H = 60 := by omega
      rw [f_X12_heatFor_L33, s_contentOn w hv hC (by decide) hs (by omega)]
      simp only [bbd, blet, s_ones (cmk_lt w _ _)]
      rw [show pop 8 (cmk v seat 60) = cn v seat 60 from rfl, if_pos (Int32.le_refl _)]
      rfl
    | succ k ih =>
      intro H m hH hm
      obtain ⟨m, rfl⟩ : ∃ m', m = m' + 1 := ⟨m - 1, by omega⟩
      have e1 := cn_le v seat H
      have e2 := cn_le v seat 60
      rw [f_X12_heatFor_L33, s_contentOn w hv hC (by decide) hs (by omega)]
      simp only [bbd, blet, s_ones (cmk_lt w _ _)]
      rw [show pop 8 (cmk v seat H) = cn v seat H from rfl]
      simp (disch := omega) only [q_lit, q_lt0, q_ge0, q_le, q_lt, q_eq, q_cl, q_add, q_mul, q_div, q_rem]
      rw [fst1]
      by_cases h : cn v seat 60 ≤ cn v seat H
      · rw [if_pos h, decide_eq_true h]; rfl
      · rw [if_neg h, decide_eq_false h]
        exact ih (H + 1) m (by omega) (by omega)
  exact hl 59 1 bFU (by decide) (by decide)
