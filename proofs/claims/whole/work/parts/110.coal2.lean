/-! ===== coal: class and reference (own work) ===== -/
theorem mw_lt {v : Nat → Nat} (w : WF v) (seat : Nat → Nat) {m b : Nat} (hm : m ≤ 999) : m * wgt v seat b < 2 ^ 31 := by
  have h2 := Nat.mul_le_mul hm (wgt_lt w seat b)
  omega
theorem s_coalAll {c n : Nat} {v seat : Nat → Nat} {σ : bSto} (w : WF v) (hh : CVh c v σ) (hC : CN n seat σ) (hs : ∀ p, seat p ≤ v 3) (x2 x3 : Int32) : f_X7_coalOf_L6 bFU c n x2 x3 (nI 0) (nI 0) σ = some (c, n, x2, x3, nI (wall v seat), σ) := by
  have hb6 : v 3 ≤ 6 := w.2.2.2.1.2
  refine lp_form (fun k i => f_X7_coalOf_L6 k c n x2 x3 (nI (sm (wgt v seat) i)) (nI i) σ) (v 3) (by omega) _ ?_ ?_
  · intro k
    show f_X7_coalOf_L6 (k + 1) c n x2 x3 (nI (sm (wgt v seat) (v 3))) (nI (v 3)) σ = _
    rw [f_X7_coalOf_L6, hh.1, if_pos (Int32.le_refl _)]
    rfl
  · intro k i hi
    show f_X7_coalOf_L6 (k + 1) c n x2 x3 (nI (sm (wgt v seat) i)) (nI i) σ = f_X7_coalOf_L6 k c n x2 x3 (nI (sm (wgt v seat) (i + 1))) (nI (i + 1)) σ
    rw [f_X7_coalOf_L6, hh.1, s_coalWeight w hh hC hs hi]
    simp (disch := omega) only [q_lit, q_lt0, q_ge0, q_le, q_lt, q_eq, q_cl, q_add, q_mul, q_div, q_rem, bbd, blet]
    rw [if_neg (by omega)]
    rfl
theorem s_coalPaid {c n : Nat} {v seat : Nat → Nat} {σ : bSto} (w : WF v) (hh : CVh c v σ) (hC : CN n seat σ) (hs : ∀ p, seat p ≤ v 3) (x2 : Int32) {m : Nat} (hm : m ≤ 999) (hW : 0 < wall v seat) : f_X7_coalOf_L49 bFU c n x2 (nI m) (nI (wall v seat)) (nI m) (nI 0) σ = some (c, n, x2, nI m, nI (wall v seat), nI (clf v seat m), σ) := by
  have hb6 : v 3 ≤ 6 := w.2.2.2.1.2
  have hWl : wall v seat ≤ 2520 := wall_lt w seat _ hb6
  refine lp_form (fun k i => f_X7_coalOf_L49 k c n x2 (nI m) (nI (wall v seat)) (nI (m - sm (cq v seat m) i)) (nI i) σ) (v 3) (by omega) _ ?_ ?_
  · intro k
    show f_X7_coalOf_L49 (k + 1) c n x2 (nI m) (nI (wall v seat)) (nI (m - sm (cq v seat m) (v 3))) (nI (v 3)) σ = _
    rw [f_X7_coalOf_L49, hh.1, if_pos (Int32.le_refl _)]
    rfl
  · intro k i hi
    show f_X7_coalOf_L49 (k + 1) c n x2 (nI m) (nI (wall v seat)) (nI (m - sm (cq v seat m) i)) (nI i) σ = f_X7_coalOf_L49 k c n x2 (nI m) (nI (wall v seat)) (nI (m - sm (cq v seat m) (i + 1))) (nI (i + 1)) σ
    have hc := cq_le v seat m hW (show i + 1 ≤ v 3 by omega)
    have hmw := mw_lt w seat (b := i) hm
    have hs1 : sm (cq v seat m) (i + 1) = sm (cq v seat m) i + m * wgt v seat i / wall v seat := rfl
    rw [hs1] at hc
    rw [f_X7_coalOf_L49, hh.1, s_coalWeight w hh hC hs hi, hs1]
    simp (disch := omega) only [q_lit, q_lt0, q_ge0, q_le, q_lt, q_eq, q_cl, q_add, q_mul, q_div, q_rem, bbd, blet]
    rw [if_neg (by omega), if_neg (by omega), q_sub (by omega), show m - sm (cq v seat m) i - m * wgt v seat i / wall v seat = m - (sm (cq v seat m) i + m * wgt v seat i / wall v seat) by omega]
theorem s_coalRank {c n : Nat} {v seat : Nat → Nat} {σ : bSto} (w : WF v) (hh : CVh c v σ) (hC : CN n seat σ) (hs : ∀ p, seat p ≤ v 3) {b m : Nat} (hb : b < v 3) (hm : m ≤ 999) (hW : 0 < wall v seat) (x5 : Int32) : f_X7_coalOf_L100 bFU c n (nI b) (nI m) (nI (wall v seat)) x5 (nI (m * wgt v seat b)) (nI 0) (nI 0) σ = some (nI (wall v seat), x5, nI (m * wgt v seat b), nI (abf (cr v seat m) (v 3) b), σ) := by
  have hb6 : v 3 ≤ 6 := w.2.2.2.1.2
  have hWl : wall v seat ≤ 2520 := wall_lt w seat _ hb6
  have hmb := mw_lt w seat (b := b) hm
  refine lp_form (fun k i => f_X7_coalOf_L100 k c n (nI b) (nI m) (nI (wall v seat)) x5 (nI (m * wgt v seat b)) (nI (abf (cr v seat m) i b)) (nI i) σ) (v 3) (by omega) _ ?_ ?_
  · intro k
    show f_X7_coalOf_L100 (k + 1) c n (nI b) (nI m) (nI (wall v seat)) x5 (nI (m * wgt v seat b)) (nI (abf (cr v seat m) (v 3) b)) (nI (v 3)) σ = _
    rw [f_X7_coalOf_L100, hh.1, if_pos (Int32.le_refl _)]
  · intro k i hi
    show f_X7_coalOf_L100 (k + 1) c n (nI b) (nI m) (nI (wall v seat)) x5 (nI (m * wgt v seat b)) (nI (abf (cr v seat m) i b)) (nI i) σ = f_X7_coalOf_L100 k c n (nI b) (nI m) (nI (wall v seat)) x5 (nI (m * wgt v seat b)) (nI (abf (cr v seat m) (i + 1) b)) (nI (i + 1)) σ
    have hmi := mw_lt w seat (b := i) hm
    have hs1 : abf (cr v seat m) (i + 1) b = abf (cr v seat m) i b + (bef (cr v seat m) i b).toNat := rfl
    have hr1 : cr v seat m i < wall v seat := Nat.mod_lt _ hW
    have hr2 : cr v seat m b < wall v seat := Nat.mod_lt _ hW
    have e1 : m * wgt v seat i % wall v seat = cr v seat m i := rfl
    have e2 : m * wgt v seat b % wall v seat = cr v seat m b := rfl
    rw [f_X7_coalOf_L100, hh.1, s_coalWeight w hh hC hs hi, hs1]
    have hW0 : (wall v seat = 0) = False := eq_false (by omega)
    simp (disch := omega) only [q_lit, q_lt0, q_ge0, q_le, q_lt, q_eq, q_cl, q_add, q_mul, q_div, q_rem, bbd, blet, f_X7_coalOf_J152_100, e1, e2, hW0, if_false]
    rw [if_neg (by omega)]
    by_cases h1 : cr v seat m b < cr v seat m i
    · rw [if_pos h1, show bef (cr v seat m) i b = true from decide_eq_true (Or.inl h1)]
      rfl
    · rw [if_neg h1]
      by_cases h2 : cr v seat m i = cr v seat m b
      · rw [if_pos h2]
        by_cases h3 : b ≤ i
        · rw [if_pos h3, show bef (cr v seat m) i b = false from decide_eq_false (by omega)]
          rfl
        · rw [if_neg h3, show bef (cr v seat m) i b = true from decide_eq_true (by omega)]
          rfl
      · rw [if_neg h2, show bef (cr v seat m) i b = false from decide_eq_false (by omega)]
        rfl
theorem s_coalOf {c n : Nat} {v seat : Nat → Nat} {σ : bSto} (w : WF v) (hh : CVh c v σ) (hC : CN n seat σ) (hs : ∀ p, seat p ≤ v 3) {b m : Nat} (hb : b < v 3) (hm : m ≤ 999) : f_X7_coalOf c n (nI b) (nI m) σ = some (nI (coa v seat m b), σ) := by
  have hb6 : v 3 ≤ 6 := w.2.2.2.1.2
  have hWl : wall v seat ≤ 2520 := wall_lt w seat _ hb6
  have hmb := mw_lt w seat (b := b) hm
  rw [f_X7_coalOf, show (0 : Int32) = nI 0 from rfl, s_coalAll w hh hC hs]
  simp only [bl5]
  by_cases hW : 0 < wall v seat
  · have hab : abf (cr v seat m) (v 3) b ≤ v 3 := sm_le _ (fun i => by cases bef (cr v seat m) i b <;> decide) _
    have hcl := clf_lt v seat m hW (by omega)
    simp (disch := omega) only [q_lit, q_lt0, q_ge0, q_le, q_lt, q_eq, q_cl, q_add, q_mul, q_div, q_rem]
    rw [if_pos hW, s_coalPaid w hh hC hs _ hm hW]
    simp only [bl6, s_coalWeight w hh hC hs hb, bbd, blet, q_mul, s_coalRank w hh hC hs hb hm hW, bl4]
    have hW0 : (wall v seat = 0) = False := eq_false (by omega)
    simp (disch := omega) only [q_lit, q_lt0, q_ge0, q_le, q_lt, q_eq, q_cl, q_add, q_mul, q_div, q_rem, hW0, if_false]
    simp only [coa, hW0, if_false]
    by_cases h : abf (cr v seat m) (v 3) b < clf v seat m
    · rw [if_neg (by omega), decide_eq_true h]
      rfl
    · rw [if_pos (by omega), decide_eq_false h]
      rfl
  · simp (disch := omega) only [q_lit, q_lt0, q_ge0, q_le, q_lt, q_eq, q_cl, q_add, q_mul, q_div, q_rem]
    rw [if_neg hW, coa, if_pos (by omega)]
theorem s_coalAllM {v seat : Nat → Nat} {σ : bSto} (w : WF v) (hv : MV v σ) (hC : MN 97 seat σ) (hs : ∀ p, seat p ≤ v 3) (h0 : ∀ p, v 4 ≤ p → seat p = 0) (x1 x2 : Int32) : f_X12_coal_L40 bFU x1 x2 (nI 0) (nI 0) σ = some (x1, x2, nI (wall v seat), σ) := by
  have hb6 : v 3 ≤ 6 := w.2.2.2.1.2
  refine lp_form (fun k i => f_X12_coal_L40 k x1 x2 (nI (sm (wgt v seat) i)) (nI i) σ) (v 3) (by omega) _ ?_ ?_
  · intro k
    show f_X12_coal_L40 (k + 1) x1 x2 (nI (sm (wgt v seat) (v 3))) (nI (v 3)) σ = _
    rw [f_X12_coal_L40, hv.at 3 (by decide) (by decide), if_pos (Int32.le_refl _)]
    rfl
  · intro k i hi
    show f_X12_coal_L40 (k + 1) x1 x2 (nI (sm (wgt v seat) i)) (nI i) σ = f_X12_coal_L40 k x1 x2 (nI (sm (wgt v seat) (i + 1))) (nI (i + 1)) σ
    rw [f_X12_coal_L40, hv.at 3 (by decide) (by decide), s_weightOf w hv hC hs h0 hi]
    simp (disch := omega) only [q_lit, q_lt0, q_ge0, q_le, q_lt, q_eq, q_cl, q_add, q_mul, q_div, q_rem, bbd, blet]
    rw [if_neg (by omega)]
    rfl
/-- the place where the reference keeps the parts -/
def B103 : Nat → Nat → Prop := fun a _ => a = 103
theorem s_coalPartsM {v seat : Nat → Nat} (w : WF v) (hs : ∀ p, seat p ≤ v 3) (h0 : ∀ p, v 4 ≤ p → seat p = 0) (x1 : Int32) {m : Nat} (hm : m ≤ 999) (hW : 0 < wall v seat) : ∀ k i n σ, i + k = v 3 → k < n → MV v σ → MN 97 seat σ → (∀ j, j < i → σ.1 103 j = nI (cq v seat m j)) → ∃ τ, f_X12_coal_L78 n x1 (nI m) (nI (wall v seat)) (nI (m - sm (cq v seat m) i)) (nI i) σ = some (x1, nI m, nI (wall v seat), nI (clf v seat m), τ) ∧ AO B103 σ τ ∧ ∀ j, j < v 3 → τ.1 103 j = nI (cq v seat m j) := by
  have hb6 : v 3 ≤ 6 := w.2.2.2.1.2
  have hWl : wall v seat ≤ 2520 := wall_lt w seat _ hb6
  intro k
  induction k with
  | zero =>
    intro i n σ hi hn hv hC hP
    obtain ⟨n, rfl⟩ : ∃ n', n = n' + 1 := ⟨n - 1, by omega⟩
    obtain rfl : i = v 3 := by omega
    refine ⟨σ, ?_, AO.refl _ _, hP⟩
    rw [f_X12_coal_L78, hv.at 3 (by decide) (by decide), if_pos (Int32.le_refl _)]
    rfl
  | succ k ih =>
    intro i n σ hi hn hv hC hP
    obtain ⟨n, rfl⟩ : ∃ n', n = n' + 1 := ⟨n - 1, by omega⟩
    have hc := cq_le v seat m hW (show i + 1 ≤ v 3 by omega)
    have hmw := mw_lt w seat (b := i) hm
    have hs1 : sm (cq v seat m) (i + 1) = sm (cq v seat m) i + m * wgt v seat i / wall v seat := rfl
    have hA : AO B103 σ (bI σ 103 i (nI (cq v seat m i))) := AO.set σ _ rfl
    obtain ⟨τ, h1, h2, h3⟩ := ih (i + 1) n (bI σ 103 i (nI (cq v seat m i))) (by omega) (by omega) (hv.ao hA (fun _ (h : (95 : Nat) = 103) => by omega)) (hC.ao hA (fun _ (h : (97 : Nat) = 103) => by omega)) (by
      intro j hj
      rw [bI_at]
      by_cases e : j = i
      · rw [if_pos ⟨rfl, e⟩, e]
      · rw [if_neg (by simp [e]), hP j (by omega)])
    refine ⟨τ, ?_, hA.trans h2, h3⟩
    rw [← h1, hs1]
    rw [hs1] at hc
    rw [f_X12_coal_L78, hv.at 3 (by decide) (by decide), s_weightOf w hv hC hs h0 (by omega)]
    simp (disch := omega) only [q_lit, q_lt0, q_ge0, q_le, q_lt, q_eq, q_cl, q_add, q_mul, q_div, q_rem, bbd, blet]
    rw [if_neg (by omega), if_neg (by omega), if_neg (by omega), if_neg (by omega), show m * wgt v seat i / wall v seat = cq v seat m i from rfl, bI_eq, q_sub (by show m * wgt v seat i / wall v seat ≤ _; omega)]
    rw [show m - sm (cq v seat m) i - cq v seat m i = m - (sm (cq v seat m) i + cq v seat m i) by omega]
def bv (k : Nat) : Int32 := if k = 0 then -1 else nI (k - 1)
theorem bv_lt0_all : ∀ k : Fin 8, (bv k.val < nI 0) = (k.val = 0) := by decide +kernel
theorem bv_lt0 {k : Nat} (hk : k < 8) : (bv k < nI 0) = (k = 0) := bv_lt0_all ⟨k, hk⟩
theorem selS_le {G : Nat → Bool} {r : Nat → Nat} {i s : Nat} (h : s ≤ i) : selS G r i s ≤ i + 1 := by unfold selS; split <;> omega
theorem s_coalSel {v seat : Nat → Nat} {σ : bSto} (w : WF v) (hv : MV v σ) (hC : MN 97 seat σ) (hs : ∀ p, seat p ≤ v 3) (h0 : ∀ p, v 4 ≤ p → seat p = 0) (x1 x4 : Int32) {m : Nat} (hm : m ≤ 999) (hW : 0 < wall v seat) (G : Nat → Bool) : f_X12_coal_L138 bFU x1 (nI m) (nI (wall v seat)) x4 (nI (msk G (v 3))) (-1) (nI 0) σ = some (x1, nI m, nI (wall v seat), x4, nI (msk G (v 3)), bv (sel G (cr v seat m) (v 3)), σ) := by
  have hb6 : v 3 ≤ 6 := w.2.2.2.1.2
  have hWl : wall v seat ≤ 2520 := wall_lt w seat _ hb6
  have hG : msk G (v 3) < 128 := Nat.lt_of_lt_of_le (msk_lt _ _) (Nat.pow_le_pow_right (by decide) (show v 3 ≤ 7 by omega))
  refine lp_allI (fun k i s => f_X12_coal_L138 k x1 (nI m) (nI (wall v seat)) x4 (nI (msk G (v 3))) (bv s) (nI i) σ) (v 3) (by omega) (fun s => some (x1, nI m, nI (wall v seat), x4, nI (msk G (v 3)), bv s, σ)) (selS G (cr v seat m)) (fun i s => s ≤ i) 0 ?_ ?_ (fun i s _ h => selS_le h) (Nat.le_refl _)
  · intro k s _
    show f_X12_coal_L138 (k + 1) x1 (nI m) (nI (wall v seat)) x4 (nI (msk G (v 3))) (bv s) (nI (v 3)) σ = _
    rw [f_X12_coal_L138, hv.at 3 (by decide) (by decide), if_pos (Int32.le_refl _)]
  · intro k i s hi hsi
    show f_X12_coal_L138 (k + 1) x1 (nI m) (nI (wall v seat)) x4 (nI (msk G (v 3))) (bv s) (nI i) σ = f_X12_coal_L138 k x1 (nI m) (nI (wall v seat)) x4 (nI (msk G (v 3))) (bv (selS G (cr v seat m) i s)) (nI (i + 1)) σ
    have hmi := mw_lt w seat (b := i) hm
    have e1 : m * wgt v seat i % wall v seat = cr v seat m i := rfl
    have hr1 : cr v seat m i < wall v seat := Nat.mod_lt _ hW
    have htb : (msk G (v 3)).testBit i = G i := by rw [tb_msk]; simp [hi]
    rw [f_X12_coal_L138, hv.at 3 (by decide) (by decide), s_hasBit hG (by omega)]
    simp (disch := omega) only [q_lit, q_lt0, q_ge0, q_le, q_lt, q_eq, q_cl, q_add, q_mul, q_div, q_rem, bbd, blet, b2_0n, htb, f_X12_coal_J187_138, bv_lt0 (show s < 8 by omega), s_weightOf w hv hC hs h0 hi]
    rw [if_neg (by omega), selS]
    cases hg : G i with
    | true => simp
    | false =>
      by_cases es : s = 0
      · simp [es, bv]
      · rw [if_pos rfl, if_neg es, show bv s = nI (s - 1) by rw [bv, if_neg es], s_weightOf w hv hC hs h0 (show s - 1 < v 3 by omega)]
        have hms := mw_lt w seat (b := s - 1) hm
        have e2 : m * wgt v seat (s - 1) % wall v seat = cr v seat m (s - 1) := rfl
        have hr2 : cr v seat m (s - 1) < wall v seat := Nat.mod_lt _ hW
        simp only []
        simp (disch := omega) only [q_lit, q_lt0, q_ge0, q_le, q_lt, q_eq, q_cl, q_add, q_mul, q_div, q_rem, e1, e2]
        rw [if_neg (by omega), if_neg (by omega)]
        by_cases h : cr v seat m (s - 1) < cr v seat m i
        · rw [if_neg (by omega), if_pos (by simp [h])]
          rfl
        · rw [if_pos (by omega), if_neg (by simp [h, es]), bv, if_neg es]
theorem sm_or (G : Nat → Bool) {b : Nat} (hb : G b = false) : ∀ n, b < n → sm (fun i => (G i || i == b).toNat) n = sm (fun i => (G i).toNat) n + 1
  | 0, h => by omega
  | n + 1, h => by
    rw [sm, sm]
    by_cases e : b = n
    · subst e
      rw [show sm (fun i => (G i || i == b).toNat) b = sm (fun i => (G i).toNat) b from sm_congr _ (fun i hi => by show (G i || i == b).toNat = (G i).toNat; rw [beq_eq_false_iff_ne.mpr (show i ≠ b by omega), Bool.or_false]), hb]
      simp
    · rw [sm_or G hb n (by omega)]
      show sm (fun i => (G i).toNat) n + 1 + (G n || n == b).toNat = sm (fun i => (G i).toNat) n + (G n).toNat + 1
      rw [beq_eq_false_iff_ne.mpr (show n ≠ b from fun z => e z.symm), Bool.or_false]
      omega
theorem s_coalGive {v seat : Nat → Nat} (w : WF v) (hs : ∀ p, seat p ≤ v 3) (h0 : ∀ p, v 4 ≤ p → seat p = 0) (x1 : Int32) {m : Nat} (hm : m ≤ 999) (hW : 0 < wall v seat) : ∀ k n (G : Nat → Bool) σ, k < n → sm (fun i => (G i).toNat) (v 3) + k = clf v seat m → (∀ i j, i < v 3 → j < v 3 → G i = true → G j = false → bef (cr v seat m) i j = true) → MV v σ → MN 97 seat σ → (∀ j, j < v 3 → σ.1 103 j = nI (cq v seat m j + (G j).toNat)) → ∃ τ, f_X12_coal_L127 n x1 (nI m) (nI (wall v seat)) (nI k) (nI (msk G (v 3))) σ = some (x1, τ) ∧ AO B103 σ τ ∧ ∀ j, j < v 3 → τ.1 103 j = nI (coa v seat m j) := by
  have hb6 : v 3 ≤ 6 := w.2.2.2.1.2
  have h3 : 0 < v 3 := w.2.2.2.1.1
  have hcl := clf_lt v seat m hW h3
  intro k
  induction k with
  | zero =>
    intro n G σ hn hk hG hv hC hP
    obtain ⟨n, rfl⟩ : ∃ n', n = n' + 1 := ⟨n - 1, by omega⟩
    refine ⟨σ, ?_, AO.refl _ _, fun j hj => ?_⟩
    · rw [f_X12_coal_L127, if_pos (by decide)]
    · rw [hP j hj, coa, if_neg (by omega), abf_iff (cr v seat m) (v 3) G hG hj, show sm (fun i => (G i).toNat) (v 3) = clf v seat m by omega]
  | succ k ih =>
    intro n G σ hn hk hG hv hC hP
    obtain ⟨n, rfl⟩ : ∃ n', n = n' + 1 := ⟨n - 1, by omega⟩
    rw [f_X12_coal_L127, show (0 : Int32) = nI 0 from rfl, if_neg (show ¬ nI (k + 1) ≤ nI 0 by rw [q_le (by omega) (by decide)]; omega), s_coalSel w hv hC hs h0 x1 _ hm hW G]
    simp only [bl6, blet]
    rcases sel_ok G (cr v seat m) (v 3) with ⟨-, h2⟩ | ⟨h1, h2, h4, h5⟩
    · exfalso
      have : sm (fun i => (G i).toNat) (v 3) = v 3 := by
        rw [sm_congr (v 3) (g := fun _ => 1) (fun i hi => by rw [h2 i hi]; rfl)]
        have hz : ∀ n, sm (fun _ => 1) n = n := by
          intro n
          induction n with
          | zero => rfl
          | succ n ih => rw [sm, ih]
        exact hz _
      omega
    · generalize hb : sel G (cr v seat m) (v 3) - 1 = b at h4 h5
      have hb3 : b < v 3 := by omega
      rw [bv, if_neg h1, hb, shl_nI (by omega), or_nI, msk_or G hb3]
      simp (disch := omega) only [q_lit, q_lt0, q_ge0, q_le, q_lt, q_eq, q_cl, q_add, q_mul, q_div, q_rem, if_false, false_or]
      rw [if_neg (by omega), if_neg (by omega), dec_nI (by omega), hP b hb3, h4, show k + 1 - 1 = k from rfl, q_add]
      have hA : AO B103 σ (bI σ 103 b (nI (cq v seat m b + false.toNat + 1))) := AO.set σ _ rfl
      obtain ⟨τ, g1, g2, g3⟩ := ih n (fun q => G q || q == b) (bI σ 103 b (nI (cq v seat m b + false.toNat + 1))) (by omega) (by rw [sm_or G h4 _ hb3]; omega) (by
        intro i j hi hj hgi hgj
        simp only [Bool.or_eq_true, Bool.or_eq_false_iff, beq_iff_eq, beq_eq_false_iff_ne] at hgi hgj
        by_cases e : i = b
        · subst e
          exact h5 j hj hgj.1 hgj.2
        · exact hG i j hi hj (by rcases hgi with h | h; exact h; exact absurd h e) hgj.1) (hv.ao hA (fun _ (h : (95 : Nat) = 103) => by omega)) (hC.ao hA (fun _ (h : (97 : Nat) = 103) => by omega)) (by
        intro j hj
        rw [bI_at]
        by_cases e : j = b
        · rw [if_pos ⟨rfl, e⟩, e]; simp
        · rw [if_neg (by simp [e]), hP j hj, beq_eq_false_iff_ne.mpr e, Bool.or_false])
      exact ⟨τ, g1, hA.trans g2, g3⟩
