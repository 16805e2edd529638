/-! ===== content as a set, free seats, warmth, the warmest, rents, the least heat (own work) ===== -/
theorem seat7 {v seat : Nat → Nat} (w : WF v) (hs : ∀ p, seat p ≤ v 3) : ∀ p, seat p < 7 := fun p => by
  have := hs p
  have := w.2.2.2.1.2
  omega
def cmk (v seat : Nat → Nat) (H : Nat) : Nat := msk (fun p => cnt v seat p H) (v 4)
theorem cmk_lt {v : Nat → Nat} (w : WF v) (seat : Nat → Nat) (H : Nat) : cmk v seat H < 128 := Nat.lt_of_lt_of_le (msk_lt _ _) (Nat.pow_le_pow_right (by decide) w.2.2.2.2.1)
theorem s_contentBits {c n : Nat} {v seat : Nat → Nat} {σ : bSto} (w : WF v) (hh : CVh c v σ) (hf : CVf c v σ) (hC : CN n seat σ) (hs : ∀ p, seat p ≤ v 3) {H : Nat} (hH : H ≤ 60) : f_X7_contentBits c n (nI H) σ = some (nI (cmk v seat H), σ) := by
  have hp7 : v 4 ≤ 7 := w.2.2.2.2.1
  have h : f_X7_contentBits_L5 bFU c n (nI H) (nI 0) (nI 0) σ = some (itr (fun p acc => if cnt v seat p H then acc ||| ((1 : Int32) <<< (nI p &&& 31)) else acc) (v 4) 0 (nI 0), σ) := by
    refine lp_all (fun k i acc => f_X7_contentBits_L5 k c n (nI H) acc (nI i) σ) (v 4) (by omega) (fun acc => some (acc, σ)) _ (nI 0) ?_ ?_
    · intro k s
      show f_X7_contentBits_L5 (k + 1) c n (nI H) s (nI (v 4)) σ = _
      rw [f_X7_contentBits_L5, hf.1, if_pos (Int32.le_refl _)]
    · intro k i s hi
      show f_X7_contentBits_L5 (k + 1) c n (nI H) s (nI i) σ = _
      rw [f_X7_contentBits_L5, hf.1, s_isContent w hh hf hC hs hi hH]
      simp (disch := omega) only [q_lit, q_lt0, q_ge0, q_le, q_lt, q_eq, q_cl, q_add, q_mul, q_div, q_rem, bbd, blet, b2_0n]
      rw [if_neg (by omega)]
      cases cnt v seat i H <;> rfl
  show bl1 (f_X7_contentBits_L5 bFU c n (nI H) (nI 0) (nI 0) σ) _ = _
  rw [h, bl1, itr_msk (fun p => cnt v seat p H) _ (v 4) (by omega) (fun p m _ => rfl)]
  rfl
theorem s_contentOn {a : Nat} {v seat : Nat → Nat} {σ : bSto} (w : WF v) (hv : MV v σ) (hC : MN a seat σ) (hl : 7 ≤ bln a) (hs : ∀ p, seat p ≤ v 3) {H : Nat} (hH : H ≤ 60) : f_X12_contentOn a (nI H) σ = some (nI (cmk v seat H), σ) := by
  have hp7 : v 4 ≤ 7 := w.2.2.2.2.1
  have h : f_X12_contentOn_L5 bFU a (nI H) (nI 0) (nI 0) σ = some (itr (fun p acc => if cnt v seat p H then acc ||| ((1 : Int32) <<< (nI p &&& 31)) else acc ||| 0) (v 4) 0 (nI 0), σ) := by
    refine lp_all (fun k i acc => f_X12_contentOn_L5 k a (nI H) acc (nI i) σ) (v 4) (by omega) (fun acc => some (acc, σ)) _ (nI 0) ?_ ?_
    · intro k s
      show f_X12_contentOn_L5 (k + 1) a (nI H) s (nI (v 4)) σ = _
      rw [f_X12_contentOn_L5, hv.at 4 (by decide) (by decide), if_pos (Int32.le_refl _)]
    · intro k i s hi
      show f_X12_contentOn_L5 (k + 1) a (nI H) s (nI i) σ = _
      rw [f_X12_contentOn_L5, hv.at 4 (by decide) (by decide), s_isContentM w hv hC hl hs hi hH]
      simp (disch := omega) only [q_lit, q_lt0, q_ge0, q_le, q_lt, q_eq, q_cl, q_add, q_mul, q_div, q_rem, bbd, blet, b2_0n, f_X12_contentOn_J36_5]
      rw [if_neg (by omega)]
      cases cnt v seat i H <;> rfl
  show bl1 (f_X12_contentOn_L5 bFU a (nI H) (nI 0) (nI 0) σ) _ = _
  rw [h, bl1, itr_msk (fun p => cnt v seat p H) _ (v 4) (by omega) (fun p m _ => ?_)]
  · rfl
  · cases cnt v seat p H
    · exact Int32.or_zero
    · rfl
theorem pop_le : ∀ n m, pop n m ≤ n
  | 0, _ => Nat.le_refl 0
  | n + 1, m => by
    have := pop_le n (m / 2)
    rw [pop]
    omega
def fre (v seat : Nat → Nat) (b : Nat) : Bool := decide (pop 8 (smk seat b) < v (13 + 4 * b))
theorem s_hasFree {c n : Nat} {v seat : Nat → Nat} {σ : bSto} (w : WF v) (hh : CVh c v σ) (hC : CN n seat σ) (hs : ∀ p, seat p ≤ v 3) {b : Nat} (hb : b < v 3) : f_X7_hasFreeSeat c n (nI b) σ = some (b2 (fre v seat b), σ) := by
  have hb6 : v 3 ≤ 6 := w.2.2.2.1.2
  have hse := (w.2.2.2.2.2.2.2.2.2.2.1 b hb).2.2.1
  rw [f_X7_hasFreeSeat, s_sitters hC (seat7 w hs) (by omega)]
  simp only [bbd]
  rw [s_bitc (smk_lt _ _)]
  have hp := pop_le 8 (smk seat b)
  simp (disch := omega) only [q_lit, q_lt0, q_ge0, q_le, q_lt, q_eq, q_cl, q_add, q_mul, q_div, q_rem, (hh.2.2.2.2.2.2 b hb).2.2.2.1, if_false, false_or]
  rw [if_neg (by omega), fre]
  by_cases h : v (13 + 4 * b) ≤ pop 8 (smk seat b)
  · rw [if_pos h, decide_eq_false (by omega)]; rfl
  · rw [if_neg h, decide_eq_true (by omega)]; rfl
theorem s_isFree {a : Nat} {v seat : Nat → Nat} {σ : bSto} (w : WF v) (hv : MV v σ) (hC : MN a seat σ) (hl : 7 ≤ bln a) (hs : ∀ p, seat p ≤ v 3) (h0 : ∀ p, v 4 ≤ p → seat p = 0) {b : Nat} (hb : b < v 3) : f_X12_isFree a (nI b) σ = some (b2 (fre v seat b), σ) := by
  have hb6 : v 3 ≤ 6 := w.2.2.2.1.2
  have hse := (w.2.2.2.2.2.2.2.2.2.2.1 b hb).2.2.1
  rw [f_X12_isFree, s_onBench hC hl (seat7 w hs) (hv.at 4 (by decide) (by decide)) w.2.2.2.2.1 h0 (by omega)]
  simp only [bbd]
  rw [s_ones (smk_lt _ _)]
  simp only
  rw [s_seatsOf hv (by omega)]
  have hp := pop_le 8 (smk seat b)
  simp (disch := omega) only [q_lit, q_lt0, q_ge0, q_le, q_lt, q_eq, q_cl, q_add, q_mul, q_div, q_rem]
  rw [fre]
  by_cases h : v (13 + 4 * b) ≤ pop 8 (smk seat b)
  · rw [if_pos h, decide_eq_false (by omega)]; rfl
  · rw [if_neg h, decide_eq_true (by omega)]; rfl
def wrm (v seat : Nat → Nat) (b : Nat) : Nat := htv v b (v 2) + 3 * pop 8 (smk seat b)
theorem wrm_lt {v : Nat → Nat} (w : WF v) (seat : Nat → Nat) (b : Nat) : wrm v seat b ≤ 90 := by
  have h1 := htv_lt (v := v) (b := b) (H := v 2) w.2.2.1.2
  have h2 := pop_le 8 (smk seat b)
  unfold wrm
  omega
theorem s_warmth {c n : Nat} {v seat : Nat → Nat} {σ : bSto} (w : WF v) (hh : CVh c v σ) (hC : CN n seat σ) (hs : ∀ p, seat p ≤ v 3) {b : Nat} (hb : b < v 3) : f_X7_warmth c n (nI b) σ = some (nI (wrm v seat b), σ) := by
  have hb6 : v 3 ≤ 6 := w.2.2.2.1.2
  rw [f_X7_warmth, hh.2.2.2.2.2.1, s_heatAlone w hh hb w.2.2.1.2]
  simp only [bbd]
  rw [s_sitters hC (seat7 w hs) (by omega)]
  simp only
  rw [s_bitc (smk_lt _ _)]
  simp (disch := omega) only [q_lit, q_lt0, q_ge0, q_le, q_lt, q_eq, q_cl, q_add, q_mul, q_div, q_rem, wrm]
theorem s_warmthOf {v seat : Nat → Nat} {σ : bSto} (w : WF v) (hv : MV v σ) (hC : MN 97 seat σ) (hs : ∀ p, seat p ≤ v 3) (h0 : ∀ p, v 4 ≤ p → seat p = 0) {b : Nat} (hb : b < v 3) : f_X12_warmthOf (nI b) σ = some (nI (wrm v seat b), σ) := by
  have hb6 : v 3 ≤ 6 := w.2.2.2.1.2
  rw [f_X12_warmthOf, f_X12_heatOf, hv.at 2 (by decide) (by decide), s_heatBy w hv hb w.2.2.1.2]
  simp only [bbd]
  rw [s_onBench hC (by decide) (seat7 w hs) (hv.at 4 (by decide) (by decide)) w.2.2.2.2.1 h0 (by omega)]
  simp only
  rw [s_ones (smk_lt _ _)]
  simp (disch := omega) only [q_lit, q_lt0, q_ge0, q_le, q_lt, q_eq, q_cl, q_add, q_mul, q_div, q_rem, wrm]
/-- the warmest free bench for p: 0 none, b + 1 -/
def wstS (v seat : Nat → Nat) (p b k : Nat) : Nat := if (mayK (v (35 + 4 * p)) (v (11 + 4 * b)) && fre v seat b) = true ∧ (k = 0 ∨ wrm v seat (k - 1) < wrm v seat b) then b + 1 else k
def wst (v seat : Nat → Nat) (p : Nat) : Nat := itr (wstS v seat p) (v 3) 0 0
theorem itr_bd {β : Type} (step : Nat → β → β) (I : Nat → β → Prop) : ∀ (k i : Nat) (s : β), I i s → (∀ j s, i ≤ j → j < i + k → I j s → I (j + 1) (step j s)) → I (i + k) (itr step k i s)
  | 0, i, s, h, _ => h
  | k + 1, i, s, h, hs => by
    rw [itr, show i + (k + 1) = (i + 1) + k by omega]
    exact itr_bd step I k (i + 1) (step i s) (hs i s (Nat.le_refl _) (by omega) h) (fun j s h1 h2 h3 => hs j s (by omega) (by omega) h3)
/-- as lp_run, where the state keeps a property -/
theorem lp_inv {β γ : Type} (F : Nat → Nat → β → Option γ) (N : Nat) (fin : β → Option γ) (step : Nat → β → β) (I : Nat → β → Prop) (h0 : ∀ n s, I N s → F (n + 1) N s = fin s) (hs : ∀ n i s, i < N → I i s → F (n + 1) i s = F n (i + 1) (step i s)) (hI : ∀ i s, i < N → I i s → I (i + 1) (step i s)) : ∀ k i s n, i + k = N → k < n → I i s → F n i s = fin (itr step k i s) := by
  intro k
  induction k with
  | zero =>
    intro i s n hi hn h
    obtain ⟨m, rfl⟩ : ∃ m, n = m + 1 := ⟨n - 1, by omega⟩
    obtain rfl : i = N := by omega
    exact h0 m s h
  | succ k ih =>
    intro i s n hi hn h
    obtain ⟨m, rfl⟩ : ∃ m, n = m + 1 := ⟨n - 1, by omega⟩
    rw [hs m i s (by omega) h, ih (i + 1) (step i s) m (by omega) (by omega) (hI i s (by omega) h)]
    rfl
theorem lp_allI {β γ : Type} (F : Nat → Nat → β → Option γ) (N : Nat) (hN : N < 90000) (fin : β → Option γ) (step : Nat → β → β) (I : Nat → β → Prop) (s : β) (h0 : ∀ n s, I N s → F (n + 1) N s = fin s) (hs : ∀ n i s, i < N → I i s → F (n + 1) i s = F n (i + 1) (step i s)) (hI : ∀ i s, i < N → I i s → I (i + 1) (step i s)) (h : I 0 s) : F bFU 0 s = fin (itr step N 0 s) :=
  lp_inv F N fin step I h0 hs hI N 0 s bFU (by omega) (by show N < 100000; omega) h
theorem wstS_le {v seat : Nat → Nat} {p i s : Nat} (h : s ≤ i) : wstS v seat p i s ≤ i + 1 := by unfold wstS; split <;> omega
def wm (v seat : Nat → Nat) (k : Nat) : Int32 := if k = 0 then -1 else nI (wrm v seat (k - 1))
theorem wm_le {v seat : Nat → Nat} (w : WF v) (b k : Nat) : (nI (wrm v seat b) ≤ wm v seat k) = ¬ (k = 0 ∨ wrm v seat (k - 1) < wrm v seat b) := by
  have h1 := wrm_lt w seat b
  have h2 := wrm_lt w seat (k - 1)
  unfold wm
  by_cases e : k = 0
  · simp only [e, if_true, true_or, not_true]
    apply eq_false
    intro h
    have h3 := Int32.le_iff_toInt_le.mp h
    rw [nI_toInt (by omega)] at h3
    have : ((-1 : Int32)).toInt = -1 := by decide
    omega
  · simp only [e, if_false, false_or, q_le (show wrm v seat b < 2 ^ 31 by omega) (show wrm v seat (k - 1) < 2 ^ 31 by omega), Nat.not_lt]
theorem s_warmestFor {c n : Nat} {v seat : Nat → Nat} {σ : bSto} (w : WF v) (hh : CVh c v σ) (hf : CVf c v σ) (hC : CN n seat σ) (hs : ∀ p, seat p ≤ v 3) {p : Nat} (hp : p < v 4) : f_X7_warmestFor c n (nI p) σ = some (sv (wst v seat p), σ) := by
  have hb6 : v 3 ≤ 6 := w.2.2.2.1.2
  have h : f_X7_warmestFor_L9 bFU c n (nI p) (sv 0) (wm v seat 0) (nI 0) σ = some (sv (wst v seat p), σ) := by
    refine lp_all (fun k i s => f_X7_warmestFor_L9 k c n (nI p) (sv s) (wm v seat s) (nI i) σ) (v 3) (by omega) (fun s => some (sv s, σ)) (wstS v seat p) 0 ?_ ?_
    · intro k s
      show f_X7_warmestFor_L9 (k + 1) c n (nI p) (sv s) (wm v seat s) (nI (v 3)) σ = _
      rw [f_X7_warmestFor_L9, hh.1, if_pos (Int32.le_refl _)]
    · intro k i s hi
      show f_X7_warmestFor_L9 (k + 1) c n (nI p) (sv s) (wm v seat s) (nI i) σ = f_X7_warmestFor_L9 k c n (nI p) (sv (wstS v seat p i s)) (wm v seat (wstS v seat p i s)) (nI (i + 1)) σ
      rw [f_X7_warmestFor_L9, hh.1, s_allows w hh hf hp hi]
      simp only [bbd, blet, s_hasFree w hh hC hs hi, s_warmth w hh hC hs hi]
      simp (disch := omega) only [q_lit, q_lt0, q_ge0, q_le, q_lt, q_eq, q_cl, q_add, q_mul, q_div, q_rem, b2_0n, wm_le w]
      rw [if_neg (by omega), wstS]
      cases h1 : mayK (v (35 + 4 * p)) (v (11 + 4 * i)) with
      | false => simp
      | true =>
        cases h2 : fre v seat i with
        | false => simp
        | true =>
          by_cases h3 : s = 0 ∨ wrm v seat (s - 1) < wrm v seat i
          · simp [h3, sv, wm]
          · simp [h3]
  show bl1 (f_X7_warmestFor_L9 bFU c n (nI p) (sv 0) (wm v seat 0) (nI 0) σ) _ = _
  rw [h, bl1]
