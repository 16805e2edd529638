/-! ===== when a train surely comes, when to listen, which trains (own work) ===== -/
def srH (v : Nat → Nat) (k i : Nat) : Nat := fst1 (fun h => fcN v h false 77 == trN v 77) k i
def sur (v : Nat → Nat) (h : Nat) : Int32 := if trN v 77 = 0 then -2 else if srH v (100 - h) h < 100 then nI (srH v (100 - h) h) else -2
theorem srH_s (v : Nat → Nat) (k i : Nat) : srH v (k + 1) i = if fcN v i false 77 = trN v 77 then i else srH v k (i + 1) := by
  show (if (fcN v i false 77 == trN v 77) = true then i else fst1 _ k (i + 1)) = _
  by_cases e : fcN v i false 77 = trN v 77
  · rw [if_pos (by simp [e]), if_pos e]
  · rw [if_neg (by simp [e]), if_neg e]; rfl
theorem s_sureL {c : Nat} {v : Nat → Nat} {σ : bSto} (hF : FTv c v 77 σ) : ∀ k i n, i + k = 100 → k < n → f_X10_sureFrom_L12 n (c + 15) (nI i) σ = some (if srH v k i < 100 then .inl (nI (srH v k i), σ) else .inr σ) := by
  have hN := trN_le v 77
  intro k
  induction k with
  | zero =>
    intro i n hi hn
    obtain ⟨n, rfl⟩ : ∃ n', n = n' + 1 := ⟨n - 1, by omega⟩
    obtain rfl : i = 100 := by omega
    rw [f_X10_sureFrom_L12, if_pos (by decide)]
    rfl
  | succ k ih =>
    intro i n hi hn
    obtain ⟨n, rfl⟩ : ∃ n', n = n' + 1 := ⟨n - 1, by omega⟩
    have g1 : ¬ 100 ≤ i := by omega
    have h3 := hF.2.2 i (by omega)
    have hm := fcN_le v i false 77
    rw [f_X10_sureFrom_L12, hF.1]
    simp (disch := omega) only [q_lit, q_lt0, q_ge0, q_le, q_lt, q_eq, q_cl, q_add, q_mul, q_div, q_rem, h3, g1, if_false, false_or, or_false, or_self, Nat.not_lt_zero, blet]
    rw [srH_s]
    by_cases e : fcN v i false 77 = trN v 77
    · rw [if_pos e, if_pos e, if_pos (by omega)]
    · rw [if_neg e, if_neg e]
      exact ih (i + 1) n (by omega) (by omega)
theorem s_sureFrom {c : Nat} {v : Nat → Nat} {σ : bSto} (hF : FTv c v 77 σ) {h : Nat} (hh : h < 100) : f_X10_sureFrom (c + 15) (nI h) σ = some (sur v h, σ) := by
  have hN := trN_le v 77
  rw [f_X10_sureFrom, hF.1, s_sureL hF (100 - h) h bFU (by omega) (by show _ < 100000; omega)]
  have e0 : (nI (trN v 77) = (0 : Int32)) = (trN v 77 = 0) := q_eq (a := trN v 77) (b := 0) (by omega) (by omega)
  simp only [e0]
  unfold sur
  by_cases e : trN v 77 = 0
  · rw [if_pos e, if_pos e]
  · rw [if_neg e, if_neg e]
    by_cases g : srH v (100 - h) h < 100
    · rw [if_pos g, if_pos g]; rfl
    · rw [if_neg g, if_neg g]; rfl
theorem s_surelyL {v : Nat → Nat} {σ : bSto} (u : WFr v) (hv : MV v σ) (hN0 : trN v 77 ≠ 0) : ∀ k i n, i + k = 100 → k < n → f_X12_surely_L42 n (nI (trN v 77)) (nI i) σ = some (if srH v k i < 100 then .inl (nI (srH v k i), σ) else .inr σ) := by
  have hN := trN_le v 77
  intro k
  induction k with
  | zero =>
    intro i n hi hn
    obtain ⟨n, rfl⟩ : ∃ n', n = n' + 1 := ⟨n - 1, by omega⟩
    obtain rfl : i = 100 := by omega
    rw [f_X12_surely_L42, if_pos (by decide)]
    rfl
  | succ k ih =>
    intro i n hi hn
    obtain ⟨n, rfl⟩ : ∃ n', n = n' + 1 := ⟨n - 1, by omega⟩
    have g1 : ¬ 100 ≤ i := by omega
    have g2 : ¬ trN v 77 ≤ 0 := by omega
    have hm := fcN_le v i false 77
    rw [f_X12_surely_L42, s_comesM u hv (show i < 100 by omega)]
    simp (disch := omega) only [q_lit, q_lt0, q_ge0, q_le, q_lt, q_eq, q_cl, q_add, q_mul, q_div, q_rem, g1, g2, if_false, blet, bbd]
    rw [srH_s]
    by_cases e : fcN v i false 77 = trN v 77
    · rw [if_pos e, if_pos e, if_pos (by omega)]
    · rw [if_neg e, if_neg e]
      exact ih (i + 1) n (by omega) (by omega)
theorem s_surely0 {σ : bSto} : ∀ k i n, i + k = 100 → k < n → f_X12_surely_L42 n (nI 0) (nI i) σ = some (.inr σ) := by
  intro k
  induction k with
  | zero =>
    intro i n hi hn
    obtain ⟨n, rfl⟩ : ∃ n', n = n' + 1 := ⟨n - 1, by omega⟩
    obtain rfl : i = 100 := by omega
    rw [f_X12_surely_L42, if_pos (by decide)]
  | succ k ih =>
    intro i n hi hn
    obtain ⟨n, rfl⟩ : ∃ n', n = n' + 1 := ⟨n - 1, by omega⟩
    have g1 : ¬ 100 ≤ i := by omega
    rw [f_X12_surely_L42]
    simp (disch := omega) only [q_lit, q_lt0, q_ge0, q_le, q_lt, q_eq, q_cl, q_add, q_mul, q_div, q_rem, g1, if_false, blet, Nat.le_refl, if_true]
    exact ih (i + 1) n (by omega) (by omega)
theorem s_surelyM {v : Nat → Nat} {σ : bSto} (u : WFr v) (hv : MV v σ) {h : Nat} (hh : h < 100) : br0 (f_X12_surely_L42 bFU (nI (trN v 77)) (nI h) σ) (fun v s => some (v, s)) (fun s => some ((-2 : Int32), s)) = some (sur v h, σ) := by
  unfold sur
  by_cases e : trN v 77 = 0
  · rw [if_pos e, e, s_surely0 (100 - h) h bFU (by omega) (by show _ < 100000; omega)]
    rfl
  · rw [if_neg e, s_surelyL u hv e (100 - h) h bFU (by omega) (by show _ < 100000; omega)]
    by_cases g : srH v (100 - h) h < 100
    · rw [if_pos g, if_pos g]; rfl
    · rw [if_neg g, if_neg g]; rfl
/-- how many are left at most by listening at h -/
def lev (v : Nat → Nat) (h : Nat) : Nat := max (fcN v h false 77) (trN v 77 - fcN v h false 77)
theorem lev_le (v : Nat → Nat) (h : Nat) : lev v h ≤ 77 := by
  have := fcN_le v h false 77
  have := trN_le v 77
  unfold lev
  omega
def lisS (v : Nat → Nat) (h b : Nat) : Nat := if lev v h < lev v b then h else b
def lis (v : Nat → Nat) : Nat := itr (lisS v) 99 1 0
theorem s_mostLeft {c : Nat} {v : Nat → Nat} {σ : bSto} (hF : FTv c v 77 σ) {h : Nat} (hh : h < 100) : f_X10_mostLeftBy (c + 15) (nI h) σ = some (nI (lev v h), σ) := by
  have h3 := hF.2.2 h hh
  have hm := fcN_le v h false 77
  have ht := fcN_tr v h 77
  have hN := trN_le v 77
  have g1 : ¬ 100 ≤ h := by omega
  rw [f_X10_mostLeftBy, hF.1]
  simp (disch := omega) only [q_lit, q_lt0, q_ge0, q_le, q_lt, q_eq, q_cl, q_add, q_mul, q_div, q_rem, h3, g1, if_false, false_or, or_false, or_self, Nat.not_lt_zero]
  rw [q_sub ht, s_max]
  simp (disch := omega) only [q_lit, q_lt0, q_ge0, q_le, q_lt, q_eq, q_cl, q_add, q_mul, q_div, q_rem, bbd, lev]
  by_cases e : fcN v h false 77 < trN v 77 - fcN v h false 77
  · rw [if_pos e, Nat.max_eq_right (by omega)]
  · rw [if_neg e, Nat.max_eq_left (by omega)]
theorem s_leavesAt {v : Nat → Nat} {σ : bSto} (u : WFr v) (hv : MV v σ) {h : Nat} (hh : h < 100) : f_X12_leavesAt (nI h) σ = some (nI (lev v h), σ) := by
  have hm := fcN_le v h false 77
  have ht := fcN_tr v h 77
  have hN := trN_le v 77
  rw [f_X12_leavesAt, s_comesM u hv hh]
  simp only [bbd]
  rw [s_trainsM u hv]
  simp only [bbd, blet]
  rw [q_sub ht]
  simp (disch := omega) only [q_lit, q_lt0, q_ge0, q_le, q_lt, q_eq, q_cl, q_add, q_mul, q_div, q_rem, lev]
  by_cases e : fcN v h false 77 ≤ trN v 77 - fcN v h false 77
  · rw [if_pos e, Nat.max_eq_right e]
  · rw [if_neg e, Nat.max_eq_left (by omega)]
theorem lis_lt (v : Nat → Nat) : lis v < 100 := by
  have := itr_bd (lisS v) (fun i b => b < i) 99 1 0 (by decide) (fun j s h1 h2 h3 => by
    show (if lev v j < lev v s then j else s) < j + 1
    split <;> omega)
  exact this
theorem s_bestHourL {c : Nat} {v : Nat → Nat} {σ : bSto} (hF : FTv c v 77 σ) : f_X10_bestHour_L14 bFU (c + 15) (nI 0) (nI 1) σ = some (nI (lis v), σ) := by
  refine lp_inv (fun n i b => f_X10_bestHour_L14 n (c + 15) (nI b) (nI i) σ) 100 (fun b => some (nI b, σ)) (lisS v) (fun i b => b < i ∧ i ≤ 100) ?_ ?_ ?_ 99 1 0 bFU (by decide) (by show 99 < 100000; decide) (by decide)
  · intro n s hs
    show f_X10_bestHour_L14 (n + 1) (c + 15) (nI s) (nI 100) σ = _
    rw [f_X10_bestHour_L14, if_pos (by decide)]
  · intro n i s hi hs
    show f_X10_bestHour_L14 (n + 1) (c + 15) (nI s) (nI i) σ = f_X10_bestHour_L14 n (c + 15) (nI (lisS v i s)) (nI (i + 1)) σ
    have h1 := lev_le v i
    have h2 := lev_le v s
    have g1 : ¬ 100 ≤ i := by omega
    rw [f_X10_bestHour_L14, s_mostLeft hF hi]
    simp only [bbd]
    rw [s_mostLeft hF (show s < 100 by omega)]
    simp (disch := omega) only [q_lit, q_lt0, q_ge0, q_le, q_lt, q_eq, q_cl, q_add, q_mul, q_div, q_rem, g1, if_false, blet]
    unfold lisS
    by_cases e : lev v s ≤ lev v i
    · rw [if_pos e, if_neg (by omega)]
    · rw [if_neg e, if_pos (by omega)]
  · intro i s hi hs
    show (if lev v i < lev v s then i else s) < i + 1 ∧ i + 1 ≤ 100
    split <;> omega
theorem s_bestHour {c : Nat} {v : Nat → Nat} {σ : bSto} (hF : FTv c v 77 σ) : f_X10_bestHour (c + 15) σ = some ((if trN v 77 = 0 then -2 else nI (lis v)), σ) := by
  have hN := trN_le v 77
  have e0 : (nI (trN v 77) = (0 : Int32)) = (trN v 77 = 0) := q_eq (a := trN v 77) (b := 0) (by omega) (by omega)
  rw [f_X10_bestHour, hF.1, show (0 : Int32) = nI 0 from rfl, show (1 : Int32) = nI 1 from rfl, s_bestHourL hF]
  rw [show (nI 0 : Int32) = (0 : Int32) from rfl]
  simp only [e0, bl1]
  exact if_some
theorem s_listenL {v : Nat → Nat} {σ : bSto} (u : WFr v) (hv : MV v σ) : f_X12_listenOf_L22 bFU (nI 0) (nI (lev v 0)) (nI 1) σ = some (nI (lis v), σ) := by
  refine lp_inv (fun n i b => f_X12_listenOf_L22 n (nI b) (nI (lev v b)) (nI i) σ) 100 (fun b => some (nI b, σ)) (lisS v) (fun i b => b < i ∧ i ≤ 100) ?_ ?_ ?_ 99 1 0 bFU (by decide) (by show 99 < 100000; decide) (by decide)
  · intro n s hs
    show f_X12_listenOf_L22 (n + 1) (nI s) (nI (lev v s)) (nI 100) σ = _
    rw [f_X12_listenOf_L22, if_pos (by decide)]
  · intro n i s hi hs
    show f_X12_listenOf_L22 (n + 1) (nI s) (nI (lev v s)) (nI i) σ = f_X12_listenOf_L22 n (nI (lisS v i s)) (nI (lev v (lisS v i s))) (nI (i + 1)) σ
    have h1 := lev_le v i
    have h2 := lev_le v s
    have g1 : ¬ 100 ≤ i := by omega
    rw [f_X12_listenOf_L22, s_leavesAt u hv hi]
    simp (disch := omega) only [q_lit, q_lt0, q_ge0, q_le, q_lt, q_eq, q_cl, q_add, q_mul, q_div, q_rem, g1, if_false, blet, bbd]
    unfold lisS
    by_cases e : lev v i < lev v s
    · rw [if_pos e, if_pos e]
    · rw [if_neg e, if_neg e]
  · intro i s hi hs
    show (if lev v i < lev v s then i else s) < i + 1 ∧ i + 1 ≤ 100
    split <;> omega
theorem s_listenOf {v : Nat → Nat} {σ : bSto} (u : WFr v) (hv : MV v σ) : f_X12_listenOf σ = some ((if trN v 77 = 0 then -2 else nI (lis v)), σ) := by
  have hN := trN_le v 77
  have e0 : (nI (trN v 77) = (0 : Int32)) = (trN v 77 = 0) := q_eq (a := trN v 77) (b := 0) (by omega) (by omega)
  rw [f_X12_listenOf, s_trainsM u hv]
  simp only [bbd, e0]
  rw [show (0 : Int32) = nI 0 from rfl, s_leavesAt u hv (by decide)]
  show (if trN v 77 = 0 then some ((-2 : Int32), σ) else bl1 (f_X12_listenOf_L22 bFU (nI 0) (nI (lev v 0)) (nI 1) σ) _) = _
  rw [s_listenL u hv]
  exact if_some
/-- the trains by their numbers among those that fit: the place of the j-th -/
theorem tr_nth (v : Nat → Nat) (j : Nat) : ∀ n, j < trN v n → ∃ e, e < n ∧ fitE v e = true ∧ trN v e = j
  | 0, h => absurd h (Nat.not_lt_zero j)
  | n + 1, h => by
    have hs : trN v (n + 1) = trN v n + (fitE v n).toNat := rfl
    by_cases g : j < trN v n
    · obtain ⟨e, h1, h2, h3⟩ := tr_nth v j n g
      exact ⟨e, by omega, h2, h3⟩
    · cases hf : fitE v n with
      | false => rw [hs, hf] at h; exact absurd h g
      | true =>
        rw [hs, hf] at h
        have h9 : (true).toNat = 1 := rfl
        exact ⟨n, by omega, hf, by omega⟩
theorem trN_mono (v : Nat → Nat) {a b : Nat} (h : a ≤ b) : trN v a ≤ trN v b := sm_mono_n _ b h
theorem s_trainIn {v : Nat → Nat} {σ : bSto} (u : WFr v) (hv : MV v σ) (x : Int32) {e : Nat} (h1 : 2 ≤ e) (h2 : e ≤ 12) : ∀ k i n, i + k = e → k < n → (∀ d, d < tof e + i → fitE v d = true → nI (trN v d) ≠ x) → ((∀ d, d < tof (e + 1) → fitE v d = true → nI (trN v d) ≠ x) ∧ f_X12_trainAt_L30 n x (nI (trN v (tof e + i))) (nI e) (nI i) σ = some (.inr (x, nI (trN v (tof (e + 1))), nI e, σ))) ∨ ∃ d, d < 77 ∧ fitE v d = true ∧ nI (trN v d) = x ∧ f_X12_trainAt_L30 n x (nI (trN v (tof e + i))) (nI e) (nI i) σ = some (.inl (nI (100 * trE d + trF d), σ)) := by
  have hts := tof_s h1 h2
  intro k
  induction k with
  | zero =>
    intro i n hi hn hd
    obtain ⟨n, rfl⟩ : ∃ n', n = n' + 1 := ⟨n - 1, by omega⟩
    obtain rfl : i = e := by omega
    rw [hts.1] at hd ⊢
    refine Or.inl ⟨hd, ?_⟩
    rw [f_X12_trainAt_L30, if_pos (Int32.le_refl _)]
  | succ k ih =>
    intro i n hi hn hd
    obtain ⟨n, rfl⟩ : ∃ n', n = n' + 1 := ⟨n - 1, by omega⟩
    have ht := tr_at h1 h2 (show i < e by omega)
    have hfe : fitE v (tof e + i) = fit v e i := by rw [fitE, ht.1, ht.2]
    have hs : trN v (tof e + (i + 1)) = trN v (tof e + i) + (fitE v (tof e + i)).toNat := rfl
    have e1 : (nI e ≤ nI i) = False := by rw [q_le (by omega) (by omega)]; exact eq_false (by omega)
    have onei : nI i + (1 : Int32) = nI (i + 1) := q_add i 1
    have onet : nI (trN v (tof e + i)) + (1 : Int32) = nI (trN v (tof e + i) + 1) := q_add _ 1
    have hout : ((100 : Int32) * nI e) + nI i = nI (100 * e + i) := by rw [show (100 : Int32) = nI 100 from rfl, q_mul, q_add]
    rw [f_X12_trainAt_L30, s_doesFit u hv (by omega) h2 (by omega)]
    simp only [bbd, e1, if_false, blet, onei, onet, hout, b2_0]
    cases hc : fit v e i with
    | false =>
      have := ih (i + 1) n (by omega) (by omega) (fun d hd2 hdf => by
        by_cases ed : d = tof e + i
        · rw [ed, hfe, hc] at hdf; cases hdf
        · exact hd d (by omega) hdf)
      rw [hs, hfe, hc] at this
      rw [if_pos rfl]
      exact this
    | true =>
      rw [if_neg (by decide)]
      by_cases ex : nI (trN v (tof e + i)) = x
      · rw [if_pos ex]
        refine Or.inr ⟨tof e + i, by omega, by rw [hfe, hc], ex, ?_⟩
        rw [ht.1, ht.2]
      · rw [if_neg ex]
        have := ih (i + 1) n (by omega) (by omega) (fun d hd2 hdf => by
          by_cases ed : d = tof e + i
          · rw [ed]; exact ex
          · exact hd d (by omega) hdf)
        rw [hs, hfe, hc] at this
        exact this
theorem s_trainAtM {v : Nat → Nat} {σ : bSto} (u : WFr v) (hv : MV v σ) (x : Int32) : ∀ k i n, i + k = 11 → k < n → (∀ d, d < tof (i + 2) → fitE v d = true → nI (trN v d) ≠ x) → ((∀ d, d < 77 → fitE v d = true → nI (trN v d) ≠ x) ∧ f_X12_trainAt_L21 n x (nI (trN v (tof (i + 2)))) (nI (i + 2)) σ = some (.inr σ)) ∨ ∃ d, d < 77 ∧ fitE v d = true ∧ nI (trN v d) = x ∧ f_X12_trainAt_L21 n x (nI (trN v (tof (i + 2)))) (nI (i + 2)) σ = some (.inl (nI (100 * trE d + trF d), σ)) := by
  intro k
  induction k with
  | zero =>
    intro i n hi hn hd
    obtain ⟨n, rfl⟩ : ∃ n', n = n' + 1 := ⟨n - 1, by omega⟩
    obtain rfl : i = 11 := by omega
    refine Or.inl ⟨hd, ?_⟩
    rw [f_X12_trainAt_L21, if_pos (by decide)]
  | succ k ih =>
    intro i n hi hn hd
    obtain ⟨n, rfl⟩ : ∃ n', n = n' + 1 := ⟨n - 1, by omega⟩
    have e1 : ((12 : Int32) < nI (i + 2)) = False := by rw [show (12 : Int32) = nI 12 from rfl, q_lt (by omega) (by omega)]; exact eq_false (by omega)
    have onei : nI (i + 2) + (1 : Int32) = nI (i + 1 + 2) := by rw [show (1 : Int32) = nI 1 from rfl, q_add]
    have hin := s_trainIn u hv x (e := i + 2) (by omega) (by omega) (i + 2) 0 bFU (by omega) (by show _ < 100000; omega) hd
    have hL : f_X12_trainAt_L21 (n + 1) x (nI (trN v (tof (i + 2)))) (nI (i + 2)) σ = br3 (f_X12_trainAt_L30 bFU x (nI (trN v (tof (i + 2) + 0))) (nI (i + 2)) (nI 0) σ) (fun v s => some (.inl (v, s))) (fun x1_2 x2_2 x3_2 σ3 => blet (x3_2 + (1 : Int32)) (fun x3_4 => f_X12_trainAt_L21 n x1_2 x2_2 x3_4 σ3)) := by
      rw [f_X12_trainAt_L21, if_neg (by rw [e1]; exact id)]
      rfl
    rw [hL]
    rcases hin with ⟨h1, h2⟩ | ⟨d, h1, h2, h3, h4⟩
    · rw [h2]
      simp only [br3, blet, onei]
      exact ih (i + 1) n (by omega) (by omega) (by rw [show i + 1 + 2 = i + 2 + 1 by omega]; exact h1)
    · rw [h4]
      exact Or.inr ⟨d, h1, h2, h3, rfl⟩
