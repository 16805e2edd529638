/-! ===== trains (own work) ===== -/
theorem b2_1r (b : Bool) : (nI 1 = b2 b) = (b = true) := by cases b <;> decide
theorem b2_0r (b : Bool) : (nI 0 = b2 b) = (b = false) := by cases b <;> decide
/-- the trains in their order: which interval, which first hour -/
def tof (e : Nat) : Nat := e * (e - 1) / 2 - 1
def trE (i : Nat) : Nat := fst1 (fun e => decide (i < tof (e + 1))) 11 2
def trF (i : Nat) : Nat := i - tof (trE i)
theorem tr_all : ∀ e : Fin 13, ∀ f : Fin 13, 2 ≤ e.val → f.val < e.val → trE (tof e.val + f.val) = e.val ∧ trF (tof e.val + f.val) = f.val := by decide +kernel
theorem tr_at {e f : Nat} (h1 : 2 ≤ e) (h2 : e ≤ 12) (h3 : f < e) : trE (tof e + f) = e ∧ trF (tof e + f) = f := tr_all ⟨e, by omega⟩ ⟨f, by omega⟩ h1 h3
theorem tr_b_all : ∀ i : Fin 77, 2 ≤ trE i.val ∧ trE i.val ≤ 12 ∧ trF i.val < trE i.val := by decide +kernel
theorem tr_b {i : Nat} (h : i < 77) : 2 ≤ trE i ∧ trE i ≤ 12 ∧ trF i < trE i := tr_b_all ⟨i, h⟩
theorem tof_s_all : ∀ e : Fin 13, 2 ≤ e.val → tof e.val + e.val = tof (e.val + 1) ∧ tof (e.val + 1) ≤ 77 := by decide +kernel
theorem tof_s {e : Nat} (h1 : 2 ≤ e) (h2 : e ≤ 12) : tof e + e = tof (e + 1) ∧ tof (e + 1) ≤ 77 := tof_s_all ⟨e, by omega⟩ h1
/-- does a train fit what was told of hour h; of all hours -/
def fitH (v : Nat → Nat) (e f h : Nat) : Bool := (!(v (126 + h) == 1) || h % e == f) && (!(v (126 + h) == 2) || !(h % e == f))
def fit (v : Nat → Nat) (e f : Nat) : Bool := allB (fitH v e f) 100 0
def WFr (v : Nat → Nat) : Prop := ∀ h, h < 100 → v (126 + h) ≤ 2
theorem s_comesAt {e f h : Nat} (he : 0 < e) (he2 : e ≤ 12) (hf : f < e) (hh : h < 100) (σ : bSto) : f_X12_comesAt (nI e) (nI f) (nI h) σ = some (b2 (h % e == f), σ) := by
  have hm := Nat.mod_lt h he
  rw [f_X12_comesAt]
  simp (disch := omega) only [q_lit, q_lt0, q_ge0, q_le, q_lt, q_eq, q_cl, q_add, q_mul, q_div, q_rem]
  rw [if_neg (by omega)]
  by_cases g : h % e = f
  · rw [if_pos g, show (h % e == f) = true by simp [g]]; rfl
  · rw [if_neg g, show (h % e == f) = false by simp [g]]; rfl
theorem s_doesFit {v : Nat → Nat} {σ : bSto} (u : WFr v) (hv : MV v σ) {e f : Nat} (he : 0 < e) (he2 : e ≤ 12) (hf : f < e) : f_X12_doesFit (nI e) (nI f) σ = some (b2 (fit v e f), σ) := by
  have h : f_X12_doesFit_L5 bFU (nI e) (nI f) (b2 true) (nI 0) σ = some (b2 (itr (fun h acc => acc && fitH v e f h) 100 0 true), σ) := by
    refine lp_all (fun n i acc => f_X12_doesFit_L5 n (nI e) (nI f) (b2 acc) (nI i) σ) 100 (by decide) (fun acc => some (b2 acc, σ)) _ true ?_ ?_
    · intro n s
      show f_X12_doesFit_L5 (n + 1) (nI e) (nI f) (b2 s) (nI 100) σ = _
      rw [f_X12_doesFit_L5, if_pos (by decide)]
    · intro n i s hi
      show f_X12_doesFit_L5 (n + 1) (nI e) (nI f) (b2 s) (nI i) σ = f_X12_doesFit_L5 n (nI e) (nI f) (b2 (s && fitH v e f i)) (nI (i + 1)) σ
      have hu := u i hi
      have hn : ¬ 406 ≤ 126 + i := by omega
      have hn2 : ¬ 100 ≤ i := by omega
      rw [f_X12_doesFit_L5]
      simp only [f_X12_doesFit_J68_5, f_X12_doesFit_J40_5, s_comesAt he he2 hf hi, bbd, blet]
      simp (disch := omega) only [q_lit, q_lt0, q_ge0, q_le, q_lt, q_eq, q_cl, q_add, q_mul, q_div, q_rem, if_false, false_or, or_false, or_self, Nat.not_lt_zero, b2_0n, hn, hn2]
      rw [hv.at (126 + i) (by omega) (by omega)]
      simp (disch := omega) only [q_lit, q_lt0, q_ge0, q_le, q_lt, q_eq, q_cl, q_add, q_mul, q_div, q_rem]
      cases s with
      | false => rfl
      | true =>
        rw [Bool.true_and, fitH]
        generalize (i % e == f) = g
        rcases (by omega : v (126 + i) = 0 ∨ v (126 + i) = 1 ∨ v (126 + i) = 2) with h | h | h <;> rw [h] <;> cases g <;> rfl
  show bl1 (f_X12_doesFit_L5 bFU (nI e) (nI f) (b2 true) (nI 0) σ) _ = _
  rw [h, itr_and, Bool.true_and, bl1]
  simp only [b2_z, if_true]
  rfl
def fcE (v : Nat → Nat) (h : Nat) (all : Bool) (i : Nat) : Bool := fit v (trE i) (trF i) && (all || h % trE i == trF i)
/-- how many of the first n trains fit (and come at h) -/
def fcN (v : Nat → Nat) (h : Nat) (all : Bool) : Nat → Nat := sm (fun i => (fcE v h all i).toNat)
theorem fcN_le (v : Nat → Nat) (h : Nat) (all : Bool) (n : Nat) : fcN v h all n ≤ n := sm_le _ (fun i => by cases fcE v h all i <;> decide) n
theorem fcN_s (v : Nat → Nat) (h : Nat) (all : Bool) {e i : Nat} (h1 : 2 ≤ e) (h2 : e ≤ 12) (h3 : i < e) : fcN v h all (tof e + (i + 1)) = fcN v h all (tof e + i) + (fit v e i && (all || h % e == i)).toNat := by
  have ht := tr_at h1 h2 h3
  show fcN v h all (tof e + i) + (fcE v h all (tof e + i)).toNat = _
  rw [fcE, ht.1, ht.2]
theorem s_fitIn {v : Nat → Nat} {σ : bSto} (u : WFr v) (hv : MV v σ) {h e : Nat} (hh : h < 100) (all : Bool) (h1 : 2 ≤ e) (h2 : e ≤ 12) : f_X12_fitting_L15 bFU (nI h) (b2 all) (nI (fcN v h all (tof e))) (nI e) (nI 0) σ = some (nI h, b2 all, nI (fcN v h all (tof (e + 1))), nI e, σ) := by
  refine lp_form (fun n i => f_X12_fitting_L15 n (nI h) (b2 all) (nI (fcN v h all (tof e + i))) (nI e) (nI i) σ) e (by omega) _ ?_ ?_
  · intro n
    show f_X12_fitting_L15 (n + 1) (nI h) (b2 all) (nI (fcN v h all (tof e + e))) (nI e) (nI e) σ = _
    rw [f_X12_fitting_L15, if_pos (Int32.le_refl _), (tof_s h1 h2).1]
  · intro n i hi
    show f_X12_fitting_L15 (n + 1) (nI h) (b2 all) (nI (fcN v h all (tof e + i))) (nI e) (nI i) σ = f_X12_fitting_L15 n (nI h) (b2 all) (nI (fcN v h all (tof e + (i + 1)))) (nI e) (nI (i + 1)) σ
    have hn : ¬ e ≤ i := by omega
    rw [fcN_s v h all h1 h2 hi, f_X12_fitting_L15, s_doesFit u hv (by omega) (by omega) hi]
    simp only [f_X12_fitting_J54_15, f_X12_fitting_J53_15, s_comesAt (show 0 < e by omega) h2 hi hh, bbd, blet]
    simp (disch := omega) only [q_lit, q_lt0, q_ge0, q_le, q_lt, q_eq, q_cl, q_add, q_mul, q_div, q_rem, b2_0n, hn, if_false]
    cases fit v e i <;> cases all <;> cases (h % e == i) <;> rfl
theorem s_fitting {v : Nat → Nat} {σ : bSto} (u : WFr v) (hv : MV v σ) {h : Nat} (hh : h < 100) (all : Bool) : f_X12_fitting (nI h) (b2 all) σ = some (nI (fcN v h all 77), σ) := by
  have hl : f_X12_fitting_L5 bFU (nI h) (b2 all) (nI (fcN v h all (tof (0 + 2)))) (nI (0 + 2)) σ = some (nI (fcN v h all 77), σ) := by
    refine lp_form (fun n i => f_X12_fitting_L5 n (nI h) (b2 all) (nI (fcN v h all (tof (i + 2)))) (nI (i + 2)) σ) 11 (by decide) _ ?_ ?_
    · intro n
      show f_X12_fitting_L5 (n + 1) (nI h) (b2 all) (nI (fcN v h all 77)) (nI 13) σ = _
      rw [f_X12_fitting_L5, if_pos (by decide)]
    · intro n i hi
      show f_X12_fitting_L5 (n + 1) (nI h) (b2 all) (nI (fcN v h all (tof (i + 2)))) (nI (i + 2)) σ = f_X12_fitting_L5 n (nI h) (b2 all) (nI (fcN v h all (tof (i + 1 + 2)))) (nI (i + 1 + 2)) σ
      have hn : ¬ 12 < i + 2 := by omega
      rw [f_X12_fitting_L5, show (0 : Int32) = nI 0 from rfl, s_fitIn u hv hh all (by omega) (by omega)]
      simp (disch := omega) only [q_lit, q_lt0, q_ge0, q_le, q_lt, q_eq, q_cl, q_add, q_mul, q_div, q_rem, bl4, blet, hn, if_false]
  show bl1 (f_X12_fitting_L5 bFU (nI h) (b2 all) (nI (fcN v h all (tof (0 + 2)))) (nI (0 + 2)) σ) _ = _
  rw [hl, bl1]
def fitE (v : Nat → Nat) (i : Nat) : Bool := fit v (trE i) (trF i)
def trN (v : Nat → Nat) : Nat → Nat := sm (fun i => (fitE v i).toNat)
theorem trN_le (v : Nat → Nat) (n : Nat) : trN v n ≤ n := sm_le _ (fun i => by cases fitE v i <;> decide) n
theorem fcN_all (v : Nat → Nat) (h n : Nat) : fcN v h true n = trN v n := sm_congr n (fun i _ => by rw [fcE, Bool.true_or, Bool.and_true]; rfl)
theorem fcN_tr (v : Nat → Nat) (h n : Nat) : fcN v h false n ≤ trN v n := sm_mono n (fun i _ => bn_le (fun z => by
  rw [fcE, Bool.and_eq_true] at z
  exact z.1))
theorem s_trainsM {v : Nat → Nat} {σ : bSto} (u : WFr v) (hv : MV v σ) : f_X12_fitting (0 : Int32) (1 : Int32) σ = some (nI (trN v 77), σ) := by
  rw [← fcN_all v 0 77]
  exact s_fitting u hv (by decide) true
theorem s_comesM {v : Nat → Nat} {σ : bSto} (u : WFr v) (hv : MV v σ) {h : Nat} (hh : h < 100) : f_X12_fitting (nI h) (0 : Int32) σ = some (nI (fcN v h false 77), σ) := s_fitting u hv hh false
/-- the class's hours of room c -/
def CVr (c : Nat) (v : Nat → Nat) (σ : bSto) : Prop := σ.1 (c + 15) 4 = nI (v 7 + v 8) ∧ σ.1 (c + 15) 5 = nI (v 7) ∧ ∃ hr : Nat → Nat, (∀ i, i < v 7 + v 8 → hr i < 100 ∧ v (126 + hr i) ≠ 0 ∧ σ.1 (c + 15 + 1) i = nI (hr i) ∧ σ.1 (c + 15 + 2) i = b2 (v (126 + hr i) == 1)) ∧ ∀ h, h < 100 → v (126 + h) ≠ 0 → ∃ i, i < v 7 + v 8 ∧ hr i = h
theorem fit_iff {v : Nat → Nat} (u : WFr v) {N : Nat} {hr : Nat → Nat} (h1 : ∀ i, i < N → hr i < 100 ∧ v (126 + hr i) ≠ 0) (h2 : ∀ h, h < 100 → v (126 + h) ≠ 0 → ∃ i, i < N ∧ hr i = h) {e f : Nat} : fit v e f = true ↔ ∀ i, i < N → (hr i % e == f) = (v (126 + hr i) == 1) := by
  rw [fit, allB_iff]
  constructor
  · intro z i hi
    obtain ⟨a, b⟩ := h1 i hi
    have hz := z (hr i) (Nat.zero_le _) (by omega)
    have hu := u _ a
    rw [fitH] at hz
    generalize (hr i % e == f) = g at hz ⊢
    rcases (by omega : v (126 + hr i) = 1 ∨ v (126 + hr i) = 2) with k | k <;> rw [k] at hz ⊢ <;> revert hz <;> cases g <;> decide
  · intro z h _ hh
    rw [fitH]
    have hu := u h (by omega)
    by_cases g0 : v (126 + h) = 0
    · rw [g0]; rfl
    · obtain ⟨i, hi, rfl⟩ := h2 h (by omega) g0
      have hz := z i hi
      generalize (hr i % e == f) = g at hz ⊢
      rcases (by omega : v (126 + hr i) = 1 ∨ v (126 + hr i) = 2) with k | k <;> rw [k] at hz ⊢ <;> revert hz <;> cases g <;> decide
theorem s_fits {c : Nat} {v : Nat → Nat} {σ : bSto} (w : WF v) (u : WFr v) (hr : CVr c v σ) {e f : Nat} (he : 0 < e) (he2 : e ≤ 12) (hf : f < e) : f_X10_fits (c + 15) (nI e) (nI f) σ = some (b2 (fit v e f), σ) := by
  obtain ⟨r1, -, H, r2, r3⟩ := hr
  have h8 : v 7 + v 8 ≤ 8 := w.2.2.2.2.2.2.2.1
  have hI := fit_iff u (fun i hi => ⟨(r2 i hi).1, (r2 i hi).2.1⟩) r3 (e := e) (f := f)
  have hl : ∀ k i n, i + k = v 7 + v 8 → k < n → (∀ j, j < i → (H j % e == f) = (v (126 + H j) == 1)) → f_X10_fits_L8 n (c + 15) (nI e) (nI f) (nI i) σ = some (if fit v e f = true then .inr σ else .inl (nI 0, σ)) := by
    intro k
    induction k with
    | zero =>
      intro i n hi hn hj
      obtain ⟨n, rfl⟩ : ∃ n', n = n' + 1 := ⟨n - 1, by omega⟩
      obtain rfl : i = v 7 + v 8 := by omega
      rw [f_X10_fits_L8, r1, if_pos (Int32.le_refl _), if_pos (hI.mpr hj)]
    | succ k ih =>
      intro i n hi hn hj
      obtain ⟨n, rfl⟩ : ∃ n', n = n' + 1 := ⟨n - 1, by omega⟩
      obtain ⟨a1, a2, a3, a4⟩ := r2 i (by omega)
      have hm := Nat.mod_lt (H i) he
      have g1 : ¬ v 7 + v 8 ≤ i := by omega
      have g2 : ¬ 8 ≤ i := by omega
      have g3 : ¬ e = 0 := by omega
      rw [f_X10_fits_L8, r1]
      simp (disch := omega) only [q_lit, q_lt0, q_ge0, q_le, q_lt, q_eq, q_cl, q_add, q_mul, q_div, q_rem, f_X10_fits_J33_8, a3, a4, blet, if_false, false_or, or_false, or_self, Nat.not_lt_zero, g1, g2, g3, b2_1r, b2_0r]
      by_cases hg : (H i % e == f) = (v (126 + H i) == 1)
      · have := ih (i + 1) n (by omega) (by omega) (fun j hj2 => by
          by_cases ej : j = i
          · rw [ej]; exact hg
          · exact hj j (by omega))
        rw [← this, ← hg]
        by_cases g : H i % e = f
        · rw [if_pos g, if_pos (by simp [g])]
        · rw [if_neg g, if_pos (by simp [g])]
      · have hF : ¬ fit v e f = true := fun z => hg (hI.mp z i (by omega))
        rw [if_neg hF]
        by_cases g : H i % e = f
        · rw [if_pos g, if_neg (fun z => hg (by rw [z]; simp [g]))]
        · rw [if_neg g, if_neg (fun z => hg (by rw [z]; simp [g]))]
  show (if (0 : Int32) < nI e then br0 (f_X10_fits_L8 bFU (c + 15) (nI e) (nI f) (nI 0) σ) _ _ else _) = _
  rw [if_pos (by rw [show (0 : Int32) = nI 0 from rfl, q_lt (by omega) (by omega)]; exact he), hl (v 7 + v 8) 0 bFU (by omega) (by show _ < 100000; omega) (fun j hj => by omega)]
  cases fit v e f <;> rfl
theorem mod_gap {x h e : Nat} (h1 : x % e = h % e) (h2 : x < h) : x + e ≤ h := by
  have h3 := Nat.sub_mod_eq_zero_of_mod_eq h1.symm
  have h4 := Nat.le_of_dvd (by omega) (Nat.dvd_of_mod_eq_zero h3)
  omega
theorem s_addL {T e f : Nat} (he : 0 < e) (he2 : e ≤ 12) (g : Nat → Nat) : ∀ k x n σ, 100 ≤ x + k → k < n → x < 112 → x % e = f → (∀ h, h < 100 → σ.1 (T + 4) h = nI (g h + (decide (h < x) && h % e == f).toNat)) → ∃ τ, f_X10_addTrain_L27 n T (nI e) (nI x) σ = some τ ∧ AO (fun a _ => a = T + 4) σ τ ∧ ∀ h, h < 100 → τ.1 (T + 4) h = nI (g h + (h % e == f).toNat) := by
  have hend : ∀ x n σ, 100 ≤ x → x < 112 → (∀ h, h < 100 → σ.1 (T + 4) h = nI (g h + (decide (h < x) && h % e == f).toNat)) → ∃ τ, f_X10_addTrain_L27 (n + 1) T (nI e) (nI x) σ = some τ ∧ AO (fun a _ => a = T + 4) σ τ ∧ ∀ h, h < 100 → τ.1 (T + 4) h = nI (g h + (h % e == f).toNat) := by
    intro x n σ hx hx2 hσ
    refine ⟨σ, ?_, AO.refl _ _, fun h hh => ?_⟩
    · rw [f_X10_addTrain_L27, if_pos (show (100 : Int32) ≤ nI x by rw [show (100 : Int32) = nI 100 from rfl, q_le (by omega) (by omega)]; exact hx)]
    · rw [hσ h hh, decide_eq_true (by omega), Bool.true_and]
  intro k
  induction k with
  | zero =>
    intro x n σ hx hn hx2 hxf hσ
    obtain ⟨n, rfl⟩ : ∃ n', n = n' + 1 := ⟨n - 1, by omega⟩
    exact hend x n σ (by omega) hx2 hσ
  | succ k ih =>
    intro x n σ hx hn hx2 hxf hσ
    obtain ⟨n, rfl⟩ : ∃ n', n = n' + 1 := ⟨n - 1, by omega⟩
    by_cases h100 : 100 ≤ x
    · exact hend x n σ h100 hx2 hσ
    · have hA : AO (fun a _ => a = T + 4) σ (bI σ (T + 4) x (nI (g x + 1))) := AO.set σ _ rfl
      obtain ⟨τ, h1, h2, h3⟩ := ih (x + e) n (bI σ (T + 4) x (nI (g x + 1))) (by omega) (by omega) (by omega) (by rw [Nat.add_mod_right]; exact hxf) (by
        intro h hh
        rw [bI_at]
        by_cases ex : h = x
        · rw [if_pos ⟨rfl, ex⟩, ex, hxf, decide_eq_true (by omega), beq_self_eq_true]
          rfl
        · rw [if_neg (by simp [ex]), hσ h hh]
          congr 2
          by_cases hf : h % e = f
          · by_cases hl : h < x
            · rw [decide_eq_true hl, decide_eq_true (show h < x + e by omega)]
            · have := mod_gap (x := x) (h := h) (e := e) (by rw [hxf, hf]) (by omega)
              rw [decide_eq_false hl, decide_eq_false (show ¬ h < x + e by omega)]
          · rw [show (h % e == f) = false by simp [hf], Bool.and_false, Bool.and_false])
      refine ⟨τ, ?_, hA.trans h2, h3⟩
      have hσx := hσ x (by omega)
      rw [decide_eq_false (by omega), Bool.false_and, show Bool.toNat false = 0 from rfl, Nat.add_zero] at hσx
      have g2 : ¬ 100 ≤ x := by omega
      rw [← h1, f_X10_addTrain_L27]
      simp (disch := omega) only [q_lit, q_lt0, q_ge0, q_le, q_lt, q_eq, q_cl, q_add, q_mul, q_div, q_rem, hσx, blet, if_false, false_or, or_false, or_self, Nat.not_lt_zero, g2]
/-- the class's trains of room c, of the first n -/
def FTv (c : Nat) (v : Nat → Nat) (n : Nat) (σ : bSto) : Prop := σ.1 (c + 15) 6 = nI (trN v n) ∧ (∀ d, d < n → fitE v d = true → σ.1 (c + 15 + 3) (trN v d) = nI (100 * trE d + trF d)) ∧ ∀ h, h < 100 → σ.1 (c + 15 + 4) h = nI (fcN v h false n)
def BT (c : Nat) : Nat → Nat → Prop := fun a k => a = c + 15 + 3 ∨ a = c + 15 + 4 ∨ (a = c + 15 ∧ k = 6)
theorem CVr.ao {B : Nat → Nat → Prop} {c : Nat} {v : Nat → Nat} {σ τ : bSto} (h : CVr c v σ) (ha : AO B σ τ) (hB : ∀ a k, B a k → a < c + 15 ∨ c + 18 ≤ a ∨ (a = c + 15 ∧ k = 6)) : CVr c v τ := by
  obtain ⟨h1, h2, H, h3, h4⟩ := h
  refine ⟨?_, ?_, H, fun i hi => ?_, h4⟩
  · rw [ha.1 _ _ (fun z => by have := hB _ _ z; omega), h1]
  · rw [ha.1 _ _ (fun z => by have := hB _ _ z; omega), h2]
  · obtain ⟨a1, a2, a3, a4⟩ := h3 i hi
    exact ⟨a1, a2, by rw [ha.1 _ _ (fun z => by have := hB _ _ z; omega), a3], by rw [ha.1 _ _ (fun z => by have := hB _ _ z; omega), a4]⟩
theorem BT_ok (c : Nat) : ∀ a k, BT c a k → a < c + 15 ∨ c + 18 ≤ a ∨ (a = c + 15 ∧ k = 6) := fun a k h => by
  rcases h with h | h | h <;> omega
theorem FTv.no {c : Nat} {v : Nat → Nat} {d : Nat} {σ : bSto} (h : FTv c v d σ) (hf : fitE v d = false) : FTv c v (d + 1) σ := by
  obtain ⟨h1, h2, h3⟩ := h
  refine ⟨?_, fun k hk hkf => ?_, fun x hx => ?_⟩
  · rw [h1]
    show _ = nI (trN v d + (fitE v d).toNat)
    rw [hf]; rfl
  · by_cases e : k = d
    · rw [e, hf] at hkf; cases hkf
    · exact h2 k (by omega) hkf
  · rw [h3 x hx]
    show _ = nI (fcN v x false d + (fcE v x false d).toNat)
    rw [fcE, show fit v (trE d) (trF d) = false from hf]; rfl
theorem s_addTrain {c : Nat} {v : Nat → Nat} {d : Nat} {σ : bSto} (hd : d < 77) (hF : FTv c v d σ) (hf : fitE v d = true) : ∃ τ, f_X10_addTrain (c + 15) (nI (trE d)) (nI (trF d)) σ = some τ ∧ AO (BT c) σ τ ∧ FTv c v (d + 1) τ := by
  obtain ⟨h1, h2, h3⟩ := hF
  obtain ⟨b1, b2', b3⟩ := tr_b hd
  have hN := trN_le v d
  have hA : AO (BT c) σ (bI (bI σ (c + 15 + 3) (trN v d) (nI (100 * trE d + trF d))) (c + 15) 6 (nI (trN v d + 1))) := AO.trans (B := BT c) (AO.set σ _ (Or.inl rfl)) (AO.set _ _ (Or.inr (Or.inr ⟨rfl, rfl⟩)))
  obtain ⟨τ, k1, k2, k3⟩ := s_addL (T := c + 15) (e := trE d) (f := trF d) (by omega) b2' (fun h => fcN v h false d) 100 (trF d) bFU (bI (bI σ (c + 15 + 3) (trN v d) (nI (100 * trE d + trF d))) (c + 15) 6 (nI (trN v d + 1))) (by omega) (by show _ < 100000; omega) (by omega) (Nat.mod_eq_of_lt b3) (by
    intro h hh
    rw [bI_ne (Or.inl (by omega)), bI_ne (Or.inl (by omega)), h3 h hh]
    have : (decide (h < trF d) && h % trE d == trF d) = false := by
      by_cases hl : h < trF d
      · rw [Nat.mod_eq_of_lt (by omega), show (h == trF d) = false by simp; omega, Bool.and_false]
      · rw [decide_eq_false hl, Bool.false_and]
    rw [this]
    rfl)
  refine ⟨τ, ?_, hA.trans (k2.mono (fun a k h => Or.inr (Or.inl h))), ?_, fun k hk hkf => ?_, fun x hx => ?_⟩
  · rw [f_X10_addTrain, h1]
    simp (disch := omega) only [q_lit, q_lt0, q_ge0, q_le, q_lt, q_eq, q_cl, q_add, q_mul, q_div, q_rem, blet, if_false, false_or, or_false, or_self, Nat.not_lt_zero]
    rw [if_neg (by omega), bI_ne (a := c + 15) (o := c + 15 + 3) (Or.inl (by omega)), h1, q_add, k1]
    rfl
  · rw [k2.1 _ _ (by show ¬ (c + 15 = c + 15 + 4); omega), bI_eq]
    show _ = nI (trN v d + (fitE v d).toNat)
    rw [hf]; rfl
  · rw [k2.1 _ _ (by show ¬ (c + 15 + 3 = c + 15 + 4); omega), bI_ne (Or.inl (by omega))]
    by_cases e : k = d
    · rw [e, bI_eq]
    · have hlt : trN v k < trN v d := by
        have hs : trN v (k + 1) = trN v k + 1 := by
          show trN v k + (fitE v k).toNat = _
          rw [hkf]; rfl
        have := sm_mono_n (fun i => (fitE v i).toNat) (a := k + 1) d (by omega)
        have h9 : trN v (k + 1) ≤ trN v d := this
        omega
      rw [bI_ne (Or.inr (by omega)), h2 k (by omega) hkf]
  · rw [k3 x hx]
    show _ = nI (fcN v x false d + (fcE v x false d).toNat)
    rw [fcE, show fit v (trE d) (trF d) = true from hf, Bool.true_and, Bool.false_or]
theorem s_findIn {c : Nat} {v : Nat → Nat} (w : WF v) (u : WFr v) {e : Nat} (h1 : 2 ≤ e) (h2 : e ≤ 12) : ∀ k i n σ, i + k = e → k < n → CVr c v σ → FTv c v (tof e + i) σ → ∃ τ, f_X10_findTrains_L23 n (c + 15) (nI e) (nI i) σ = some (c + 15, nI e, τ) ∧ AO (BT c) σ τ ∧ FTv c v (tof (e + 1)) τ := by
  have hts := tof_s h1 h2
  intro k
  induction k with
  | zero =>
    intro i n σ hi hn hr hF
    obtain ⟨n, rfl⟩ : ∃ n', n = n' + 1 := ⟨n - 1, by omega⟩
    obtain rfl : i = e := by omega
    refine ⟨σ, ?_, AO.refl _ _, by rw [← hts.1]; exact hF⟩
    rw [f_X10_findTrains_L23, if_pos (Int32.le_refl _)]
  | succ k ih =>
    intro i n σ hi hn hr hF
    obtain ⟨n, rfl⟩ : ∃ n', n = n' + 1 := ⟨n - 1, by omega⟩
    have ht := tr_at h1 h2 (show i < e by omega)
    have hfe : fitE v (tof e + i) = fit v e i := by rw [fitE, ht.1, ht.2]
    have hn2 : ¬ e ≤ i := by omega
    have hN := trN_le v (tof e + i)
    have h77 : ¬ 77 ≤ trN v (tof e + i) := by omega
    rw [f_X10_findTrains_L23, s_fits w u hr (by omega) h2 (by omega)]
    simp only [bbd]
    rw [hF.1]
    simp (disch := omega) only [q_lit, q_lt0, q_ge0, q_le, q_lt, q_eq, q_cl, q_add, q_mul, q_div, q_rem, hn2, h77, if_false, blet, b2_0n]
    cases hc : fit v e i with
    | false =>
      obtain ⟨τ, a1, a2, a3⟩ := ih (i + 1) n σ (by omega) (by omega) hr (by rw [← Nat.add_assoc]; exact hF.no (by rw [hfe, hc]))
      exact ⟨τ, by rw [if_pos rfl]; exact a1, a2, a3⟩
    | true =>
      obtain ⟨τ1, g1, g2, g3⟩ := s_addTrain (by omega) hF (by rw [hfe, hc])
      rw [ht.1, ht.2] at g1
      obtain ⟨τ, a1, a2, a3⟩ := ih (i + 1) n τ1 (by omega) (by omega) (hr.ao g2 (BT_ok c)) (by rw [← Nat.add_assoc]; exact g3)
      refine ⟨τ, ?_, g2.trans a2, a3⟩
      rw [if_neg (by decide), g1]
      simp only [bbv]
      exact a1
theorem s_findTrains {c : Nat} {v : Nat → Nat} {σ : bSto} (w : WF v) (u : WFr v) (hk : kR c) (hr : CVr c v σ) : ∃ τ, f_X10_findTrains (c + 15) σ = some τ ∧ AO (BT c) σ τ ∧ FTv c v 77 τ := by
  have hl : ∀ k i n σ, i + k = 11 → k < n → CVr c v σ → FTv c v (tof (i + 2)) σ → ∃ τ, f_X10_findTrains_L15 n (c + 15) (nI (i + 2)) σ = some τ ∧ AO (BT c) σ τ ∧ FTv c v 77 τ := by
    intro k
    induction k with
    | zero =>
      intro i n σ hi hn hr hF
      obtain ⟨n, rfl⟩ : ∃ n', n = n' + 1 := ⟨n - 1, by omega⟩
      obtain rfl : i = 11 := by omega
      refine ⟨σ, ?_, AO.refl _ _, hF⟩
      rw [f_X10_findTrains_L15, if_pos (by decide)]
    | succ k ih =>
      intro i n σ hi hn hr hF
      obtain ⟨n, rfl⟩ : ∃ n', n = n' + 1 := ⟨n - 1, by omega⟩
      have hn2 : ¬ 12 < i + 2 := by omega
      obtain ⟨τ1, g1, g2, g3⟩ := s_findIn w u (e := i + 2) (by omega) (by omega) (i + 2) 0 bFU σ (by omega) (by show _ < 100000; omega) hr hF
      obtain ⟨τ, a1, a2, a3⟩ := ih (i + 1) n τ1 (by omega) (by omega) (hr.ao g2 (BT_ok c)) (by rw [show i + 1 + 2 = i + 2 + 1 by omega]; exact g3)
      refine ⟨τ, ?_, g2.trans a2, a3⟩
      rw [f_X10_findTrains_L15, show (0 : Int32) = nI 0 from rfl, g1, ← a1]
      simp (disch := omega) only [q_lit, q_lt0, q_ge0, q_le, q_lt, q_eq, q_cl, q_add, q_mul, q_div, q_rem, hn2, if_false, bl2, blet]
  have hL : bln (c + 15 + 4) = 100 := by rcases hk with rfl | rfl <;> rfl
  have hA : AO (BT c) σ (bA (bI σ (c + 15) 6 0) (c + 15 + 4) (fun k => if k < 100 then 0 else (bI σ (c + 15) 6 0).1 (c + 15 + 4) k)) := AO.trans (B := BT c) (AO.set σ _ (Or.inr (Or.inr ⟨rfl, rfl⟩))) (AO.setA _ _ (fun k => Or.inr (Or.inr (Or.inl rfl))))
  obtain ⟨τ, g1, g2, g3⟩ := hl 11 0 bFU _ (by omega) (by show _ < 100000; omega) (hr.ao hA (BT_ok c)) (by
    refine ⟨?_, fun d hd => absurd hd (Nat.not_lt_zero d), fun h hh => ?_⟩
    · rw [bA_ne (by omega), bI_eq]; rfl
    · rw [bA_eq]; simp only [hh, if_true]; rfl)
  refine ⟨τ, ?_, hA.trans g2, g3⟩
  rw [f_X10_findTrains]
  simp only [blet]
  rw [s_fill hL (by decide)]
  simp only [bbv]
  rw [show (2 : Int32) = nI (0 + 2) from rfl, g1]
  rfl
