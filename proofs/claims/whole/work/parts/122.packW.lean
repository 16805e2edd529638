/-! ===== packing: the class's first row, cheapest, best seat (own work) ===== -/
def Bp : Nat → Nat → Prop := fun a _ => 58 ≤ a ∧ a ≤ 62
theorem Bk_Bp : ∀ a k, Bk a k → Bp a k := fun a k h => by rcases h with h | h | h <;> (unfold Bp; omega)
theorem kR_Bp {c : Nat} (hk : kR c) : ∀ a k, Bp a k → a < c + 1 ∨ c + 23 ≤ a := fun a k h => by
  unfold Bp at h
  rcases hk with rfl | rfl <;> omega
/-- seats as told -/
def st0 (v : Nat → Nat) : Nat → Nat := fun b => v (13 + 4 * b)
theorem st0_le {v : Nat → Nat} (w : WF v) : ∀ b, b < v 3 → st0 v b ≤ 3 := fun b hb => (w.2.2.2.2.2.2.2.2.2.2.1 b hb).2.2.1.2
theorem s_begin {c : Nat} {v : Nat → Nat} {σ : bSto} (w : WF v) (hk : kR c) (hh : CVh c v σ) (hf : CVf c v σ) : ∃ τ, f_X5_begin c σ = some τ ∧ AO Bp σ τ ∧ KB v (st0 v) τ := by
  have hp7 : v 4 ≤ 7 := w.2.2.2.2.1
  have hb6 : v 3 ≤ 6 := w.2.2.2.1.2
  have hfar := kR_far hk
  have hBp := kR_Bp hk
  have hl : ∀ k p n σ, p + k = v 4 → k < n → CVh c v σ → CVf c v σ → σ.1 58 4 = nI (v 4) → (∀ q, q < p → σ.1 61 q = nI (msk (okv v q) (v 3))) → ∃ τ, f_X5_begin_L42 n c (nI p) σ = some τ ∧ AO (fun a _ => a = 61) σ τ ∧ ∀ q, q < v 4 → τ.1 61 q = nI (msk (okv v q) (v 3)) := by
    intro k
    induction k with
    | zero =>
      intro p n σ hp hn hh hf h4 hq
      obtain ⟨n, rfl⟩ : ∃ n', n = n' + 1 := ⟨n - 1, by omega⟩
      obtain rfl : p = v 4 := by omega
      refine ⟨σ, ?_, AO.refl _ _, hq⟩
      rw [f_X5_begin_L42, h4, if_pos (Int32.le_refl _)]
    | succ k ih =>
      intro p n σ hp hn hh hf h4 hq
      obtain ⟨n, rfl⟩ : ∃ n', n = n' + 1 := ⟨n - 1, by omega⟩
      have hA : AO (fun a _ => a = 61) σ (bI σ 61 p (nI (msk (okv v p) (v 3)))) := AO.set σ _ rfl
      obtain ⟨τ, h1, h2, h3⟩ := ih (p + 1) n (bI σ 61 p (nI (msk (okv v p) (v 3)))) (by omega) (by omega) (hh.ao hA (fun a k h => by have : a = 61 := h; omega)) (hf.ao hA (fun a k h => by have : a = 61 := h; omega)) (by rw [bI_ne (Or.inl (by decide)), h4]) (by
        intro q hqp
        rw [bI_at]
        by_cases e : q = p
        · rw [if_pos ⟨rfl, e⟩, e]
        · rw [if_neg (by simp [e]), hq q (by omega)])
      refine ⟨τ, ?_, hA.trans h2, h3⟩
      rw [← h1, f_X5_begin_L42, h4, s_benchesFor w hh hf (by omega)]
      simp (disch := omega) only [q_lit, q_lt0, q_ge0, q_le, q_lt, q_eq, q_cl, q_add, q_mul, q_div, q_rem, bbd, blet, if_false, false_or]
      rw [if_neg (show ¬ v 4 ≤ p by omega), if_neg (show ¬ (p < 0 ∨ 7 ≤ p) by omega)]
  have hA1 : AO Bp σ (bA (bI (bI σ 58 4 (nI (v 4))) 58 5 (nI (v 3))) 59 (va_cpy ((bI (bI σ 58 4 (nI (v 4))) 58 5 (nI (v 3))).1 (c + 1 + 4)) ((bI (bI σ 58 4 (nI (v 4))) 58 5 (nI (v 3))).1 59) 0 0 6)) := AO.trans (B := Bp) (AO.trans (B := Bp) (AO.set σ _ (by unfold Bp; omega)) (AO.set _ _ (by unfold Bp; omega))) (AO.setA _ _ (fun k => Or.inr (by unfold Bp; omega)))
  obtain ⟨τ, g1, g2, g3⟩ := hl (v 4) 0 bFU _ (by omega) (by show _ < 100000; omega) (hh.ao hA1 (fun a k h => by have := hBp a k h; omega)) (hf.ao hA1 (fun a k h => by have := hBp a k h; omega)) (by rw [bA_ne (by decide), bI_ne (Or.inr (by decide)), bI_eq]) (fun q hq => by omega)
  refine ⟨τ, ?_, hA1.trans (g2.mono (fun a k h => by have : a = 61 := h; unfold Bp; omega)), ?_, ?_, fun b hb => ?_, g3⟩
  · rw [f_X5_begin, hf.1]
    simp only [blet]
    rw [bI_ne (a := c + 1) (o := 58) (Or.inl (by omega)), hh.1, show (0 : Int32).toNatClampNeg = 0 from rfl, show (6 : Int32).toNatClampNeg = 6 from rfl, show (0 : Int32) = nI 0 from rfl, g1]
    rfl
  · rw [g2.1 58 4 (by decide), bA_ne (by decide), bI_ne (Or.inr (by decide)), bI_eq]
  · rw [g2.1 58 5 (by decide), bA_ne (by decide), bI_eq]
  · rw [g2.1 59 b (by show ¬ (59 = 61); decide), bA_eq, va_cpy, if_pos (by omega), bI_ne (Or.inl (by omega)), bI_ne (Or.inl (by omega)), show 0 + (b - 0) = b by omega, (hh.2.2.2.2.2.2 b hb).2.2.2.1]
    rfl
theorem pk_skip (K : PK) (A : Nat → Bool) (s : Nat → Nat) (j : Nat) : ∀ d, j + d ≤ K.n → (∀ i, K.n - (j + d) ≤ i → i < K.n - j → A i = false) → pk K (j + d) A s = pk K j A s
  | 0, _, _ => rfl
  | d + 1, hd, h => by
    rw [← Nat.add_assoc, pk, h (K.n - (j + d + 1)) (by omega) (by omega), if_neg (by decide), pk_skip K A s j d (by omega) (fun i h1 h2 => h i (by omega) h2)]
/-- those from place p on -/
def frm (n p : Nat) : Nat := msk (fun i => decide (p ≤ i)) n
theorem frm_tb (n p i : Nat) : (frm n p).testBit i = (decide (i < n) && decide (p ≤ i)) := tb_msk _ _ _
theorem frm_rmv (n p : Nat) : rmv (frm n p) p = frm n (p + 1) := by
  apply Nat.eq_of_testBit_eq
  intro i
  rw [tb_rmv, del, frm_tb, frm_tb]
  by_cases e : i = p
  · subst e; simp
  · rw [beq_eq_false_iff_ne.mpr e]
    have : decide (p ≤ i) = decide (p + 1 ≤ i) := by
      by_cases h : p ≤ i
      · rw [decide_eq_true h, decide_eq_true (by omega)]
      · rw [decide_eq_false h, decide_eq_false (by omega)]
    rw [this]; simp
theorem frm_0 (n : Nat) : frm n 0 = 2 ^ n - 1 := by
  rw [low_msk]
  exact msk_congr n (fun i _ => by simp)
theorem PM_frm (v : Nat → Nat) (s : Nat → Nat) {p : Nat} (hp : p ≤ v 4) : PM (Kv v) (frm (v 4) p).testBit s = (pk (Kv v) (v 4 - p) (fun _ => true) s).1 := by
  unfold PM
  have h1 := pk_skip (Kv v) (frm (v 4) p).testBit s (v 4 - p) p (by rw [Kv_n]; omega) (fun i _ h2 => by
    rw [Kv_n] at h2
    rw [frm_tb, decide_eq_false (show ¬ p ≤ i by omega), Bool.and_false])
  rw [show v 4 - p + p = v 4 by omega] at h1
  rw [Kv_n, h1, pk_congrA (Kv v) (v 4 - p) _ (fun _ => true) s (by rw [Kv_n]; omega) (fun i h2 h3 => by
    rw [Kv_n] at h2 h3
    rw [frm_tb, decide_eq_true h3, decide_eq_true (show p ≤ i by omega)]; rfl)]
theorem frm_lt {n p : Nat} (hn : n ≤ 7) : frm n p < 128 := p2_128 hn (msk_lt _ _)
theorem pkf_lo (K : PK) : ∀ j A s cur i, i < K.n - j → pkf K j A s cur i = cur i := by
  intro j
  induction j with
  | zero => intro A s cur i _; rfl
  | succ j ih =>
    intro A s cur i hi
    rw [pkf]
    split
    · split
      · rw [ih _ _ _ _ (by omega), put, if_neg (by omega)]
      · rw [ih _ _ _ _ (by omega), put, if_neg (by omega)]
    · rw [ih _ _ _ _ (by omega), put, if_neg (by omega)]
theorem s_takeFirst {v s : Nat → Nat} {σ : bSto} (w : WF v) (hs4 : ∀ b, b < v 3 → s b ≤ 4) (hK : KB v s σ) {p : Nat} (hp : p < v 4) : ∃ τ, AO Bp σ τ ∧ (fb (Kv v) (v 4 - p - 1) (fun _ => true) s < v 3 ∧ f_X5_takeFirst (nI p) (nI (frm (v 4) (p + 1))) (nI (pk (Kv v) (v 4 - p) (fun _ => true) s).1) σ = some (nI (fb (Kv v) (v 4 - p - 1) (fun _ => true) s), τ) ∧ KB v (dcs s (fb (Kv v) (v 4 - p - 1) (fun _ => true) s)) τ ∨ ¬ fb (Kv v) (v 4 - p - 1) (fun _ => true) s < v 3 ∧ f_X5_takeFirst (nI p) (nI (frm (v 4) (p + 1))) (nI (pk (Kv v) (v 4 - p) (fun _ => true) s).1) σ = some (-2, τ) ∧ KB v s τ) := by
  have hp7 : v 4 ≤ 7 := w.2.2.2.2.1
  have hb6 : v 3 ≤ 6 := w.2.2.2.1.2
  have hM : (pk (Kv v) (v 4 - p) (fun _ => true) s).1 ≤ v 4 - p := pkm_le _ _ _ _ (by rw [Kv_n]; omega)
  have hstep : v 4 - p = v 4 - p - 1 + 1 := by omega
  have hMge : ∀ b, b < v 3 → okv v p b = true → 0 < s b → 1 + (pk (Kv v) (v 4 - p - 1) (fun _ => true) (dcs s b)).1 ≤ (pk (Kv v) (v 4 - p) (fun _ => true) s).1 := by
    intro b hb hok hsb
    rw [hstep, pk, if_pos rfl, Kv_n, show v 4 - (v 4 - p - 1 + 1) = p by omega, Nat.add_sub_cancel]
    have hg := ((fo_cb (fun b => (Kv v).ok p b && decide (0 < s b)) (fun b => (1 + (pk (Kv v) (v 4 - p - 1) (fun _ => true) (dcs s b)).1, (Kv v).rt b + (pk (Kv v) (v 4 - p - 1) (fun _ => true) (dcs s b)).2)) (pk (Kv v) (v 4 - p - 1) (fun _ => true) s) (Kv v).nb 0).2.1 b (Nat.zero_le _) (by rw [Kv_nb]; omega) (by rw [Kv_ok]; simp [hok, hsb])).1
    exact hg
  have hpb : (fun b => ((Kv v).ok ((Kv v).n - (v 4 - p - 1 + 1)) b && decide (0 < s b)) && (1 + (pk (Kv v) (v 4 - p - 1) (fun _ => true) (dcs s b)).1 == (pk (Kv v) (v 4 - p - 1 + 1) (fun _ => true) s).1)) = (fun b => (okv v p b && decide (0 < s b)) && (1 + (pk (Kv v) (v 4 - p - 1) (fun _ => true) (dcs s b)).1 == (pk (Kv v) (v 4 - p) (fun _ => true) s).1)) := by
    funext b
    rw [Kv_ok, Kv_n, show v 4 - (v 4 - p - 1 + 1) = p by omega, ← hstep]
  have hl : ∀ k b n σ, b + k = v 3 → k < n → KB v s σ → ∃ τ, AO Bp σ τ ∧ (fst1 (fun b => (okv v p b && decide (0 < s b)) && (1 + (pk (Kv v) (v 4 - p - 1) (fun _ => true) (dcs s b)).1 == (pk (Kv v) (v 4 - p) (fun _ => true) s).1)) k b < v 3 ∧ f_X5_takeFirst_L3 n (nI p) (nI (frm (v 4) (p + 1))) (nI (pk (Kv v) (v 4 - p) (fun _ => true) s).1) (nI b) σ = some (.inl (nI (fst1 (fun b => (okv v p b && decide (0 < s b)) && (1 + (pk (Kv v) (v 4 - p - 1) (fun _ => true) (dcs s b)).1 == (pk (Kv v) (v 4 - p) (fun _ => true) s).1)) k b), τ)) ∧ KB v (dcs s (fst1 (fun b => (okv v p b && decide (0 < s b)) && (1 + (pk (Kv v) (v 4 - p - 1) (fun _ => true) (dcs s b)).1 == (pk (Kv v) (v 4 - p) (fun _ => true) s).1)) k b)) τ ∨ ¬ fst1 (fun b => (okv v p b && decide (0 < s b)) && (1 + (pk (Kv v) (v 4 - p - 1) (fun _ => true) (dcs s b)).1 == (pk (Kv v) (v 4 - p) (fun _ => true) s).1)) k b < v 3 ∧ f_X5_takeFirst_L3 n (nI p) (nI (frm (v 4) (p + 1))) (nI (pk (Kv v) (v 4 - p) (fun _ => true) s).1) (nI b) σ = some (.inr τ) ∧ KB v s τ) := by
    intro k
    induction k with
    | zero =>
      intro b n σ hb hn hK
      obtain ⟨n, rfl⟩ : ∃ n', n = n' + 1 := ⟨n - 1, by omega⟩
      obtain rfl : b = v 3 := by omega
      refine ⟨σ, AO.refl _ _, Or.inr ⟨by rw [fst1]; omega, ?_, hK⟩⟩
      rw [f_X5_takeFirst_L3, hK.2.1, if_pos (Int32.le_refl _)]
    | succ k ih =>
      intro b n σ hb hn hK
      obtain ⟨n, rfl⟩ : ∃ n', n = n' + 1 := ⟨n - 1, by omega⟩
      have hb3 : b < v 3 := by omega
      have hs := hs4 b hb3
      have qb : (nI b).toNatClampNeg = b := q_cl (by omega)
      have qp : (nI p).toNatClampNeg = p := q_cl (by omega)
      have ib : ¬ (nI b < 0 ∨ 6 ≤ b) := by rw [q_lt0 (by omega)]; simp; omega
      have ip : ¬ (nI p < 0 ∨ 7 ≤ p) := by rw [q_lt0 (by omega)]; simp; omega
      have one : nI b + (1 : Int32) = nI (b + 1) := q_add b 1
      have hm : msk (okv v p) (v 3) < 128 := p2_128 (by omega) (msk_lt _ _)
      have htb : (msk (okv v p) (v 3)).testBit b = okv v p b := by rw [tb_msk, decide_eq_true hb3, Bool.true_and]
      rw [f_X5_takeFirst_L3, hK.2.1, if_neg (show ¬ nI (v 3) ≤ nI b by rw [q_le (by omega) (by omega)]; omega), qb, if_neg ib, hK.2.2.1 b hb3, qp, if_neg ip, hK.2.2.2 p hp, fst1]
      simp only [bit_nI hm (show b < 8 by omega), htb]
      by_cases h0 : 0 < s b
      · rw [if_neg (show ¬ nI (s b) ≤ 0 by rw [show (0 : Int32) = nI 0 from rfl, q_le (by omega) (by omega)]; omega)]
        by_cases hok : okv v p b = true
        · rw [if_pos hok, if_neg ib, if_neg ib]
          simp only [blet]
          rw [show nI (s b) - (1 : Int32) = nI (s b - 1) from q_sub (a := s b) (b := 1) (by omega)]
          have hA1 : AO Bp σ (bI σ 59 b (nI (s b - 1))) := AO.set σ _ (by unfold Bp; omega)
          have hK1 : KB v (dcs s b) (bI σ 59 b (nI (s b - 1))) := by
            obtain ⟨k1, k2, k3, k4⟩ := hK
            refine ⟨?_, ?_, fun c hc => ?_, fun q hq => ?_⟩
            · rw [bI_ne (Or.inl (by decide)), k1]
            · rw [bI_ne (Or.inl (by decide)), k2]
            · rw [bI_at, dcs]
              by_cases e : c = b
              · rw [if_pos ⟨rfl, e⟩, if_pos e, e]
              · rw [if_neg (by simp [e]), if_neg e, k3 c hc]
            · rw [bI_ne (Or.inl (by decide)), k4 q hq]
          obtain ⟨τ1, g1, g2⟩ := s_most w (fun c hc => by have := hs4 c hc; unfold dcs; split <;> omega) hK1 (frm_lt (p := p + 1) hp7)
          rw [g1, PM_frm v _ (show p + 1 ≤ v 4 by omega), show v 4 - (p + 1) = v 4 - p - 1 by omega]
          simp only [bbd]
          have hge := hMge b hb3 hok h0
          rw [show nI (pk (Kv v) (v 4 - p) (fun _ => true) s).1 - (1 : Int32) = nI ((pk (Kv v) (v 4 - p) (fun _ => true) s).1 - 1) from q_sub (b := 1) (by omega)]
          have hA2 := hA1.trans (g2.mono Bk_Bp)
          have hK2 := hK1.ao g2
          by_cases heq : 1 + (pk (Kv v) (v 4 - p - 1) (fun _ => true) (dcs s b)).1 = (pk (Kv v) (v 4 - p) (fun _ => true) s).1
          · have hc1 : ((okv v p b && decide (0 < s b)) && (1 + (pk (Kv v) (v 4 - p - 1) (fun _ => true) (dcs s b)).1 == (pk (Kv v) (v 4 - p) (fun _ => true) s).1)) = true := by simp [hok, h0, heq]
            rw [if_pos (show nI (pk (Kv v) (v 4 - p - 1) (fun _ => true) (dcs s b)).1 = nI ((pk (Kv v) (v 4 - p) (fun _ => true) s).1 - 1) by congr 1; omega)]
            simp only [if_pos hc1]
            exact ⟨τ1, hA2, Or.inl ⟨hb3, rfl, hK2⟩⟩
          · have hc1 : ¬ ((okv v p b && decide (0 < s b)) && (1 + (pk (Kv v) (v 4 - p - 1) (fun _ => true) (dcs s b)).1 == (pk (Kv v) (v 4 - p) (fun _ => true) s).1)) = true := by simp [heq]
            rw [if_neg (show ¬ nI (pk (Kv v) (v 4 - p - 1) (fun _ => true) (dcs s b)).1 = nI ((pk (Kv v) (v 4 - p) (fun _ => true) s).1 - 1) by rw [q_eq (by omega) (by omega)]; omega), if_neg ib, if_neg ib]
            simp only [if_neg hc1, one]
            have e59 : τ1.1 59 b + (1 : Int32) = nI (s b) := by
              rw [hK2.2.2.1 b hb3, dcs, if_pos rfl, show (1 : Int32) = nI 1 from rfl, q_add, show s b - 1 + 1 = s b by omega]
            rw [e59]
            have hA3 : AO Bp τ1 (bI τ1 59 b (nI (s b))) := AO.set τ1 _ (by unfold Bp; omega)
            obtain ⟨τ, j1, j2⟩ := ih (b + 1) n (bI τ1 59 b (nI (s b))) (by omega) (by omega) (by
              obtain ⟨k1, k2, k3, k4⟩ := hK2
              refine ⟨?_, ?_, fun c hc => ?_, fun q hq => ?_⟩
              · rw [bI_ne (Or.inl (by decide)), k1]
              · rw [bI_ne (Or.inl (by decide)), k2]
              · rw [bI_at]
                by_cases e : c = b
                · rw [if_pos ⟨rfl, e⟩, e]
                · rw [if_neg (by simp [e]), k3 c hc, dcs, if_neg e]
              · rw [bI_ne (Or.inl (by decide)), k4 q hq])
            exact ⟨τ, (hA2.trans hA3).trans j1, j2⟩
        · rw [if_neg hok]
          have hc1 : ¬ ((okv v p b && decide (0 < s b)) && (1 + (pk (Kv v) (v 4 - p - 1) (fun _ => true) (dcs s b)).1 == (pk (Kv v) (v 4 - p) (fun _ => true) s).1)) = true := by simp [hok]
          simp only [if_neg hc1, blet, one]
          exact ih (b + 1) n σ (by omega) (by omega) hK
      · rw [if_pos (show nI (s b) ≤ 0 by rw [show (0 : Int32) = nI 0 from rfl, q_le (by omega) (by omega)]; omega)]
        have hc1 : ¬ ((okv v p b && decide (0 < s b)) && (1 + (pk (Kv v) (v 4 - p - 1) (fun _ => true) (dcs s b)).1 == (pk (Kv v) (v 4 - p) (fun _ => true) s).1)) = true := by simp [h0]
        simp only [if_neg hc1, blet, one]
        exact ih (b + 1) n σ (by omega) (by omega) hK
  obtain ⟨τ, hA, h⟩ := hl (v 3) 0 bFU σ (by omega) (by show _ < 100000; omega) hK
  refine ⟨τ, hA, ?_⟩
  rw [fb, hpb, Kv_nb]
  rcases h with ⟨h1, h2, h3⟩ | ⟨h1, h2, h3⟩
  · refine Or.inl ⟨h1, ?_, h3⟩
    rw [f_X5_takeFirst, show (0 : Int32) = nI 0 from rfl, h2]
    rfl
  · refine Or.inr ⟨h1, ?_, h3⟩
    rw [f_X5_takeFirst, show (0 : Int32) = nI 0 from rfl, h2]
    rfl
