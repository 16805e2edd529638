/-! ===== packing: answers of class and reference (own work) ===== -/
theorem fb_not {K : PK} {j : Nat} {s : Nat → Nat} (h : ¬ fb K j (fun _ => true) s < K.nb) : (pk K (j + 1) (fun _ => true) s).1 = (pk K j (fun _ => true) s).1 := by
  have hf := (fst1_lt (fun b => (K.ok (K.n - (j + 1)) b && decide (0 < s b)) && (1 + (pk K j (fun _ => true) (dcs s b)).1 == (pk K (j + 1) (fun _ => true) s).1)) K.nb 0).1
  have h3 := (fo_cb (fun b => K.ok (K.n - (j + 1)) b && decide (0 < s b)) (fun b => (1 + (pk K j (fun _ => true) (dcs s b)).1, K.rt b + (pk K j (fun _ => true) (dcs s b)).2)) (pk K j (fun _ => true) s) K.nb 0).2.2
  have he : pk K (j + 1) (fun _ => true) s = fo cb (fun b => K.ok (K.n - (j + 1)) b && decide (0 < s b)) (fun b => (1 + (pk K j (fun _ => true) (dcs s b)).1, K.rt b + (pk K j (fun _ => true) (dcs s b)).2)) (pk K j (fun _ => true) s) K.nb 0 := by
    rw [pk, if_pos rfl]
  rcases h3 with h3 | ⟨b, -, b2, b3, b4⟩
  · rw [he, h3]
  · exfalso
    have := hf b (Nat.zero_le _) (by show b < fb K j (fun _ => true) s; omega)
    simp only [Bool.and_eq_false_iff] at this
    simp only [Bool.and_eq_true] at b3
    rcases this with (h1 | h1) | h1
    · rw [b3.1] at h1; cases h1
    · rw [b3.2] at h1; cases h1
    · rw [he, b4] at h1
      simp at h1
theorem fb_yes {K : PK} {j : Nat} {s : Nat → Nat} (h : fb K j (fun _ => true) s < K.nb) : 1 + (pk K j (fun _ => true) (dcs s (fb K j (fun _ => true) s))).1 = (pk K (j + 1) (fun _ => true) s).1 := by
  have hf := (fst1_lt (fun b => (K.ok (K.n - (j + 1)) b && decide (0 < s b)) && (1 + (pk K j (fun _ => true) (dcs s b)).1 == (pk K (j + 1) (fun _ => true) s).1)) K.nb 0).2 (by rw [Nat.zero_add]; exact h)
  simp only [Bool.and_eq_true, beq_iff_eq] at hf
  exact hf.2
theorem s_rowLoop {v : Nat → Nat} (w : WF v) {wn : Nat} (hwn : wn < v 4) (R : Nat → Nat) : ∀ k p n s cur x5 σ, p + k = wn + 1 → k < n → KB v s σ → (∀ b, b < v 3 → s b ≤ 4) → pkf (Kv v) (v 4 - p) (fun _ => true) s cur = R → (k = 0 → x5 = sv (R wn)) → ∃ τ, f_X5_firstRowAt_L27 n (nI wn) (nI (frm (v 4) p)) (nI (pk (Kv v) (v 4 - p) (fun _ => true) s).1) x5 (nI p) σ = some (sv (R wn), τ) ∧ AO Bp σ τ := by
  have hp7 : v 4 ≤ 7 := w.2.2.2.2.1
  have hb6 : v 3 ≤ 6 := w.2.2.2.1.2
  intro k
  induction k with
  | zero =>
    intro p n s cur x5 σ hp hn hK hs4 hR hx
    obtain ⟨n, rfl⟩ : ∃ n', n = n' + 1 := ⟨n - 1, by omega⟩
    refine ⟨σ, ?_, AO.refl _ _⟩
    rw [f_X5_firstRowAt_L27, if_pos (show nI wn < nI p by rw [q_lt (by omega) (by omega)]; omega), hx rfl]
  | succ k ih =>
    intro p n s cur x5 σ hp hn hK hs4 hR hx
    obtain ⟨n, rfl⟩ : ∃ n', n = n' + 1 := ⟨n - 1, by omega⟩
    have hpn : p < v 4 := by omega
    have one : nI p + (1 : Int32) = nI (p + 1) := q_add p 1
    have hr : nI (frm (v 4) p) &&& (((1 : Int32) <<< (nI p &&& 31)) ^^^ (-1 : Int32)) = nI (frm (v 4) (p + 1)) := by
      rw [← frm_rmv]
      exact rmv_nI (by omega)
    rw [f_X5_firstRowAt_L27, if_neg (show ¬ nI wn < nI p by rw [q_lt (by omega) (by omega)]; omega), hK.1, if_neg (show ¬ nI (v 4) ≤ nI p by rw [q_le (by omega) (by omega)]; omega), hr]
    simp only [blet, one]
    obtain ⟨τ1, hA, h⟩ := s_takeFirst w hs4 hK hpn
    have hj : v 4 - p = v 4 - p - 1 + 1 := by omega
    rw [hj, pkf, if_pos rfl, Kv_n, Kv_nb, show v 4 - (v 4 - p - 1 + 1) = p by omega] at hR
    rcases h with ⟨h1, h2, h3⟩ | ⟨h1, h2, h3⟩
    · rw [h2]
      rw [if_pos h1] at hR
      simp only [bbd]
      rw [if_neg (show ¬ nI (fb (Kv v) (v 4 - p - 1) (fun _ => true) s) = -2 by
        intro z
        have := sv_eq (k := 0) (by decide) (show fb (Kv v) (v 4 - p - 1) (fun _ => true) s < 6 by omega)
        rw [show sv 0 = (-2 : Int32) from rfl, ← z] at this
        have h0 := this.mp rfl
        omega)]
      have hy := fb_yes (K := Kv v) (j := v 4 - p - 1) (s := s) (by rw [Kv_nb]; exact h1)
      rw [← hj] at hy
      have hM : nI (pk (Kv v) (v 4 - p) (fun _ => true) s).1 + (-1 : Int32) = nI (pk (Kv v) (v 4 - (p + 1)) (fun _ => true) (dcs s (fb (Kv v) (v 4 - p - 1) (fun _ => true) s))).1 := by
        rw [show (-1 : Int32) = -nI 1 from rfl, dec_nI (by omega), show v 4 - (p + 1) = v 4 - p - 1 by omega]
        congr 1
        omega
      rw [hM]
      have hRp : R p = fb (Kv v) (v 4 - p - 1) (fun _ => true) s + 1 := by
        rw [← hR, pkf_lo _ _ _ _ _ _ (by rw [Kv_n]; omega), put, if_pos rfl]
      obtain ⟨τ, j1, j2⟩ := ih (p + 1) n (dcs s (fb (Kv v) (v 4 - p - 1) (fun _ => true) s)) _ (nI (fb (Kv v) (v 4 - p - 1) (fun _ => true) s)) τ1 (by omega) (by omega) h3 (fun b hb => by have := hs4 b hb; unfold dcs; split <;> omega) (by rw [show v 4 - (p + 1) = v 4 - p - 1 by omega]; exact hR) (fun hk => by
        rw [show wn = p by omega, hRp, sv, if_neg (by omega), Nat.add_sub_cancel])
      exact ⟨τ, j1, hA.trans j2⟩
    · rw [h2]
      rw [if_neg h1] at hR
      simp only [bbd, if_true]
      have hy := fb_not (K := Kv v) (j := v 4 - p - 1) (s := s) (by rw [Kv_nb]; exact h1)
      rw [← hj] at hy
      rw [show (pk (Kv v) (v 4 - p) (fun _ => true) s).1 = (pk (Kv v) (v 4 - (p + 1)) (fun _ => true) s).1 by rw [hy, show v 4 - (p + 1) = v 4 - p - 1 by omega]]
      have hRp : R p = 0 := by
        rw [← hR, pkf_lo _ _ _ _ _ _ (by rw [Kv_n]; omega), put, if_pos rfl]
      obtain ⟨τ, j1, j2⟩ := ih (p + 1) n s _ (-2) τ1 (by omega) (by omega) h3 hs4 (by rw [show v 4 - (p + 1) = v 4 - p - 1 by omega]; exact hR) (fun hk => by
        rw [show wn = p by omega, hRp]; rfl)
      exact ⟨τ, j1, hA.trans j2⟩
/-- one of the first row -/
def row1 (v : Nat → Nat) : Nat → Nat := pkf (Kv v) (v 4) (fun _ => true) (st0 v) (fun _ => 0)
theorem all_tb {n i : Nat} (hi : i < n) : (2 ^ n - 1).testBit i = true := by rw [tb_all, everyone, decide_eq_true hi]
theorem s_firstRowAt {c : Nat} {v : Nat → Nat} {σ : bSto} (w : WF v) (hk : kR c) (hh : CVh c v σ) (hf : CVf c v σ) {p : Nat} (hp : p < v 4) : ∃ τ, f_X5_firstRowAt c (nI p) σ = some (sv (row1 v p), τ) ∧ AO Bp σ τ := by
  have hp7 : v 4 ≤ 7 := w.2.2.2.2.1
  obtain ⟨τ1, g1, g2, g3⟩ := s_begin w hk hh hf
  have hf1 := hf.ao g2 (fun a k h => by have := kR_Bp hk a k h; omega)
  obtain ⟨τ2, k1, k2⟩ := s_most w (fun b hb => Nat.le_trans (st0_le w b hb) (by decide)) g3 (frm_lt (p := 0) hp7)
  rw [PM_frm v _ (Nat.zero_le _)] at k1
  obtain ⟨τ3, j1, j2⟩ := s_rowLoop w hp (row1 v) (p + 1) 0 bFU (st0 v) (fun _ => 0) (-2) τ2 (by omega) (by show _ < 100000; omega) (g3.ao k2) (fun b hb => Nat.le_trans (st0_le w b hb) (by decide)) rfl (fun h => by omega)
  refine ⟨τ3, ?_, (g2.trans (k2.mono Bk_Bp)).trans j2⟩
  rw [f_X5_firstRowAt, g1]
  simp only [bbv]
  rw [s_everybody w hf1, ← frm_0]
  simp only [bbd]
  rw [k1]
  simp only []
  rw [show (0 : Int32) = nI 0 from rfl, j1]
  rfl
theorem opn_s (v : Nat → Nat) (t d : Nat) (h : v (14 + 4 * d) ≠ t) : opn (Kv v) (st0 v) (t + 1) d = opn (Kv v) (st0 v) t d := by
  unfold opn
  rw [Kv_rt]
  by_cases e : v (14 + 4 * d) < t
  · rw [if_pos e, if_pos (by omega)]
  · rw [if_neg e, if_neg (by omega)]
theorem s_open {c : Nat} {v : Nat → Nat} {σ : bSto} (w : WF v) (hk : kR c) (hh : CVh c v σ) {t : Nat} (ht : t ≤ 30) (hK : KB v (opn (Kv v) (st0 v) t) σ) : ∃ τ o, f_X5_openSeats (c + 1) (nI t) σ = some (b2 o, τ) ∧ AO Bp σ τ ∧ KB v (opn (Kv v) (st0 v) (t + 1)) τ ∧ (o = false → ∀ b, b < v 3 → v (14 + 4 * b) ≠ t) := by
  have hb6 : v 3 ≤ 6 := w.2.2.2.1.2
  have hfar := kR_far hk
  have hl : ∀ k b n σ (o : Bool), b + k = v 3 → k < n → CVh c v σ → σ.1 58 5 = nI (v 3) → (∀ d, d < v 3 → σ.1 59 d = nI (if d < b then opn (Kv v) (st0 v) (t + 1) d else opn (Kv v) (st0 v) t d)) → (o = false → ∀ d, d < b → v (14 + 4 * d) ≠ t) → ∃ τ o', f_X5_openSeats_L5 n (c + 1) (nI t) (b2 o) (nI b) σ = some (b2 o', τ) ∧ AO (fun a _ => a = 59) σ τ ∧ (∀ d, d < v 3 → τ.1 59 d = nI (opn (Kv v) (st0 v) (t + 1) d)) ∧ (o' = false → ∀ b, b < v 3 → v (14 + 4 * b) ≠ t) := by
    intro k
    induction k with
    | zero =>
      intro b n σ o hb hn hh h5 h59 ho
      obtain ⟨n, rfl⟩ : ∃ n', n = n' + 1 := ⟨n - 1, by omega⟩
      obtain rfl : b = v 3 := by omega
      refine ⟨σ, o, ?_, AO.refl _ _, fun d hd => ?_, ho⟩
      · rw [f_X5_openSeats_L5, h5, if_pos (Int32.le_refl _)]
      · rw [h59 d hd, if_pos hd]
    | succ k ih =>
      intro b n σ o hb hn hh h5 h59 ho
      obtain ⟨n, rfl⟩ : ∃ n', n = n' + 1 := ⟨n - 1, by omega⟩
      have hb3 : b < v 3 := by omega
      have hrent := (w.2.2.2.2.2.2.2.2.2.2.1 b hb3).2.2.2
      obtain ⟨-, -, -, hs, hr⟩ := hh.2.2.2.2.2.2 b hb3
      have qb : (nI b).toNatClampNeg = b := q_cl (by omega)
      have ib : ¬ (nI b < 0 ∨ 6 ≤ b) := by rw [q_lt0 (by omega)]; simp; omega
      have one : nI b + (1 : Int32) = nI (b + 1) := q_add b 1
      rw [f_X5_openSeats_L5, h5, if_neg (show ¬ nI (v 3) ≤ nI b by rw [q_le (by omega) (by omega)]; omega), qb, if_neg ib, hr]
      by_cases e : v (14 + 4 * b) = t
      · rw [if_pos (show nI (v (14 + 4 * b)) = nI t by rw [e]), if_neg ib, if_neg ib, hs]
        simp only [blet, one]
        have hA : AO (fun a _ => a = 59) σ (bI σ 59 b (nI (v (13 + 4 * b)))) := AO.set σ _ rfl
        obtain ⟨τ, o', h1, h2, h3, h4⟩ := ih (b + 1) n (bI σ 59 b (nI (v (13 + 4 * b)))) true (by omega) (by omega) (hh.ao hA (fun a k h => by have : a = 59 := h; omega)) (by rw [bI_ne (Or.inl (by decide)), h5]) (fun d hd => by
          rw [bI_at]
          by_cases ed : d = b
          · rw [if_pos ⟨rfl, ed⟩, ed, if_pos (by omega)]
            congr 1
            unfold opn
            rw [Kv_rt, if_pos (by omega)]
            rfl
          · rw [if_neg (by simp [ed]), h59 d hd]
            by_cases e2 : d < b
            · rw [if_pos e2, if_pos (by omega)]
            · rw [if_neg e2, if_neg (by omega)]) (fun h => by cases h)
        exact ⟨τ, o', h1, hA.trans h2, h3, h4⟩
      · rw [if_neg (show ¬ nI (v (14 + 4 * b)) = nI t by rw [q_eq (by omega) (by omega)]; exact e)]
        simp only [blet, one]
        obtain ⟨τ, o', h1, h2, h3, h4⟩ := ih (b + 1) n σ o (by omega) (by omega) hh h5 (fun d hd => by
          rw [h59 d hd]
          by_cases e2 : d < b
          · rw [if_pos e2, if_pos (by omega)]
          · rw [if_neg e2]
            by_cases ed : d = b
            · rw [if_pos (by omega), ed, opn_s v t b e]
            · rw [if_neg (by omega)]) (fun h d hd => by
          by_cases ed : d = b
          · rw [ed]; exact e
          · exact ho h d (by omega))
        exact ⟨τ, o', h1, h2, h3, h4⟩
  obtain ⟨τ, o, h1, h2, h3, h4⟩ := hl (v 3) 0 bFU σ false (by omega) (by show _ < 100000; omega) hh hK.2.1 (fun d hd => by rw [if_neg (by omega), hK.2.2.1 d hd]) (fun _ d hd => by omega)
  refine ⟨τ, o, ?_, h2.mono (fun a k h => by have : a = 59 := h; unfold Bp; omega), ⟨?_, ?_, h3, fun p hp => ?_⟩, h4⟩
  · rw [f_X5_openSeats, show f_X5_openSeats_L5 bFU (c + 1) (nI t) (0 : Int32) (0 : Int32) = f_X5_openSeats_L5 bFU (c + 1) (nI t) (b2 false) (nI 0) from rfl, h1]
    simp only [bl1, b2_z, if_true]
  · rw [h2.1 58 4 (by show ¬ (58 = 59); decide), hK.1]
  · rw [h2.1 58 5 (by show ¬ (58 = 59); decide), hK.2.1]
  · rw [h2.1 61 p (by show ¬ (61 = 59); decide), hK.2.2.2 p hp]
theorem opn_le {v : Nat → Nat} (w : WF v) (t : Nat) : ∀ b, b < v 3 → opn (Kv v) (st0 v) t b ≤ 4 := fun b hb => by
  have := st0_le w b hb
  unfold opn
  split <;> omega
theorem PM_le (v : Nat → Nat) (A : Nat → Bool) (s : Nat → Nat) : PM (Kv v) A s ≤ v 4 := pkm_le (Kv v) (v 4) A s (Nat.le_refl _)
theorem s_leastRent {c : Nat} {v : Nat → Nat} {σ : bSto} (w : WF v) (hk : kR c) (hh : CVh c v σ) (hf : CVf c v σ) : ∃ τ, f_X5_leastRent c σ = some (nI (pk (Kv v) (v 4) (fun _ => true) (st0 v)).2, τ) ∧ AO Bp σ τ := by
  have hp7 : v 4 ≤ 7 := w.2.2.2.2.1
  have hb6 : v 3 ≤ 6 := w.2.2.2.1.2
  have hBp := kR_Bp hk
  have hl : ∀ k t n σ, t + k = 31 → k < n → CVh c v σ → CVf c v σ → KB v (opn (Kv v) (st0 v) t) σ → ∃ τ, f_X5_leastRent_L20 n c (nI (rsum (Kv v) (2 ^ v 4 - 1).testBit (st0 v) t)) (nI (PM (Kv v) (2 ^ v 4 - 1).testBit (opn (Kv v) (st0 v) t))) (nI t) σ = some (nI (rsum (Kv v) (2 ^ v 4 - 1).testBit (st0 v) 31), τ) ∧ AO Bp σ τ := by
    intro k
    induction k with
    | zero =>
      intro t n σ ht hn hh hf hK
      obtain ⟨n, rfl⟩ : ∃ n', n = n' + 1 := ⟨n - 1, by omega⟩
      obtain rfl : t = 31 := by omega
      refine ⟨σ, ?_, AO.refl _ _⟩
      rw [f_X5_leastRent_L20, if_pos (by decide)]
    | succ k ih =>
      intro t n σ ht hn hh hf hK
      obtain ⟨n, rfl⟩ : ∃ n', n = n' + 1 := ⟨n - 1, by omega⟩
      obtain ⟨τ1, o, g1, g2, g3, g4⟩ := s_open w hk hh (show t ≤ 30 by omega) hK
      have hh1 := hh.ao g2 (fun a k h => by have := hBp a k h; omega)
      have hf1 := hf.ao g2 (fun a k h => by have := hBp a k h; omega)
      have one : nI t + (1 : Int32) = nI (t + 1) := q_add t 1
      have hrs : rsum (Kv v) (2 ^ v 4 - 1).testBit (st0 v) (t + 1) = rsum (Kv v) (2 ^ v 4 - 1).testBit (st0 v) t + t * (PM (Kv v) (2 ^ v 4 - 1).testBit (opn (Kv v) (st0 v) (t + 1)) - PM (Kv v) (2 ^ v 4 - 1).testBit (opn (Kv v) (st0 v) t)) := rfl
      rw [f_X5_leastRent_L20, if_neg (show ¬ (30 : Int32) < nI t by rw [show (30 : Int32) = nI 30 from rfl, q_lt (by omega) (by omega)]; omega), g1]
      simp only [bbd, b2_0, blet, one]
      cases ho : o with
      | false =>
        rw [if_pos rfl]
        have hsame : PM (Kv v) (2 ^ v 4 - 1).testBit (opn (Kv v) (st0 v) (t + 1)) = PM (Kv v) (2 ^ v 4 - 1).testBit (opn (Kv v) (st0 v) t) := PM_congr (Kv v) (fun i _ => rfl) (fun b hb => opn_s v t b (g4 ho b hb))
        obtain ⟨τ, j1, j2⟩ := ih (t + 1) n τ1 (by omega) (by omega) hh1 hf1 g3
        rw [hrs, hsame, Nat.sub_self, Nat.mul_zero, Nat.add_zero] at j1
        exact ⟨τ, j1, g2.trans j2⟩
      | true =>
        rw [if_neg (by decide), s_everybody w hf1]
        simp only []
        obtain ⟨τ2, k1, k2⟩ := s_most w (opn_le w (t + 1)) g3 (p2_128 hp7 (show 2 ^ v 4 - 1 < 2 ^ v 4 by have : 0 < 2 ^ v 4 := Nat.pow_pos (by decide); omega))
        rw [k1]
        simp only []
        have hA2 := k2.mono Bk_Bp
        obtain ⟨τ, j1, j2⟩ := ih (t + 1) n τ2 (by omega) (by omega) (hh1.ao hA2 (fun a k h => by have := hBp a k h; omega)) (hf1.ao hA2 (fun a k h => by have := hBp a k h; omega)) (g3.ao k2)
        refine ⟨τ, ?_, (g2.trans hA2).trans j2⟩
        rw [← j1, hrs, q_sub (opn_mono (Kv v) _ (st0 v) (show t ≤ t + 1 by omega)), q_mul, q_add]
  obtain ⟨τ1, g1, g2, g3⟩ := s_begin w hk hh hf
  have hA1 : AO Bp τ1 (bA τ1 59 (fun k => if k < 6 then 0 else τ1.1 59 k)) := AO.setA τ1 _ (fun k => Or.inr (by unfold Bp; omega))
  have hA := g2.trans hA1
  obtain ⟨τ, j1, j2⟩ := hl 31 0 bFU _ (by decide) (by decide) (hh.ao hA (fun a k h => by have := hBp a k h; omega)) (hf.ao hA (fun a k h => by have := hBp a k h; omega)) (by
    obtain ⟨k1, k2, k3, k4⟩ := g3
    refine ⟨?_, ?_, fun b hb => ?_, fun p hp => ?_⟩
    · rw [bA_ne (by decide), k1]
    · rw [bA_ne (by decide), k2]
    · rw [bA_eq, if_pos (by omega)]
      unfold opn
      rw [if_neg (by omega)]
      rfl
    · rw [bA_ne (by decide), k4 p hp])
  refine ⟨τ, ?_, hA.trans j2⟩
  have h0 : PM (Kv v) (2 ^ v 4 - 1).testBit (opn (Kv v) (st0 v) 0) = 0 := by
    obtain ⟨X, x1, x2⟩ := chain (Kv v) (2 ^ v 4 - 1).testBit (st0 v) 0
    rw [← x2 0 (Nat.le_refl _), Nu, sm_congr (g := fun _ => 0) _ (fun p _ => by simp), sm_zero]
  rw [h0] at j1
  rw [f_X5_leastRent, g1]
  simp only [bbv]
  rw [s_fill (L := 6) rfl (by decide)]
  simp only []
  rw [show f_X5_leastRent_L20 bFU c (0 : Int32) (0 : Int32) (0 : Int32) = f_X5_leastRent_L20 bFU c (nI (rsum (Kv v) (2 ^ v 4 - 1).testBit (st0 v) 0)) (nI 0) (nI 0) from rfl, j1, greedy (Kv v) _ (st0 v) 30 (fun b hb => (w.2.2.2.2.2.2.2.2.2.2.1 b hb).2.2.2)]
  have hpk := pk_congrA (Kv v) (v 4) (Nat.testBit (2 ^ v 4 - 1)) (fun _ => true) (st0 v) (Nat.le_refl _) (fun i _ h => all_tb h)
  rw [Kv_n, hpk]
  rfl
/-- a seat more -/
def inc (s : Nat → Nat) (b : Nat) : Nat → Nat := fun i => if i = b then s i + 1 else s i
def mor (v : Nat → Nat) : Nat := fst1 (fun b => decide (PM (Kv v) (fun _ => true) (st0 v) < PM (Kv v) (fun _ => true) (inc (st0 v) b))) (v 3) 0
def bst (v : Nat → Nat) : Nat := if mor v < v 3 then mor v + 1 else 0
theorem PMall (v s : Nat → Nat) : PM (Kv v) (2 ^ v 4 - 1).testBit s = PM (Kv v) (fun _ => true) s := PM_congr (Kv v) (fun i h => all_tb h) (fun b _ => rfl)
theorem all_lt {n : Nat} (h : n ≤ 7) : 2 ^ n - 1 < 128 := p2_128 h (by have : 0 < 2 ^ n := Nat.pow_pos (by decide); omega)
theorem s_seatMore {c : Nat} {v : Nat → Nat} {σ : bSto} (w : WF v) (hk : kR c) (hh : CVh c v σ) (hf : CVf c v σ) : ∃ τ, f_X5_seatMore c σ = some (sv (bst v), τ) ∧ AO Bp σ τ := by
  have hp7 : v 4 ≤ 7 := w.2.2.2.2.1
  have hb6 : v 3 ≤ 6 := w.2.2.2.1.2
  have hBp := kR_Bp hk
  have hl : ∀ k b n σ, b + k = v 3 → k < n → KB v (st0 v) σ → ∃ τ, AO Bp σ τ ∧ f_X5_seatMore_L22 n (nI (2 ^ v 4 - 1)) (nI (PM (Kv v) (fun _ => true) (st0 v))) (nI b) σ = if fst1 (fun b => decide (PM (Kv v) (fun _ => true) (st0 v) < PM (Kv v) (fun _ => true) (inc (st0 v) b))) k b < v 3 then some (.inl (nI (fst1 (fun b => decide (PM (Kv v) (fun _ => true) (st0 v) < PM (Kv v) (fun _ => true) (inc (st0 v) b))) k b), τ)) else some (.inr τ) := by
    intro k
    induction k with
    | zero =>
      intro b n σ hb hn hK
      obtain ⟨n, rfl⟩ : ∃ n', n = n' + 1 := ⟨n - 1, by omega⟩
      obtain rfl : b = v 3 := by omega
      refine ⟨σ, AO.refl _ _, ?_⟩
      rw [f_X5_seatMore_L22, hK.2.1, if_pos (Int32.le_refl _), fst1, if_neg (by omega)]
    | succ k ih =>
      intro b n σ hb hn hK
      obtain ⟨n, rfl⟩ : ∃ n', n = n' + 1 := ⟨n - 1, by omega⟩
      have hb3 : b < v 3 := by omega
      have hs := st0_le w b hb3
      have qb : (nI b).toNatClampNeg = b := q_cl (by omega)
      have ib : ¬ (nI b < 0 ∨ 6 ≤ b) := by rw [q_lt0 (by omega)]; simp; omega
      have one : nI b + (1 : Int32) = nI (b + 1) := q_add b 1
      rw [f_X5_seatMore_L22, hK.2.1, if_neg (show ¬ nI (v 3) ≤ nI b by rw [q_le (by omega) (by omega)]; omega), qb, if_neg ib, if_neg ib, hK.2.2.1 b hb3, show nI (st0 v b) + (1 : Int32) = nI (st0 v b + 1) from q_add _ 1]
      simp only [blet]
      have hA1 : AO Bp σ (bI σ 59 b (nI (st0 v b + 1))) := AO.set σ _ (by unfold Bp; omega)
      have hK1 : KB v (inc (st0 v) b) (bI σ 59 b (nI (st0 v b + 1))) := by
        obtain ⟨k1, k2, k3, k4⟩ := hK
        refine ⟨?_, ?_, fun d hd => ?_, fun q hq => ?_⟩
        · rw [bI_ne (Or.inl (by decide)), k1]
        · rw [bI_ne (Or.inl (by decide)), k2]
        · rw [bI_at, inc]
          by_cases e : d = b
          · rw [if_pos ⟨rfl, e⟩, if_pos e, e]
          · rw [if_neg (by simp [e]), if_neg e, k3 d hd]
        · rw [bI_ne (Or.inl (by decide)), k4 q hq]
      obtain ⟨τ1, g1, g2⟩ := s_most w (fun d hd => by have := st0_le w d hd; unfold inc; split <;> omega) hK1 (all_lt hp7)
      rw [g1, PMall]
      simp only [bbd]
      have l1 := PM_le v (fun _ => true) (st0 v)
      have l2 := PM_le v (fun _ => true) (inc (st0 v) b)
      have hA2 := hA1.trans (g2.mono Bk_Bp)
      rw [fst1]
      by_cases h : PM (Kv v) (fun _ => true) (st0 v) < PM (Kv v) (fun _ => true) (inc (st0 v) b)
      · simp only [decide_eq_true h, if_true]
        rw [if_neg (show ¬ nI (PM (Kv v) (fun _ => true) (inc (st0 v) b)) ≤ nI (PM (Kv v) (fun _ => true) (st0 v)) by rw [q_le (by omega) (by omega)]; omega)]
        refine ⟨τ1, hA2, ?_⟩
        rw [if_pos hb3]
      · simp only [decide_eq_false h, Bool.false_eq_true, if_false]
        rw [if_pos (show nI (PM (Kv v) (fun _ => true) (inc (st0 v) b)) ≤ nI (PM (Kv v) (fun _ => true) (st0 v)) by rw [q_le (by omega) (by omega)]; omega), if_neg ib, if_neg ib, one]
        have hK2 := hK1.ao g2
        have e59 : τ1.1 59 b - (1 : Int32) = nI (st0 v b) := by
          rw [hK2.2.2.1 b hb3, inc, if_pos rfl]
          exact q_sub (b := 1) (by omega)
        rw [e59]
        have hA3 : AO Bp τ1 (bI τ1 59 b (nI (st0 v b))) := AO.set τ1 _ (by unfold Bp; omega)
        obtain ⟨τ, j1, j2⟩ := ih (b + 1) n (bI τ1 59 b (nI (st0 v b))) (by omega) (by omega) (by
          obtain ⟨k1, k2, k3, k4⟩ := hK2
          refine ⟨?_, ?_, fun d hd => ?_, fun q hq => ?_⟩
          · rw [bI_ne (Or.inl (by decide)), k1]
          · rw [bI_ne (Or.inl (by decide)), k2]
          · rw [bI_at]
            by_cases e : d = b
            · rw [if_pos ⟨rfl, e⟩, e]
            · rw [if_neg (by simp [e]), k3 d hd, inc, if_neg e]
          · rw [bI_ne (Or.inl (by decide)), k4 q hq])
        exact ⟨τ, (hA2.trans hA3).trans j1, j2⟩
  obtain ⟨τ1, g1, g2, g3⟩ := s_begin w hk hh hf
  have hf1 := hf.ao g2 (fun a k h => by have := hBp a k h; omega)
  obtain ⟨τ2, k1, k2⟩ := s_most w (fun b hb => Nat.le_trans (st0_le w b hb) (by decide)) g3 (all_lt hp7)
  obtain ⟨τ, j1, j2⟩ := hl (v 3) 0 bFU τ2 (by omega) (by show _ < 100000; omega) (g3.ao k2)
  refine ⟨τ, ?_, (g2.trans (k2.mono Bk_Bp)).trans j1⟩
  rw [f_X5_seatMore, g1]
  simp only [bbv]
  rw [s_everybody w hf1]
  simp only [bbd]
  rw [k1, PMall]
  simp only []
  rw [show (0 : Int32) = nI 0 from rfl, j2, bst]
  show br0 (if mor v < v 3 then some (.inl (nI (mor v), τ)) else some (.inr τ)) _ _ = _
  by_cases h : mor v < v 3
  · rw [if_pos h, if_pos h]; rfl
  · rw [if_neg h, if_neg h]; rfl
theorem s_bestSeatM {v : Nat → Nat} {σ : bSto} (w : WF v) (hv : MV v σ) : ∃ τ, f_X12_bestSeat_L29 bFU (nI (PM (Kv v) (fun _ => true) (st0 v))) (-2) (nI 0) σ = some (sv (bst v), τ) ∧ AO BS σ τ := by
  have hp7 : v 4 ≤ 7 := w.2.2.2.2.1
  have hb6 : v 3 ≤ 6 := w.2.2.2.1.2
  have hone : ∀ b σ, b < v 3 → MV v σ → ∃ τ, f_X12_seekSits (-1 : Int32) (nI b) σ = some (nI (PM (Kv v) (fun _ => true) (inc (st0 v) b)), τ) ∧ AO BS σ τ := by
    intro b σ hb hv
    obtain ⟨τ, h1, h2, -, -⟩ := s_seekS w hv (wo := 0) (mo := b + 1) (by decide) (by omega)
    refine ⟨τ, ?_, h2⟩
    rw [show (-1 : Int32) = bv 0 from rfl, show nI b = bv (b + 1) from rfl, h1]
    congr 3
    exact PM_congr (Kv v) (fun i _ => by simp [but]) (fun d _ => by
      unfold sts inc st0
      by_cases e : d = b
      · rw [if_pos e, if_pos (by omega)]
      · rw [if_neg e, if_neg (by omega)]; rfl)
  have hl2 : ∀ k b n x2 σ, b + k = v 3 → k < n → MV v σ → ∃ τ, f_X12_bestSeat_L29 n (nI (PM (Kv v) (fun _ => true) (st0 v) + 1)) x2 (nI b) σ = some (x2, τ) ∧ AO BS σ τ := by
    intro k
    induction k with
    | zero =>
      intro b n x2 σ hb hn hv
      obtain ⟨n, rfl⟩ : ∃ n', n = n' + 1 := ⟨n - 1, by omega⟩
      obtain rfl : b = v 3 := by omega
      refine ⟨σ, ?_, AO.refl _ _⟩
      rw [f_X12_bestSeat_L29, hv.at 3 (by decide) (by decide), if_pos (Int32.le_refl _)]
    | succ k ih =>
      intro b n x2 σ hb hn hv
      obtain ⟨n, rfl⟩ : ∃ n', n = n' + 1 := ⟨n - 1, by omega⟩
      obtain ⟨τ1, h1, h2⟩ := hone b σ (by omega) hv
      have one : nI b + (1 : Int32) = nI (b + 1) := q_add b 1
      have l1 := PM_le v (fun _ => true) (st0 v)
      have hm := (pm_more (Kv v) (fun _ => true) (st0 v) b).2
      rw [f_X12_bestSeat_L29, hv.at 3 (by decide) (by decide), if_neg (show ¬ nI (v 3) ≤ nI b by rw [q_le (by omega) (by omega)]; omega), h1]
      simp only [bbd, blet, one]
      rw [if_neg (show ¬ nI (PM (Kv v) (fun _ => true) (st0 v) + 1) < nI (PM (Kv v) (fun _ => true) (inc (st0 v) b)) by
        rw [q_lt (by omega) (by show PM (Kv v) (fun _ => true) (fun i => if i = b then st0 v i + 1 else st0 v i) < _; omega)]
        show ¬ _ < PM (Kv v) (fun _ => true) (fun i => if i = b then st0 v i + 1 else st0 v i)
        omega)]
      obtain ⟨τ, j1, j2⟩ := ih (b + 1) n x2 τ1 (by omega) (by omega) (hv.ao h2 (fun k h => by rcases h with h | h | h | h <;> omega))
      exact ⟨τ, j1, h2.trans j2⟩
  have hl : ∀ k b n σ, b + k = v 3 → k < n → MV v σ → ∃ τ, f_X12_bestSeat_L29 n (nI (PM (Kv v) (fun _ => true) (st0 v))) (-2) (nI b) σ = some (if fst1 (fun b => decide (PM (Kv v) (fun _ => true) (st0 v) < PM (Kv v) (fun _ => true) (inc (st0 v) b))) k b < v 3 then nI (fst1 (fun b => decide (PM (Kv v) (fun _ => true) (st0 v) < PM (Kv v) (fun _ => true) (inc (st0 v) b))) k b) else -2, τ) ∧ AO BS σ τ := by
    intro k
    induction k with
    | zero =>
      intro b n σ hb hn hv
      obtain ⟨n, rfl⟩ : ∃ n', n = n' + 1 := ⟨n - 1, by omega⟩
      obtain rfl : b = v 3 := by omega
      refine ⟨σ, ?_, AO.refl _ _⟩
      rw [f_X12_bestSeat_L29, hv.at 3 (by decide) (by decide), if_pos (Int32.le_refl _), fst1, if_neg (by omega)]
    | succ k ih =>
      intro b n σ hb hn hv
      obtain ⟨n, rfl⟩ : ∃ n', n = n' + 1 := ⟨n - 1, by omega⟩
      obtain ⟨τ1, h1, h2⟩ := hone b σ (by omega) hv
      have one : nI b + (1 : Int32) = nI (b + 1) := q_add b 1
      have l1 := PM_le v (fun _ => true) (st0 v)
      have l2 := PM_le v (fun _ => true) (inc (st0 v) b)
      have hm : PM (Kv v) (fun _ => true) (inc (st0 v) b) ≤ PM (Kv v) (fun _ => true) (st0 v) + 1 := (pm_more (Kv v) (fun _ => true) (st0 v) b).2
      have hv1 := hv.ao h2 (fun k h => by rcases h with h | h | h | h <;> omega)
      rw [f_X12_bestSeat_L29, hv.at 3 (by decide) (by decide), if_neg (show ¬ nI (v 3) ≤ nI b by rw [q_le (by omega) (by omega)]; omega), h1, fst1]
      simp only [bbd, blet, one]
      by_cases h : PM (Kv v) (fun _ => true) (st0 v) < PM (Kv v) (fun _ => true) (inc (st0 v) b)
      · rw [if_pos (show nI (PM (Kv v) (fun _ => true) (st0 v)) < nI (PM (Kv v) (fun _ => true) (inc (st0 v) b)) by rw [q_lt (by omega) (by omega)]; exact h)]
        simp only [decide_eq_true h, if_true]
        rw [if_pos (show b < v 3 by omega), show PM (Kv v) (fun _ => true) (inc (st0 v) b) = PM (Kv v) (fun _ => true) (st0 v) + 1 by omega]
        obtain ⟨τ, j1, j2⟩ := hl2 k (b + 1) n (nI b) τ1 (by omega) (by omega) hv1
        exact ⟨τ, j1, h2.trans j2⟩
      · rw [if_neg (show ¬ nI (PM (Kv v) (fun _ => true) (st0 v)) < nI (PM (Kv v) (fun _ => true) (inc (st0 v) b)) by rw [q_lt (by omega) (by omega)]; exact h)]
        simp only [decide_eq_false h, Bool.false_eq_true, if_false]
        obtain ⟨τ, j1, j2⟩ := ih (b + 1) n τ1 (by omega) (by omega) hv1
        exact ⟨τ, j1, h2.trans j2⟩
  obtain ⟨τ, h1, h2⟩ := hl (v 3) 0 bFU σ (by omega) (by show _ < 100000; omega) hv
  refine ⟨τ, ?_, h2⟩
  rw [h1, bst]
  show some ((if mor v < v 3 then nI (mor v) else -2), τ) = _
  by_cases h : mor v < v 3
  · rw [if_pos h, if_pos h]; rfl
  · rw [if_neg h, if_neg h]; rfl
theorem bbv_s {β : Type} (s : bSto) (k : bSto → Option β) : bbv (some s) k = k s := by unfold bbv; rfl
theorem bbd_s {α β : Type} (a : α) (s : bSto) (k : α → bSto → Option β) : bbd (some (a, s)) k = k a s := by unfold bbd; rfl
/-- the class's packed, without one -/
theorem s_packed {c : Nat} {v : Nat → Nat} {σ : bSto} (w : WF v) (hk : kR c) (hh : CVh c v σ) (hf : CVf c v σ) {W : Nat} (hW : W < 128) : ∃ τ, bbv (f_X5_begin c σ) (fun σ2 => f_X5_most (nI W) σ2) = some (nI (PM (Kv v) W.testBit (st0 v)), τ) ∧ AO Bp σ τ := by
  obtain ⟨τ1, g1, g2, g3⟩ := s_begin w hk hh hf
  obtain ⟨τ2, k1, k2⟩ := s_most w (fun b hb => Nat.le_trans (st0_le w b hb) (by decide)) g3 hW
  exact ⟨τ2, by rw [g1, bbv_s]; exact k1, g2.trans (k2.mono Bk_Bp)⟩
